section RG
set_option maxRecDepth 100000 in
theorem rg_X3_caught_0 {S : Sx} {Q : Option PV → Zm → Prop} {mem : Zm}   {x1 : Int} 
    (h : (((0 ≤ x1 ∧ x1 < mem 1 7) → ((0 ≤ x1 ∧ x1 < 8) ∧ (in32 ((mem (1 + 2) (6 * (x1).toNat + 5)) + 1)) ∧ (∃ (v4 : Int) (m5 : Zm), Ct1 S mX3_daysUntil [Aq 0, Iq x1, Iq 5, Iq ((mem (1 + 2) (6 * (x1).toNat + 5)) + 1)] mem (some (Iq v4)) m5 ∧ ((((v4 = -1000004) → ((fOX m5 (-1000004)) ∧ Q (some (Iq (-1000004))) (fndx m5 (-1000004)))) ∧ (¬ (v4 = -1000004) → (Q (some (Iq v4)) m5))))))) ∧ (¬ (0 ≤ x1 ∧ x1 < mem 1 7) → ((fOX mem (-1000001)) ∧ Q (some (Iq (-1000001))) (fndx mem (-1000001)))))) :
    PW S mX3_caught Q 0 [some (Aq 0), some (Iq x1), none] [] mem := by
  refine pw_aload_n eX3_caught_0 rfl rfl ?_
  refine gf_RX3_10 rfl eX3_caught_1 sh0 ?_
  refine pw_iload_n eX3_caught_4 rfl rfl ?_
  refine pw_cV (z := mX0_has) (av := [Iq x1]) (st := []) eX3_caught_5 lk_RX3_68 rfl (by decide) (by decide) (shR isR1) rfl rfl (Nat.le_of_ble_eq_true rfl) rfl (ct_X0_has (mem := mem) isR1) ?_
  show PW S mX3_caught Q 8 [some (Aq 0), some (Iq x1), none] [Iq (bI (0 ≤ x1 ∧ x1 < mem 1 7))] mem
  refine pw_if_ne eX3_caught_8 (fun c1 => ?_) (fun c1 => ?_)
  · have h := h.1 (bI1.mp c1)
    refine pw_aload_n eX3_caught_18 rfl rfl ?_
    refine pw_iload_n eX3_caught_19 rfl rfl ?_
    refine pw_iconst eX3_caught_20 ⟨by decide, by decide⟩ ?_
    refine pw_aload_n eX3_caught_21 rfl rfl ?_
    refine gf_RX3_10 rfl eX3_caught_22 sh0 ?_
    refine pw_iload_n eX3_caught_25 rfl rfl ?_
    refine pw_iconst eX3_caught_26 ⟨by decide, by decide⟩ ?_
    obtain ⟨ob2, h⟩ := h
    refine pw_cV (z := mX0_fact) (av := [Iq x1, Iq 5]) (st := [Iq 5, Iq x1, Aq 0]) eX3_caught_27 lk_RX3_81 rfl (by decide) (by decide) (shR isR1) rfl rfl (Nat.le_of_ble_eq_true rfl) rfl (ct_X0_fact (mem := mem) isR1 ⟨ob2.1, ob2.2, by decide, by decide⟩) ?_
    show PW S mX3_caught Q 30 [some (Aq 0), some (Iq x1), none] [Iq (mem (1 + 2) (6 * (x1).toNat + 5)), Iq 5, Iq x1, Aq 0] mem
    refine pw_iconst eX3_caught_30 ⟨by decide, by decide⟩ ?_
    obtain ⟨ob3, h⟩ := h
    refine pw_iadd eX3_caught_31 ob3 ?_
    obtain ⟨v4, m5, hc6, h⟩ := h
    refine pw_cV (z := mX3_daysUntil) (av := [Iq x1, Iq 5, Iq ((mem (1 + 2) (6 * (x1).toNat + 5)) + 1)]) (st := []) eX3_caught_32 lk_RX3_130 rfl (by decide) (by decide) sh0 rfl rfl (Nat.le_of_ble_eq_true rfl) rfl hc6 ?_
    show PW S mX3_caught Q 35 [some (Aq 0), some (Iq x1), none] [Iq v4] m5
    refine pw_istore_n (ls2 := [some (Aq 0), some (Iq x1), some (Iq v4)]) eX3_caught_35 rfl (by decide) rfl ?_
    refine pw_iload_n eX3_caught_36 rfl rfl ?_
    refine pw_ldc (n := (-1000004)) eX3_caught_37 ⟨by decide, by decide⟩ kc_RX3_133 ?_
    refine pw_icmp_ne eX3_caught_39 (fun c7 => ?_) (fun c7 => ?_)
    · have h := h.2 c7
      refine pw_iload_n eX3_caught_51 rfl rfl ?_
      exact pw_iret eX3_caught_52 h
    · have h := h.1 (Classical.not_not.mp c7)
      refine pw_aload_n eX3_caught_42 rfl rfl ?_
      refine pw_ldc (n := (-1000004)) eX3_caught_43 ⟨by decide, by decide⟩ kc_RX3_133 ?_
      obtain ⟨ob8, h⟩ := h
      refine pw_cV (z := mX3_finding) (av := [Iq (-1000004)]) (st := []) eX3_caught_45 lk_RX3_49 rfl (by decide) (by decide) sh0 rfl rfl (Nat.le_of_ble_eq_true rfl) rfl (ct_X3_finding (mem := m5) ob8) ?_
      show PW S mX3_caught Q 48 [some (Aq 0), some (Iq x1), some (Iq v4)] [Iq (-1000004)] (fndx m5 (-1000004))
      refine pw_goto eX3_caught_48 ?_
      exact pw_iret eX3_caught_52 h
  · have h := h.2 (bI0.mp (Classical.not_not.mp c1))
    refine pw_aload_n eX3_caught_11 rfl rfl ?_
    refine pw_ldc (n := (-1000001)) eX3_caught_12 ⟨by decide, by decide⟩ kc_RX3_48 ?_
    obtain ⟨ob9, h⟩ := h
    refine pw_cV (z := mX3_finding) (av := [Iq (-1000001)]) (st := []) eX3_caught_14 lk_RX3_49 rfl (by decide) (by decide) sh0 rfl rfl (Nat.le_of_ble_eq_true rfl) rfl (ct_X3_finding (mem := mem) ob9) ?_
    show PW S mX3_caught Q 17 [some (Aq 0), some (Iq x1), none] [Iq (-1000001)] (fndx mem (-1000001))
    exact pw_iret eX3_caught_17 h
set_option maxRecDepth 100000 in
theorem rg_X3_when_0 {S : Sx} {Q : Option PV → Zm → Prop} {mem : Zm}   {x1 x2 : Int} 
    (h : (((0 ≤ x1 ∧ x1 < mem 1 7) → ((((0 ≤ x2 ∧ x2 ≤ 9999) → ((∃ (v4 : Int) (m5 : Zm), Ct1 S mX3_daysUntil [Aq 0, Iq x1, Iq 3, Iq x2] mem (some (Iq v4)) m5 ∧ ((((v4 = -1000004) → ((fOX m5 (-1000004)) ∧ Q (some (Iq (-1000004))) (fndx m5 (-1000004)))) ∧ (¬ (v4 = -1000004) → (Q (some (Iq v4)) m5))))))) ∧ (¬ (0 ≤ x2 ∧ x2 ≤ 9999) → ((fOX mem (-1000001)) ∧ Q (some (Iq (-1000001))) (fndx mem (-1000001))))))) ∧ (¬ (0 ≤ x1 ∧ x1 < mem 1 7) → ((fOX mem (-1000001)) ∧ Q (some (Iq (-1000001))) (fndx mem (-1000001)))))) :
    PW S mX3_when Q 0 [some (Aq 0), some (Iq x1), some (Iq x2), none] [] mem := by
  refine pw_aload_n eX3_when_0 rfl rfl ?_
  refine gf_RX3_10 rfl eX3_when_1 sh0 ?_
  refine pw_iload_n eX3_when_4 rfl rfl ?_
  refine pw_cV (z := mX0_has) (av := [Iq x1]) (st := []) eX3_when_5 lk_RX3_68 rfl (by decide) (by decide) (shR isR1) rfl rfl (Nat.le_of_ble_eq_true rfl) rfl (ct_X0_has (mem := mem) isR1) ?_
  show PW S mX3_when Q 8 [some (Aq 0), some (Iq x1), some (Iq x2), none] [Iq (bI (0 ≤ x1 ∧ x1 < mem 1 7))] mem
  refine pw_if_eq eX3_when_8 (fun c1 => ?_) (fun c1 => ?_)
  · have h := h.2 (bI0.mp c1)
    refine pw_aload_n eX3_when_22 rfl rfl ?_
    refine pw_ldc (n := (-1000001)) eX3_when_23 ⟨by decide, by decide⟩ kc_RX3_48 ?_
    obtain ⟨ob2, h⟩ := h
    refine pw_cV (z := mX3_finding) (av := [Iq (-1000001)]) (st := []) eX3_when_25 lk_RX3_49 rfl (by decide) (by decide) sh0 rfl rfl (Nat.le_of_ble_eq_true rfl) rfl (ct_X3_finding (mem := mem) ob2) ?_
    show PW S mX3_when Q 28 [some (Aq 0), some (Iq x1), some (Iq x2), none] [Iq (-1000001)] (fndx mem (-1000001))
    exact pw_iret eX3_when_28 h
  · have h := h.1 (bI1.mp c1)
    refine pw_iload_n eX3_when_11 rfl rfl ?_
    refine pw_iconst eX3_when_12 ⟨by decide, by decide⟩ ?_
    refine pw_sipush eX3_when_13 ⟨by decide, by decide⟩ (by decide) ?_
    refine pw_cS (z := mX3_within) (av := [Iq x2, Iq 0, Iq 9999]) (st := []) eX3_when_16 lk_RX3_44 rfl (by decide) (by decide) (Nat.le_of_ble_eq_true rfl) rfl (ct_X3_within (mem := mem)) ?_
    show PW S mX3_when Q 19 [some (Aq 0), some (Iq x1), some (Iq x2), none] [Iq (bI (0 ≤ x2 ∧ x2 ≤ 9999))] mem
    refine pw_if_ne eX3_when_19 (fun c3 => ?_) (fun c3 => ?_)
    · have h := h.1 (bI1.mp c3)
      refine pw_aload_n eX3_when_29 rfl rfl ?_
      refine pw_iload_n eX3_when_30 rfl rfl ?_
      refine pw_iconst eX3_when_31 ⟨by decide, by decide⟩ ?_
      refine pw_iload_n eX3_when_32 rfl rfl ?_
      obtain ⟨v4, m5, hc6, h⟩ := h
      refine pw_cV (z := mX3_daysUntil) (av := [Iq x1, Iq 3, Iq x2]) (st := []) eX3_when_33 lk_RX3_130 rfl (by decide) (by decide) sh0 rfl rfl (Nat.le_of_ble_eq_true rfl) rfl hc6 ?_
      show PW S mX3_when Q 36 [some (Aq 0), some (Iq x1), some (Iq x2), none] [Iq v4] m5
      refine pw_istore_n (ls2 := [some (Aq 0), some (Iq x1), some (Iq x2), some (Iq v4)]) eX3_when_36 rfl (by decide) rfl ?_
      refine pw_iload_n eX3_when_37 rfl rfl ?_
      refine pw_ldc (n := (-1000004)) eX3_when_38 ⟨by decide, by decide⟩ kc_RX3_133 ?_
      refine pw_icmp_ne eX3_when_40 (fun c7 => ?_) (fun c7 => ?_)
      · have h := h.2 c7
        refine pw_iload_n eX3_when_52 rfl rfl ?_
        exact pw_iret eX3_when_53 h
      · have h := h.1 (Classical.not_not.mp c7)
        refine pw_aload_n eX3_when_43 rfl rfl ?_
        refine pw_ldc (n := (-1000004)) eX3_when_44 ⟨by decide, by decide⟩ kc_RX3_133 ?_
        obtain ⟨ob8, h⟩ := h
        refine pw_cV (z := mX3_finding) (av := [Iq (-1000004)]) (st := []) eX3_when_46 lk_RX3_49 rfl (by decide) (by decide) sh0 rfl rfl (Nat.le_of_ble_eq_true rfl) rfl (ct_X3_finding (mem := m5) ob8) ?_
        show PW S mX3_when Q 49 [some (Aq 0), some (Iq x1), some (Iq x2), some (Iq v4)] [Iq (-1000004)] (fndx m5 (-1000004))
        refine pw_goto eX3_when_49 ?_
        exact pw_iret eX3_when_53 h
    · have h := h.2 (bI0.mp (Classical.not_not.mp c3))
      refine pw_aload_n eX3_when_22 rfl rfl ?_
      refine pw_ldc (n := (-1000001)) eX3_when_23 ⟨by decide, by decide⟩ kc_RX3_48 ?_
      obtain ⟨ob9, h⟩ := h
      refine pw_cV (z := mX3_finding) (av := [Iq (-1000001)]) (st := []) eX3_when_25 lk_RX3_49 rfl (by decide) (by decide) sh0 rfl rfl (Nat.le_of_ble_eq_true rfl) rfl (ct_X3_finding (mem := mem) ob9) ?_
      show PW S mX3_when Q 28 [some (Aq 0), some (Iq x1), some (Iq x2), none] [Iq (-1000001)] (fndx mem (-1000001))
      exact pw_iret eX3_when_28 h
set_option maxRecDepth 100000 in
theorem rg_X3_copyFrom_0 {S : Sx} {Q : Option PV → Zm → Prop} {mem : Zm}   {x1 x2 : Int} 
    (h : (((0 ≤ x1 ∧ x1 < mem 1 7) → ((((0 ≤ x2 ∧ x2 ≤ 20) → (PW S mX3_copyFrom Q 36 [some (Aq 0), some (Iq x1), some (Iq x2), some (Iq (-1)), some (Iq (-1)), some (Iq 0), none] [] mem)) ∧ (¬ (0 ≤ x2 ∧ x2 ≤ 20) → ((fOX mem (-1000001)) ∧ Q (some (Iq (-1000001))) (fndx mem (-1000001))))))) ∧ (¬ (0 ≤ x1 ∧ x1 < mem 1 7) → ((fOX mem (-1000001)) ∧ Q (some (Iq (-1000001))) (fndx mem (-1000001)))))) :
    PW S mX3_copyFrom Q 0 [some (Aq 0), some (Iq x1), some (Iq x2), none, none, none, none] [] mem := by
  refine pw_aload_n eX3_copyFrom_0 rfl rfl ?_
  refine gf_RX3_10 rfl eX3_copyFrom_1 sh0 ?_
  refine pw_iload_n eX3_copyFrom_4 rfl rfl ?_
  refine pw_cV (z := mX0_has) (av := [Iq x1]) (st := []) eX3_copyFrom_5 lk_RX3_68 rfl (by decide) (by decide) (shR isR1) rfl rfl (Nat.le_of_ble_eq_true rfl) rfl (ct_X0_has (mem := mem) isR1) ?_
  show PW S mX3_copyFrom Q 8 [some (Aq 0), some (Iq x1), some (Iq x2), none, none, none, none] [Iq (bI (0 ≤ x1 ∧ x1 < mem 1 7))] mem
  refine pw_if_eq eX3_copyFrom_8 (fun c1 => ?_) (fun c1 => ?_)
  · have h := h.2 (bI0.mp c1)
    refine pw_aload_n eX3_copyFrom_21 rfl rfl ?_
    refine pw_ldc (n := (-1000001)) eX3_copyFrom_22 ⟨by decide, by decide⟩ kc_RX3_48 ?_
    obtain ⟨ob2, h⟩ := h
    refine pw_cV (z := mX3_finding) (av := [Iq (-1000001)]) (st := []) eX3_copyFrom_24 lk_RX3_49 rfl (by decide) (by decide) sh0 rfl rfl (Nat.le_of_ble_eq_true rfl) rfl (ct_X3_finding (mem := mem) ob2) ?_
    show PW S mX3_copyFrom Q 27 [some (Aq 0), some (Iq x1), some (Iq x2), none, none, none, none] [Iq (-1000001)] (fndx mem (-1000001))
    exact pw_iret eX3_copyFrom_27 h
  · have h := h.1 (bI1.mp c1)
    refine pw_iload_n eX3_copyFrom_11 rfl rfl ?_
    refine pw_iconst eX3_copyFrom_12 ⟨by decide, by decide⟩ ?_
    refine pw_bipush eX3_copyFrom_13 ⟨by decide, by decide⟩ (by decide) ?_
    refine pw_cS (z := mX3_within) (av := [Iq x2, Iq 0, Iq 20]) (st := []) eX3_copyFrom_15 lk_RX3_44 rfl (by decide) (by decide) (Nat.le_of_ble_eq_true rfl) rfl (ct_X3_within (mem := mem)) ?_
    show PW S mX3_copyFrom Q 18 [some (Aq 0), some (Iq x1), some (Iq x2), none, none, none, none] [Iq (bI (0 ≤ x2 ∧ x2 ≤ 20))] mem
    refine pw_if_ne eX3_copyFrom_18 (fun c3 => ?_) (fun c3 => ?_)
    · have h := h.1 (bI1.mp c3)
      refine pw_iconst eX3_copyFrom_28 ⟨by decide, by decide⟩ ?_
      refine pw_istore_n (ls2 := [some (Aq 0), some (Iq x1), some (Iq x2), some (Iq (-1)), none, none, none]) eX3_copyFrom_29 rfl (by decide) rfl ?_
      refine pw_iconst eX3_copyFrom_30 ⟨by decide, by decide⟩ ?_
      refine pw_istore (ls2 := [some (Aq 0), some (Iq x1), some (Iq x2), some (Iq (-1)), some (Iq (-1)), none, none]) eX3_copyFrom_31 (by decide) rfl ?_
      refine pw_iconst eX3_copyFrom_33 ⟨by decide, by decide⟩ ?_
      refine pw_istore (ls2 := [some (Aq 0), some (Iq x1), some (Iq x2), some (Iq (-1)), some (Iq (-1)), some (Iq 0), none]) eX3_copyFrom_34 (by decide) rfl ?_
      exact h
    · have h := h.2 (bI0.mp (Classical.not_not.mp c3))
      refine pw_aload_n eX3_copyFrom_21 rfl rfl ?_
      refine pw_ldc (n := (-1000001)) eX3_copyFrom_22 ⟨by decide, by decide⟩ kc_RX3_48 ?_
      obtain ⟨ob4, h⟩ := h
      refine pw_cV (z := mX3_finding) (av := [Iq (-1000001)]) (st := []) eX3_copyFrom_24 lk_RX3_49 rfl (by decide) (by decide) sh0 rfl rfl (Nat.le_of_ble_eq_true rfl) rfl (ct_X3_finding (mem := mem) ob4) ?_
      show PW S mX3_copyFrom Q 27 [some (Aq 0), some (Iq x1), some (Iq x2), none, none, none, none] [Iq (-1000001)] (fndx mem (-1000001))
      exact pw_iret eX3_copyFrom_27 h

set_option maxRecDepth 100000 in
theorem rg_X3_copyFrom_36 {S : Sx} {Q : Option PV → Zm → Prop} {mem : Zm}   {x1 x2 x3 x4 x5 : Int} 
    (h : (((mem 1 7 ≤ x5) → ((∃ (v2 : Int) (m3 : Zm), Ct1 S mX3_marksWith [Aq 0, Iq x1, Iq 2, Iq (-1), Iq x2] mem (some (Iq v2)) m3 ∧ ((((v2 ≤ x4) → (Q (some (Iq x3)) m3)) ∧ (¬ (v2 ≤ x4) → (Q (some (Iq (-1))) m3))))))) ∧ (¬ (mem 1 7 ≤ x5) → ((((x5 = x1) → ((((-1 ≤ x4) → ((in32 (x5 + 1)) ∧ PW S mX3_copyFrom Q 36 [some (Aq 0), some (Iq x1), some (Iq x2), some (Iq x3), some (Iq x4), some (Iq (x5 + 1)), none] [] mem)) ∧ (¬ (-1 ≤ x4) → ((in32 (x5 + 1)) ∧ PW S mX3_copyFrom Q 36 [some (Aq 0), some (Iq x1), some (Iq x2), some (Iq x5), some (Iq (-1)), some (Iq (x5 + 1)), none] [] mem))))) ∧ (¬ (x5 = x1) → ((∃ (v7 : Int) (m8 : Zm), Ct1 S mX3_marksWith [Aq 0, Iq x1, Iq 2, Iq x5, Iq x2] mem (some (Iq v7)) m8 ∧ ((((v7 ≤ x4) → ((in32 (x5 + 1)) ∧ PW S mX3_copyFrom Q 36 [some (Aq 0), some (Iq x1), some (Iq x2), some (Iq x3), some (Iq x4), some (Iq (x5 + 1)), none] [] m8)) ∧ (¬ (v7 ≤ x4) → ((in32 (x5 + 1)) ∧ PW S mX3_copyFrom Q 36 [some (Aq 0), some (Iq x1), some (Iq x2), some (Iq x5), some (Iq v7), some (Iq (x5 + 1)), none] [] m8)))))))))))) :
    PW S mX3_copyFrom Q 36 [some (Aq 0), some (Iq x1), some (Iq x2), some (Iq x3), some (Iq x4), some (Iq x5), none] [] mem := by
  refine pw_iload eX3_copyFrom_36 rfl ?_
  refine pw_aload_n eX3_copyFrom_38 rfl rfl ?_
  refine gf_RX3_10 rfl eX3_copyFrom_39 sh0 ?_
  refine gf_RX3_60 rfl eX3_copyFrom_42 (shR isR1) ?_
  refine pw_icmp_ge eX3_copyFrom_45 (fun c1 => ?_) (fun c1 => ?_)
  · have h := h.1 c1
    refine pw_aload_n eX3_copyFrom_89 rfl rfl ?_
    refine pw_iload_n eX3_copyFrom_90 rfl rfl ?_
    refine pw_iconst eX3_copyFrom_91 ⟨by decide, by decide⟩ ?_
    refine pw_iconst eX3_copyFrom_92 ⟨by decide, by decide⟩ ?_
    refine pw_iload_n eX3_copyFrom_93 rfl rfl ?_
    obtain ⟨v2, m3, hc4, h⟩ := h
    refine pw_cV (z := mX3_marksWith) (av := [Iq x1, Iq 2, Iq (-1), Iq x2]) (st := []) eX3_copyFrom_94 lk_RX3_134 rfl (by decide) (by decide) sh0 rfl rfl (Nat.le_of_ble_eq_true rfl) rfl hc4 ?_
    show PW S mX3_copyFrom Q 97 [some (Aq 0), some (Iq x1), some (Iq x2), some (Iq x3), some (Iq x4), some (Iq x5), none] [Iq v2] m3
    refine pw_iload eX3_copyFrom_97 rfl ?_
    refine pw_icmp_le eX3_copyFrom_99 (fun c5 => ?_) (fun c5 => ?_)
    · have h := h.1 c5
      refine pw_iload_n eX3_copyFrom_106 rfl rfl ?_
      exact pw_iret eX3_copyFrom_107 h
    · have h := h.2 c5
      refine pw_iconst eX3_copyFrom_102 ⟨by decide, by decide⟩ ?_
      refine pw_goto eX3_copyFrom_103 ?_
      exact pw_iret eX3_copyFrom_107 h
  · have h := h.2 c1
    refine pw_iload eX3_copyFrom_48 rfl ?_
    refine pw_iload_n eX3_copyFrom_50 rfl rfl ?_
    refine pw_icmp_ne eX3_copyFrom_51 (fun c6 => ?_) (fun c6 => ?_)
    · have h := h.2 c6
      refine pw_aload_n eX3_copyFrom_58 rfl rfl ?_
      refine pw_iload_n eX3_copyFrom_59 rfl rfl ?_
      refine pw_iconst eX3_copyFrom_60 ⟨by decide, by decide⟩ ?_
      refine pw_iload eX3_copyFrom_61 rfl ?_
      refine pw_iload_n eX3_copyFrom_63 rfl rfl ?_
      obtain ⟨v7, m8, hc9, h⟩ := h
      refine pw_cV (z := mX3_marksWith) (av := [Iq x1, Iq 2, Iq x5, Iq x2]) (st := []) eX3_copyFrom_64 lk_RX3_134 rfl (by decide) (by decide) sh0 rfl rfl (Nat.le_of_ble_eq_true rfl) rfl hc9 ?_
      show PW S mX3_copyFrom Q 67 [some (Aq 0), some (Iq x1), some (Iq x2), some (Iq x3), some (Iq x4), some (Iq x5), none] [Iq v7] m8
      refine pw_istore (ls2 := [some (Aq 0), some (Iq x1), some (Iq x2), some (Iq x3), some (Iq x4), some (Iq x5), some (Iq v7)]) eX3_copyFrom_67 (by decide) rfl ?_
      refine pw_iload eX3_copyFrom_69 rfl ?_
      refine pw_iload eX3_copyFrom_71 rfl ?_
      refine pw_icmp_le eX3_copyFrom_73 (fun c10 => ?_) (fun c10 => ?_)
      · have h := h.1 c10
        obtain ⟨ob11, h⟩ := h
        refine pw_iinc (ls2 := [some (Aq 0), some (Iq x1), some (Iq x2), some (Iq x3), some (Iq x4), some (Iq (x5 + 1)), some (Iq v7)]) eX3_copyFrom_83 rfl ob11 rfl ?_
        refine pw_goto eX3_copyFrom_86 ?_
        exact pw_drop (bs := [true, true, true, true, true, true, false]) h
      · have h := h.2 c10
        refine pw_iload eX3_copyFrom_76 rfl ?_
        refine pw_istore (ls2 := [some (Aq 0), some (Iq x1), some (Iq x2), some (Iq x3), some (Iq v7), some (Iq x5), some (Iq v7)]) eX3_copyFrom_78 (by decide) rfl ?_
        refine pw_iload eX3_copyFrom_80 rfl ?_
        refine pw_istore_n (ls2 := [some (Aq 0), some (Iq x1), some (Iq x2), some (Iq x5), some (Iq v7), some (Iq x5), some (Iq v7)]) eX3_copyFrom_82 rfl (by decide) rfl ?_
        obtain ⟨ob12, h⟩ := h
        refine pw_iinc (ls2 := [some (Aq 0), some (Iq x1), some (Iq x2), some (Iq x5), some (Iq v7), some (Iq (x5 + 1)), some (Iq v7)]) eX3_copyFrom_83 rfl ob12 rfl ?_
        refine pw_goto eX3_copyFrom_86 ?_
        exact pw_drop (bs := [true, true, true, true, true, true, false]) h
    · have h := h.1 (Classical.not_not.mp c6)
      refine pw_iconst eX3_copyFrom_54 ⟨by decide, by decide⟩ ?_
      refine pw_goto eX3_copyFrom_55 ?_
      refine pw_istore (ls2 := [some (Aq 0), some (Iq x1), some (Iq x2), some (Iq x3), some (Iq x4), some (Iq x5), some (Iq (-1))]) eX3_copyFrom_67 (by decide) rfl ?_
      refine pw_iload eX3_copyFrom_69 rfl ?_
      refine pw_iload eX3_copyFrom_71 rfl ?_
      refine pw_icmp_le eX3_copyFrom_73 (fun c13 => ?_) (fun c13 => ?_)
      · have h := h.1 c13
        obtain ⟨ob14, h⟩ := h
        refine pw_iinc (ls2 := [some (Aq 0), some (Iq x1), some (Iq x2), some (Iq x3), some (Iq x4), some (Iq (x5 + 1)), some (Iq (-1))]) eX3_copyFrom_83 rfl ob14 rfl ?_
        refine pw_goto eX3_copyFrom_86 ?_
        exact pw_drop (bs := [true, true, true, true, true, true, false]) h
      · have h := h.2 c13
        refine pw_iload eX3_copyFrom_76 rfl ?_
        refine pw_istore (ls2 := [some (Aq 0), some (Iq x1), some (Iq x2), some (Iq x3), some (Iq (-1)), some (Iq x5), some (Iq (-1))]) eX3_copyFrom_78 (by decide) rfl ?_
        refine pw_iload eX3_copyFrom_80 rfl ?_
        refine pw_istore_n (ls2 := [some (Aq 0), some (Iq x1), some (Iq x2), some (Iq x5), some (Iq (-1)), some (Iq x5), some (Iq (-1))]) eX3_copyFrom_82 rfl (by decide) rfl ?_
        obtain ⟨ob15, h⟩ := h
        refine pw_iinc (ls2 := [some (Aq 0), some (Iq x1), some (Iq x2), some (Iq x5), some (Iq (-1)), some (Iq (x5 + 1)), some (Iq (-1))]) eX3_copyFrom_83 rfl ob15 rfl ?_
        refine pw_goto eX3_copyFrom_86 ?_
        exact pw_drop (bs := [true, true, true, true, true, true, false]) h
set_option maxRecDepth 100000 in
theorem rg_X3_kindFor_0 {S : Sx} {Q : Option PV → Zm → Prop} {mem : Zm}   {x1 x2 : Int} 
    (h : (((0 ≤ x1 ∧ x1 < mem 1 7) → ((((0 ≤ x2 ∧ x2 ≤ 20) → (PW S mX3_kindFor Q 36 [some (Aq 0), some (Iq x1), some (Iq x2), some (Iq 0), some (Iq (-1)), some (Iq 0), none] [] mem)) ∧ (¬ (0 ≤ x2 ∧ x2 ≤ 20) → ((fOX mem (-1000001)) ∧ Q (some (Iq (-1000001))) (fndx mem (-1000001))))))) ∧ (¬ (0 ≤ x1 ∧ x1 < mem 1 7) → ((fOX mem (-1000001)) ∧ Q (some (Iq (-1000001))) (fndx mem (-1000001)))))) :
    PW S mX3_kindFor Q 0 [some (Aq 0), some (Iq x1), some (Iq x2), none, none, none, none] [] mem := by
  refine pw_aload_n eX3_kindFor_0 rfl rfl ?_
  refine gf_RX3_10 rfl eX3_kindFor_1 sh0 ?_
  refine pw_iload_n eX3_kindFor_4 rfl rfl ?_
  refine pw_cV (z := mX0_has) (av := [Iq x1]) (st := []) eX3_kindFor_5 lk_RX3_68 rfl (by decide) (by decide) (shR isR1) rfl rfl (Nat.le_of_ble_eq_true rfl) rfl (ct_X0_has (mem := mem) isR1) ?_
  show PW S mX3_kindFor Q 8 [some (Aq 0), some (Iq x1), some (Iq x2), none, none, none, none] [Iq (bI (0 ≤ x1 ∧ x1 < mem 1 7))] mem
  refine pw_if_eq eX3_kindFor_8 (fun c1 => ?_) (fun c1 => ?_)
  · have h := h.2 (bI0.mp c1)
    refine pw_aload_n eX3_kindFor_21 rfl rfl ?_
    refine pw_ldc (n := (-1000001)) eX3_kindFor_22 ⟨by decide, by decide⟩ kc_RX3_48 ?_
    obtain ⟨ob2, h⟩ := h
    refine pw_cV (z := mX3_finding) (av := [Iq (-1000001)]) (st := []) eX3_kindFor_24 lk_RX3_49 rfl (by decide) (by decide) sh0 rfl rfl (Nat.le_of_ble_eq_true rfl) rfl (ct_X3_finding (mem := mem) ob2) ?_
    show PW S mX3_kindFor Q 27 [some (Aq 0), some (Iq x1), some (Iq x2), none, none, none, none] [Iq (-1000001)] (fndx mem (-1000001))
    exact pw_iret eX3_kindFor_27 h
  · have h := h.1 (bI1.mp c1)
    refine pw_iload_n eX3_kindFor_11 rfl rfl ?_
    refine pw_iconst eX3_kindFor_12 ⟨by decide, by decide⟩ ?_
    refine pw_bipush eX3_kindFor_13 ⟨by decide, by decide⟩ (by decide) ?_
    refine pw_cS (z := mX3_within) (av := [Iq x2, Iq 0, Iq 20]) (st := []) eX3_kindFor_15 lk_RX3_44 rfl (by decide) (by decide) (Nat.le_of_ble_eq_true rfl) rfl (ct_X3_within (mem := mem)) ?_
    show PW S mX3_kindFor Q 18 [some (Aq 0), some (Iq x1), some (Iq x2), none, none, none, none] [Iq (bI (0 ≤ x2 ∧ x2 ≤ 20))] mem
    refine pw_if_ne eX3_kindFor_18 (fun c3 => ?_) (fun c3 => ?_)
    · have h := h.1 (bI1.mp c3)
      refine pw_iconst eX3_kindFor_28 ⟨by decide, by decide⟩ ?_
      refine pw_istore_n (ls2 := [some (Aq 0), some (Iq x1), some (Iq x2), some (Iq 0), none, none, none]) eX3_kindFor_29 rfl (by decide) rfl ?_
      refine pw_iconst eX3_kindFor_30 ⟨by decide, by decide⟩ ?_
      refine pw_istore (ls2 := [some (Aq 0), some (Iq x1), some (Iq x2), some (Iq 0), some (Iq (-1)), none, none]) eX3_kindFor_31 (by decide) rfl ?_
      refine pw_iconst eX3_kindFor_33 ⟨by decide, by decide⟩ ?_
      refine pw_istore (ls2 := [some (Aq 0), some (Iq x1), some (Iq x2), some (Iq 0), some (Iq (-1)), some (Iq 0), none]) eX3_kindFor_34 (by decide) rfl ?_
      exact h
    · have h := h.2 (bI0.mp (Classical.not_not.mp c3))
      refine pw_aload_n eX3_kindFor_21 rfl rfl ?_
      refine pw_ldc (n := (-1000001)) eX3_kindFor_22 ⟨by decide, by decide⟩ kc_RX3_48 ?_
      obtain ⟨ob4, h⟩ := h
      refine pw_cV (z := mX3_finding) (av := [Iq (-1000001)]) (st := []) eX3_kindFor_24 lk_RX3_49 rfl (by decide) (by decide) sh0 rfl rfl (Nat.le_of_ble_eq_true rfl) rfl (ct_X3_finding (mem := mem) ob4) ?_
      show PW S mX3_kindFor Q 27 [some (Aq 0), some (Iq x1), some (Iq x2), none, none, none, none] [Iq (-1000001)] (fndx mem (-1000001))
      exact pw_iret eX3_kindFor_27 h

set_option maxRecDepth 100000 in
theorem rg_X3_kindFor_36 {S : Sx} {Q : Option PV → Zm → Prop} {mem : Zm}   {x1 x2 x3 x4 x5 : Int} 
    (h : (((7 ≤ x5) → (Q (some (Iq x3)) mem)) ∧ (¬ (7 ≤ x5) → ((∃ (v2 : Int) (m3 : Zm), Ct1 S mX3_marksWith [Aq 0, Iq x1, Iq 0, Iq x5, Iq x2] mem (some (Iq v2)) m3 ∧ ((((v2 ≤ x4) → ((in32 (x5 + 1)) ∧ PW S mX3_kindFor Q 36 [some (Aq 0), some (Iq x1), some (Iq x2), some (Iq x3), some (Iq x4), some (Iq (x5 + 1)), none] [] m3)) ∧ (¬ (v2 ≤ x4) → ((in32 (x5 + 1)) ∧ PW S mX3_kindFor Q 36 [some (Aq 0), some (Iq x1), some (Iq x2), some (Iq x5), some (Iq v2), some (Iq (x5 + 1)), none] [] m3))))))))) :
    PW S mX3_kindFor Q 36 [some (Aq 0), some (Iq x1), some (Iq x2), some (Iq x3), some (Iq x4), some (Iq x5), none] [] mem := by
  refine pw_iload eX3_kindFor_36 rfl ?_
  refine pw_bipush eX3_kindFor_38 ⟨by decide, by decide⟩ (by decide) ?_
  refine pw_icmp_ge eX3_kindFor_40 (fun c1 => ?_) (fun c1 => ?_)
  · have h := h.1 c1
    refine pw_iload_n eX3_kindFor_74 rfl rfl ?_
    exact pw_iret eX3_kindFor_75 h
  · have h := h.2 c1
    refine pw_aload_n eX3_kindFor_43 rfl rfl ?_
    refine pw_iload_n eX3_kindFor_44 rfl rfl ?_
    refine pw_iconst eX3_kindFor_45 ⟨by decide, by decide⟩ ?_
    refine pw_iload eX3_kindFor_46 rfl ?_
    refine pw_iload_n eX3_kindFor_48 rfl rfl ?_
    obtain ⟨v2, m3, hc4, h⟩ := h
    refine pw_cV (z := mX3_marksWith) (av := [Iq x1, Iq 0, Iq x5, Iq x2]) (st := []) eX3_kindFor_49 lk_RX3_134 rfl (by decide) (by decide) sh0 rfl rfl (Nat.le_of_ble_eq_true rfl) rfl hc4 ?_
    show PW S mX3_kindFor Q 52 [some (Aq 0), some (Iq x1), some (Iq x2), some (Iq x3), some (Iq x4), some (Iq x5), none] [Iq v2] m3
    refine pw_istore (ls2 := [some (Aq 0), some (Iq x1), some (Iq x2), some (Iq x3), some (Iq x4), some (Iq x5), some (Iq v2)]) eX3_kindFor_52 (by decide) rfl ?_
    refine pw_iload eX3_kindFor_54 rfl ?_
    refine pw_iload eX3_kindFor_56 rfl ?_
    refine pw_icmp_le eX3_kindFor_58 (fun c5 => ?_) (fun c5 => ?_)
    · have h := h.1 c5
      obtain ⟨ob6, h⟩ := h
      refine pw_iinc (ls2 := [some (Aq 0), some (Iq x1), some (Iq x2), some (Iq x3), some (Iq x4), some (Iq (x5 + 1)), some (Iq v2)]) eX3_kindFor_68 rfl ob6 rfl ?_
      refine pw_goto eX3_kindFor_71 ?_
      exact pw_drop (bs := [true, true, true, true, true, true, false]) h
    · have h := h.2 c5
      refine pw_iload eX3_kindFor_61 rfl ?_
      refine pw_istore (ls2 := [some (Aq 0), some (Iq x1), some (Iq x2), some (Iq x3), some (Iq v2), some (Iq x5), some (Iq v2)]) eX3_kindFor_63 (by decide) rfl ?_
      refine pw_iload eX3_kindFor_65 rfl ?_
      refine pw_istore_n (ls2 := [some (Aq 0), some (Iq x1), some (Iq x2), some (Iq x5), some (Iq v2), some (Iq x5), some (Iq v2)]) eX3_kindFor_67 rfl (by decide) rfl ?_
      obtain ⟨ob7, h⟩ := h
      refine pw_iinc (ls2 := [some (Aq 0), some (Iq x1), some (Iq x2), some (Iq x5), some (Iq v2), some (Iq (x5 + 1)), some (Iq v2)]) eX3_kindFor_68 rfl ob7 rfl ?_
      refine pw_goto eX3_kindFor_71 ?_
      exact pw_drop (bs := [true, true, true, true, true, true, false]) h
set_option maxRecDepth 100000 in
theorem rg_X3_learn_0 {S : Sx} {Q : Option PV → Zm → Prop} {mem : Zm}   {x1 x2 : Int} 
    (h : (((0 ≤ x1 ∧ x1 < mem 1 7) → ((((0 ≤ x2 ∧ x2 ≤ 20) → ((0 ≤ x1 ∧ x1 < 8) ∧ PW S mX3_learn Q 47 [some (Aq 0), some (Iq x1), some (Iq x2), some (Iq (mem (1 + 2) (6 * (x1).toNat + 1))), some (Iq 0), some (Iq (-1)), some (Iq 0), none] [] mem)) ∧ (¬ (0 ≤ x2 ∧ x2 ≤ 20) → ((fOX mem (-1000001)) ∧ Q (some (Iq (-1000001))) (fndx mem (-1000001))))))) ∧ (¬ (0 ≤ x1 ∧ x1 < mem 1 7) → ((fOX mem (-1000001)) ∧ Q (some (Iq (-1000001))) (fndx mem (-1000001)))))) :
    PW S mX3_learn Q 0 [some (Aq 0), some (Iq x1), some (Iq x2), none, none, none, none, none] [] mem := by
  refine pw_aload_n eX3_learn_0 rfl rfl ?_
  refine gf_RX3_10 rfl eX3_learn_1 sh0 ?_
  refine pw_iload_n eX3_learn_4 rfl rfl ?_
  refine pw_cV (z := mX0_has) (av := [Iq x1]) (st := []) eX3_learn_5 lk_RX3_68 rfl (by decide) (by decide) (shR isR1) rfl rfl (Nat.le_of_ble_eq_true rfl) rfl (ct_X0_has (mem := mem) isR1) ?_
  show PW S mX3_learn Q 8 [some (Aq 0), some (Iq x1), some (Iq x2), none, none, none, none, none] [Iq (bI (0 ≤ x1 ∧ x1 < mem 1 7))] mem
  refine pw_if_eq eX3_learn_8 (fun c1 => ?_) (fun c1 => ?_)
  · have h := h.2 (bI0.mp c1)
    refine pw_aload_n eX3_learn_21 rfl rfl ?_
    refine pw_ldc (n := (-1000001)) eX3_learn_22 ⟨by decide, by decide⟩ kc_RX3_48 ?_
    obtain ⟨ob2, h⟩ := h
    refine pw_cV (z := mX3_finding) (av := [Iq (-1000001)]) (st := []) eX3_learn_24 lk_RX3_49 rfl (by decide) (by decide) sh0 rfl rfl (Nat.le_of_ble_eq_true rfl) rfl (ct_X3_finding (mem := mem) ob2) ?_
    show PW S mX3_learn Q 27 [some (Aq 0), some (Iq x1), some (Iq x2), none, none, none, none, none] [Iq (-1000001)] (fndx mem (-1000001))
    exact pw_iret eX3_learn_27 h
  · have h := h.1 (bI1.mp c1)
    refine pw_iload_n eX3_learn_11 rfl rfl ?_
    refine pw_iconst eX3_learn_12 ⟨by decide, by decide⟩ ?_
    refine pw_bipush eX3_learn_13 ⟨by decide, by decide⟩ (by decide) ?_
    refine pw_cS (z := mX3_within) (av := [Iq x2, Iq 0, Iq 20]) (st := []) eX3_learn_15 lk_RX3_44 rfl (by decide) (by decide) (Nat.le_of_ble_eq_true rfl) rfl (ct_X3_within (mem := mem)) ?_
    show PW S mX3_learn Q 18 [some (Aq 0), some (Iq x1), some (Iq x2), none, none, none, none, none] [Iq (bI (0 ≤ x2 ∧ x2 ≤ 20))] mem
    refine pw_if_ne eX3_learn_18 (fun c3 => ?_) (fun c3 => ?_)
    · have h := h.1 (bI1.mp c3)
      refine pw_aload_n eX3_learn_28 rfl rfl ?_
      refine gf_RX3_10 rfl eX3_learn_29 sh0 ?_
      refine pw_iload_n eX3_learn_32 rfl rfl ?_
      refine pw_iconst eX3_learn_33 ⟨by decide, by decide⟩ ?_
      obtain ⟨ob4, h⟩ := h
      refine pw_cV (z := mX0_fact) (av := [Iq x1, Iq 1]) (st := []) eX3_learn_34 lk_RX3_81 rfl (by decide) (by decide) (shR isR1) rfl rfl (Nat.le_of_ble_eq_true rfl) rfl (ct_X0_fact (mem := mem) isR1 ⟨ob4.1, ob4.2, by decide, by decide⟩) ?_
      show PW S mX3_learn Q 37 [some (Aq 0), some (Iq x1), some (Iq x2), none, none, none, none, none] [Iq (mem (1 + 2) (6 * (x1).toNat + 1))] mem
      refine pw_istore_n (ls2 := [some (Aq 0), some (Iq x1), some (Iq x2), some (Iq (mem (1 + 2) (6 * (x1).toNat + 1))), none, none, none, none]) eX3_learn_37 rfl (by decide) rfl ?_
      refine pw_iconst eX3_learn_38 ⟨by decide, by decide⟩ ?_
      refine pw_istore (ls2 := [some (Aq 0), some (Iq x1), some (Iq x2), some (Iq (mem (1 + 2) (6 * (x1).toNat + 1))), some (Iq 0), none, none, none]) eX3_learn_39 (by decide) rfl ?_
      refine pw_iconst eX3_learn_41 ⟨by decide, by decide⟩ ?_
      refine pw_istore (ls2 := [some (Aq 0), some (Iq x1), some (Iq x2), some (Iq (mem (1 + 2) (6 * (x1).toNat + 1))), some (Iq 0), some (Iq (-1)), none, none]) eX3_learn_42 (by decide) rfl ?_
      refine pw_iconst eX3_learn_44 ⟨by decide, by decide⟩ ?_
      refine pw_istore (ls2 := [some (Aq 0), some (Iq x1), some (Iq x2), some (Iq (mem (1 + 2) (6 * (x1).toNat + 1))), some (Iq 0), some (Iq (-1)), some (Iq 0), none]) eX3_learn_45 (by decide) rfl ?_
      exact h
    · have h := h.2 (bI0.mp (Classical.not_not.mp c3))
      refine pw_aload_n eX3_learn_21 rfl rfl ?_
      refine pw_ldc (n := (-1000001)) eX3_learn_22 ⟨by decide, by decide⟩ kc_RX3_48 ?_
      obtain ⟨ob5, h⟩ := h
      refine pw_cV (z := mX3_finding) (av := [Iq (-1000001)]) (st := []) eX3_learn_24 lk_RX3_49 rfl (by decide) (by decide) sh0 rfl rfl (Nat.le_of_ble_eq_true rfl) rfl (ct_X3_finding (mem := mem) ob5) ?_
      show PW S mX3_learn Q 27 [some (Aq 0), some (Iq x1), some (Iq x2), none, none, none, none, none] [Iq (-1000001)] (fndx mem (-1000001))
      exact pw_iret eX3_learn_27 h

set_option maxRecDepth 100000 in
theorem rg_X3_learn_47 {S : Sx} {Q : Option PV → Zm → Prop} {mem : Zm}   {x1 x2 x3 x4 x5 x6 : Int} 
    (h : (((8 ≤ x6) → (Q (some (Iq x4)) mem)) ∧ (¬ (8 ≤ x6) → ((∃ (v2 : Int) (m3 : Zm), Ct1 S mX3_marksWith [Aq 0, Iq x1, Iq 1, Iq (bOr x3 (bShl 1 x6)), Iq x2] mem (some (Iq v2)) m3 ∧ ((((v2 ≤ x5) → ((in32 (x6 + 1)) ∧ PW S mX3_learn Q 47 [some (Aq 0), some (Iq x1), some (Iq x2), some (Iq x3), some (Iq x4), some (Iq x5), some (Iq (x6 + 1)), none] [] m3)) ∧ (¬ (v2 ≤ x5) → ((in32 (x6 + 1)) ∧ PW S mX3_learn Q 47 [some (Aq 0), some (Iq x1), some (Iq x2), some (Iq x3), some (Iq x6), some (Iq v2), some (Iq (x6 + 1)), none] [] m3))))))))) :
    PW S mX3_learn Q 47 [some (Aq 0), some (Iq x1), some (Iq x2), some (Iq x3), some (Iq x4), some (Iq x5), some (Iq x6), none] [] mem := by
  refine pw_iload eX3_learn_47 rfl ?_
  refine pw_bipush eX3_learn_49 ⟨by decide, by decide⟩ (by decide) ?_
  refine pw_icmp_ge eX3_learn_51 (fun c1 => ?_) (fun c1 => ?_)
  · have h := h.1 c1
    refine pw_iload eX3_learn_90 rfl ?_
    exact pw_iret eX3_learn_92 h
  · have h := h.2 c1
    refine pw_aload_n eX3_learn_54 rfl rfl ?_
    refine pw_iload_n eX3_learn_55 rfl rfl ?_
    refine pw_iconst eX3_learn_56 ⟨by decide, by decide⟩ ?_
    refine pw_iload_n eX3_learn_57 rfl rfl ?_
    refine pw_iconst eX3_learn_58 ⟨by decide, by decide⟩ ?_
    refine pw_iload eX3_learn_59 rfl ?_
    refine pw_ishl eX3_learn_61 ?_
    refine pw_ior eX3_learn_62 ?_
    refine pw_iload_n eX3_learn_63 rfl rfl ?_
    obtain ⟨v2, m3, hc4, h⟩ := h
    refine pw_cV (z := mX3_marksWith) (av := [Iq x1, Iq 1, Iq (bOr x3 (bShl 1 x6)), Iq x2]) (st := []) eX3_learn_64 lk_RX3_134 rfl (by decide) (by decide) sh0 rfl rfl (Nat.le_of_ble_eq_true rfl) rfl hc4 ?_
    show PW S mX3_learn Q 67 [some (Aq 0), some (Iq x1), some (Iq x2), some (Iq x3), some (Iq x4), some (Iq x5), some (Iq x6), none] [Iq v2] m3
    refine pw_istore (ls2 := [some (Aq 0), some (Iq x1), some (Iq x2), some (Iq x3), some (Iq x4), some (Iq x5), some (Iq x6), some (Iq v2)]) eX3_learn_67 (by decide) rfl ?_
    refine pw_iload eX3_learn_69 rfl ?_
    refine pw_iload eX3_learn_71 rfl ?_
    refine pw_icmp_le eX3_learn_73 (fun c5 => ?_) (fun c5 => ?_)
    · have h := h.1 c5
      obtain ⟨ob6, h⟩ := h
      refine pw_iinc (ls2 := [some (Aq 0), some (Iq x1), some (Iq x2), some (Iq x3), some (Iq x4), some (Iq x5), some (Iq (x6 + 1)), some (Iq v2)]) eX3_learn_84 rfl ob6 rfl ?_
      refine pw_goto eX3_learn_87 ?_
      exact pw_drop (bs := [true, true, true, true, true, true, true, false]) h
    · have h := h.2 c5
      refine pw_iload eX3_learn_76 rfl ?_
      refine pw_istore (ls2 := [some (Aq 0), some (Iq x1), some (Iq x2), some (Iq x3), some (Iq x4), some (Iq v2), some (Iq x6), some (Iq v2)]) eX3_learn_78 (by decide) rfl ?_
      refine pw_iload eX3_learn_80 rfl ?_
      refine pw_istore (ls2 := [some (Aq 0), some (Iq x1), some (Iq x2), some (Iq x3), some (Iq x6), some (Iq v2), some (Iq x6), some (Iq v2)]) eX3_learn_82 (by decide) rfl ?_
      obtain ⟨ob7, h⟩ := h
      refine pw_iinc (ls2 := [some (Aq 0), some (Iq x1), some (Iq x2), some (Iq x3), some (Iq x6), some (Iq v2), some (Iq (x6 + 1)), some (Iq v2)]) eX3_learn_84 rfl ob7 rfl ?_
      refine pw_goto eX3_learn_87 ?_
      exact pw_drop (bs := [true, true, true, true, true, true, true, false]) h
set_option maxRecDepth 100000 in
theorem rg_X3_limitFor_0 {S : Sx} {Q : Option PV → Zm → Prop} {mem : Zm}   {x1 : Int} 
    (h : (((0 ≤ x1 ∧ x1 ≤ 20) → (PW S mX3_limitFor Q 19 [some (Aq 0), some (Iq x1), some (Iq 1)] [] mem)) ∧ (¬ (0 ≤ x1 ∧ x1 ≤ 20) → ((fOX mem (-1000001)) ∧ Q (some (Iq (-1000001))) (fndx mem (-1000001)))))) :
    PW S mX3_limitFor Q 0 [some (Aq 0), some (Iq x1), none] [] mem := by
  refine pw_iload_n eX3_limitFor_0 rfl rfl ?_
  refine pw_iconst eX3_limitFor_1 ⟨by decide, by decide⟩ ?_
  refine pw_bipush eX3_limitFor_2 ⟨by decide, by decide⟩ (by decide) ?_
  refine pw_cS (z := mX3_within) (av := [Iq x1, Iq 0, Iq 20]) (st := []) eX3_limitFor_4 lk_RX3_44 rfl (by decide) (by decide) (Nat.le_of_ble_eq_true rfl) rfl (ct_X3_within (mem := mem)) ?_
  show PW S mX3_limitFor Q 7 [some (Aq 0), some (Iq x1), none] [Iq (bI (0 ≤ x1 ∧ x1 ≤ 20))] mem
  refine pw_if_ne eX3_limitFor_7 (fun c1 => ?_) (fun c1 => ?_)
  · have h := h.1 (bI1.mp c1)
    refine pw_iconst eX3_limitFor_17 ⟨by decide, by decide⟩ ?_
    refine pw_istore_n (ls2 := [some (Aq 0), some (Iq x1), some (Iq 1)]) eX3_limitFor_18 rfl (by decide) rfl ?_
    exact h
  · have h := h.2 (bI0.mp (Classical.not_not.mp c1))
    refine pw_aload_n eX3_limitFor_10 rfl rfl ?_
    refine pw_ldc (n := (-1000001)) eX3_limitFor_11 ⟨by decide, by decide⟩ kc_RX3_48 ?_
    obtain ⟨ob2, h⟩ := h
    refine pw_cV (z := mX3_finding) (av := [Iq (-1000001)]) (st := []) eX3_limitFor_13 lk_RX3_49 rfl (by decide) (by decide) sh0 rfl rfl (Nat.le_of_ble_eq_true rfl) rfl (ct_X3_finding (mem := mem) ob2) ?_
    show PW S mX3_limitFor Q 16 [some (Aq 0), some (Iq x1), none] [Iq (-1000001)] (fndx mem (-1000001))
    exact pw_iret eX3_limitFor_16 h

set_option maxRecDepth 100000 in
theorem rg_X3_limitFor_19 {S : Sx} {Q : Option PV → Zm → Prop} {mem : Zm}   {x1 x2 : Int} 
    (h : (((9 < x2) → ((fOX mem (-1000004)) ∧ Q (some (Iq (-1000004))) (fndx mem (-1000004)))) ∧ (¬ (9 < x2) → ((∃ (m4 : Zm), Ct1 S mX0_become [Aq 8, Aq 1] mem none m4 ∧ ((∃ (v6 : Int) (m7 : Zm), Ct1 S mX3_nobodyIsCaughtInTrial [Aq 0, Iq x1] (mup m4 8 6 x2) (some (Iq v6)) m7 ∧ ((((v6 = 0) → ((in32 (x2 + 1)) ∧ PW S mX3_limitFor Q 19 [some (Aq 0), some (Iq x1), some (Iq (x2 + 1))] [] m7)) ∧ (¬ (v6 = 0) → (Q (some (Iq x2)) m7))))))))))) :
    PW S mX3_limitFor Q 19 [some (Aq 0), some (Iq x1), some (Iq x2)] [] mem := by
  refine pw_iload_n eX3_limitFor_19 rfl rfl ?_
  refine pw_bipush eX3_limitFor_20 ⟨by decide, by decide⟩ (by decide) ?_
  refine pw_icmp_gt eX3_limitFor_22 (fun c1 => ?_) (fun c1 => ?_)
  · have h := h.1 c1
    refine pw_aload_n eX3_limitFor_60 rfl rfl ?_
    refine pw_ldc (n := (-1000004)) eX3_limitFor_61 ⟨by decide, by decide⟩ kc_RX3_133 ?_
    obtain ⟨ob2, h⟩ := h
    refine pw_cV (z := mX3_finding) (av := [Iq (-1000004)]) (st := []) eX3_limitFor_63 lk_RX3_49 rfl (by decide) (by decide) sh0 rfl rfl (Nat.le_of_ble_eq_true rfl) rfl (ct_X3_finding (mem := mem) ob2) ?_
    show PW S mX3_limitFor Q 66 [some (Aq 0), some (Iq x1), some (Iq x2)] [Iq (-1000004)] (fndx mem (-1000004))
    exact pw_iret eX3_limitFor_66 h
  · have h := h.2 c1
    refine pw_aload_n eX3_limitFor_25 rfl rfl ?_
    refine gf_RX3_16 rfl eX3_limitFor_26 sh0 ?_
    refine pw_aload_n eX3_limitFor_29 rfl rfl ?_
    refine gf_RX3_10 rfl eX3_limitFor_30 sh0 ?_
    obtain ⟨m4, hc5, h⟩ := h
    refine pw_cV (z := mX0_become) (av := [Aq 1]) (st := []) eX3_limitFor_33 lk_RX3_126 rfl (by decide) (by decide) (shR isR8) rfl rfl (Nat.le_of_ble_eq_true rfl) rfl hc5 ?_
    show PW S mX3_limitFor Q 36 [some (Aq 0), some (Iq x1), some (Iq x2)] [] m4
    refine pw_aload_n eX3_limitFor_36 rfl rfl ?_
    refine gf_RX3_16 rfl eX3_limitFor_37 sh0 ?_
    refine pw_iload_n eX3_limitFor_40 rfl rfl ?_
    refine pf_RX3_56 rfl eX3_limitFor_41 (shR isR8) ?_
    refine pw_aload_n eX3_limitFor_44 rfl rfl ?_
    refine pw_iload_n eX3_limitFor_45 rfl rfl ?_
    obtain ⟨v6, m7, hc8, h⟩ := h
    refine pw_cV (z := mX3_nobodyIsCaughtInTrial) (av := [Iq x1]) (st := []) eX3_limitFor_46 lk_RX3_138 rfl (by decide) (by decide) sh0 rfl rfl (Nat.le_of_ble_eq_true rfl) rfl hc8 ?_
    show PW S mX3_limitFor Q 49 [some (Aq 0), some (Iq x1), some (Iq x2)] [Iq v6] m7
    refine pw_if_eq eX3_limitFor_49 (fun c9 => ?_) (fun c9 => ?_)
    · have h := h.1 c9
      obtain ⟨ob10, h⟩ := h
      refine pw_iinc (ls2 := [some (Aq 0), some (Iq x1), some (Iq (x2 + 1))]) eX3_limitFor_54 rfl ob10 rfl ?_
      refine pw_goto eX3_limitFor_57 ?_
      exact h
    · have h := h.2 c9
      refine pw_iload_n eX3_limitFor_52 rfl rfl ?_
      exact pw_iret eX3_limitFor_53 h
set_option maxRecDepth 100000 in
theorem rg_X3_forbid_0 {S : Sx} {Q : Option PV → Zm → Prop} {mem : Zm}   {x1 : Int} 
    (h : (((0 ≤ x1 ∧ x1 ≤ 12) → ((∃ (v2 : Int) (m3 : Zm), Ct1 S mX0_copiedChildren [Aq 1] mem (some (Iq v2)) m3 ∧ (PW S mX3_forbid Q 27 [some (Aq 0), some (Iq x1), some (Iq v2), some (Iq 0), none] [] m3)))) ∧ (¬ (0 ≤ x1 ∧ x1 ≤ 12) → ((fOX mem (-1000001)) ∧ Q (some (Iq (-1000001))) (fndx mem (-1000001)))))) :
    PW S mX3_forbid Q 0 [some (Aq 0), some (Iq x1), none, none, none] [] mem := by
  refine pw_iload_n eX3_forbid_0 rfl rfl ?_
  refine pw_iconst eX3_forbid_1 ⟨by decide, by decide⟩ ?_
  refine pw_bipush eX3_forbid_2 ⟨by decide, by decide⟩ (by decide) ?_
  refine pw_cS (z := mX3_within) (av := [Iq x1, Iq 0, Iq 12]) (st := []) eX3_forbid_4 lk_RX3_44 rfl (by decide) (by decide) (Nat.le_of_ble_eq_true rfl) rfl (ct_X3_within (mem := mem)) ?_
  show PW S mX3_forbid Q 7 [some (Aq 0), some (Iq x1), none, none, none] [Iq (bI (0 ≤ x1 ∧ x1 ≤ 12))] mem
  refine pw_if_ne eX3_forbid_7 (fun c1 => ?_) (fun c1 => ?_)
  · have h := h.1 (bI1.mp c1)
    refine pw_aload_n eX3_forbid_17 rfl rfl ?_
    refine gf_RX3_10 rfl eX3_forbid_18 sh0 ?_
    obtain ⟨v2, m3, hc4, h⟩ := h
    refine pw_cV (z := mX0_copiedChildren) (av := []) (st := []) eX3_forbid_21 lk_RX3_113 rfl (by decide) (by decide) (shR isR1) rfl rfl (Nat.le_of_ble_eq_true rfl) rfl hc4 ?_
    show PW S mX3_forbid Q 24 [some (Aq 0), some (Iq x1), none, none, none] [Iq v2] m3
    refine pw_istore_n (ls2 := [some (Aq 0), some (Iq x1), some (Iq v2), none, none]) eX3_forbid_24 rfl (by decide) rfl ?_
    refine pw_iconst eX3_forbid_25 ⟨by decide, by decide⟩ ?_
    refine pw_istore_n (ls2 := [some (Aq 0), some (Iq x1), some (Iq v2), some (Iq 0), none]) eX3_forbid_26 rfl (by decide) rfl ?_
    exact h
  · have h := h.2 (bI0.mp (Classical.not_not.mp c1))
    refine pw_aload_n eX3_forbid_10 rfl rfl ?_
    refine pw_ldc (n := (-1000001)) eX3_forbid_11 ⟨by decide, by decide⟩ kc_RX3_48 ?_
    obtain ⟨ob5, h⟩ := h
    refine pw_cV (z := mX3_finding) (av := [Iq (-1000001)]) (st := []) eX3_forbid_13 lk_RX3_49 rfl (by decide) (by decide) sh0 rfl rfl (Nat.le_of_ble_eq_true rfl) rfl (ct_X3_finding (mem := mem) ob5) ?_
    show PW S mX3_forbid Q 16 [some (Aq 0), some (Iq x1), none, none, none] [Iq (-1000001)] (fndx mem (-1000001))
    exact pw_iret eX3_forbid_16 h

set_option maxRecDepth 100000 in
theorem rg_X3_forbid_27 {S : Sx} {Q : Option PV → Zm → Prop} {mem : Zm}   {x1 x2 x3 : Int} 
    (h : (((8 ≤ x3) → (Q (some (Iq x2)) mem)) ∧ (¬ (8 ≤ x3) → (PW S mX3_forbid Q 36 [some (Aq 0), some (Iq x1), some (Iq x2), some (Iq x3), some (Iq 0)] [] mem)))) :
    PW S mX3_forbid Q 27 [some (Aq 0), some (Iq x1), some (Iq x2), some (Iq x3), none] [] mem := by
  refine pw_iload_n eX3_forbid_27 rfl rfl ?_
  refine pw_bipush eX3_forbid_28 ⟨by decide, by decide⟩ (by decide) ?_
  refine pw_icmp_ge eX3_forbid_30 (fun c1 => ?_) (fun c1 => ?_)
  · have h := h.1 c1
    refine pw_iload_n eX3_forbid_89 rfl rfl ?_
    exact pw_iret eX3_forbid_90 h
  · have h := h.2 c1
    refine pw_iconst eX3_forbid_33 ⟨by decide, by decide⟩ ?_
    refine pw_istore (ls2 := [some (Aq 0), some (Iq x1), some (Iq x2), some (Iq x3), some (Iq 0)]) eX3_forbid_34 (by decide) rfl ?_
    exact h

set_option maxRecDepth 100000 in
theorem rg_X3_forbid_36 {S : Sx} {Q : Option PV → Zm → Prop} {mem : Zm}   {x1 x2 x3 x4 : Int} 
    (h : (((x2 < x4) → ((in32 (x3 + 1)) ∧ PW S mX3_forbid Q 27 [some (Aq 0), some (Iq x1), some (Iq x2), some (Iq (x3 + 1)), none] [] mem)) ∧ (¬ (x2 < x4) → ((((bAnd x4 (bXor x2 (-1)) = 0) → ((0 ≤ x4 ∧ x4 < 256) ∧ (((pcn x4 = x3) → ((∃ (m9 : Zm), Ct1 S mX3_tryWithoutCopiesFrom [Aq 0, Iq x4] mem none m9 ∧ ((∃ (v11 : Int) (m12 : Zm), Ct1 S mX3_nobodyIsCaughtInTrial [Aq 0, Iq x1] m9 (some (Iq v11)) m12 ∧ ((((v11 = 0) → ((in32 (x4 + 1)) ∧ PW S mX3_forbid Q 36 [some (Aq 0), some (Iq x1), some (Iq x2), some (Iq x3), some (Iq (x4 + 1))] [] m12)) ∧ (¬ (v11 = 0) → (Q (some (Iq x4)) m12))))))))) ∧ (¬ (pcn x4 = x3) → ((in32 (x4 + 1)) ∧ PW S mX3_forbid Q 36 [some (Aq 0), some (Iq x1), some (Iq x2), some (Iq x3), some (Iq (x4 + 1))] [] mem))))) ∧ (¬ (bAnd x4 (bXor x2 (-1)) = 0) → ((in32 (x4 + 1)) ∧ PW S mX3_forbid Q 36 [some (Aq 0), some (Iq x1), some (Iq x2), some (Iq x3), some (Iq (x4 + 1))] [] mem))))))) :
    PW S mX3_forbid Q 36 [some (Aq 0), some (Iq x1), some (Iq x2), some (Iq x3), some (Iq x4)] [] mem := by
  refine pw_iload eX3_forbid_36 rfl ?_
  refine pw_iload_n eX3_forbid_38 rfl rfl ?_
  refine pw_icmp_gt eX3_forbid_39 (fun c1 => ?_) (fun c1 => ?_)
  · have h := h.1 c1
    obtain ⟨ob2, h⟩ := h
    refine pw_iinc (ls2 := [some (Aq 0), some (Iq x1), some (Iq x2), some (Iq (x3 + 1)), some (Iq x4)]) eX3_forbid_83 rfl ob2 rfl ?_
    refine pw_goto eX3_forbid_86 ?_
    exact pw_drop (bs := [true, true, true, true, false]) h
  · have h := h.2 c1
    refine pw_iload eX3_forbid_42 rfl ?_
    refine pw_iload_n eX3_forbid_44 rfl rfl ?_
    refine pw_iconst eX3_forbid_45 ⟨by decide, by decide⟩ ?_
    refine pw_ixor eX3_forbid_46 ?_
    refine pw_iand eX3_forbid_47 ?_
    refine pw_if_ne eX3_forbid_48 (fun c3 => ?_) (fun c3 => ?_)
    · have h := h.2 c3
      obtain ⟨ob4, h⟩ := h
      refine pw_iinc (ls2 := [some (Aq 0), some (Iq x1), some (Iq x2), some (Iq x3), some (Iq (x4 + 1))]) eX3_forbid_77 rfl ob4 rfl ?_
      refine pw_goto eX3_forbid_80 ?_
      exact h
    · have h := h.1 (Classical.not_not.mp c3)
      refine pw_iload eX3_forbid_51 rfl ?_
      obtain ⟨ob5, h⟩ := h
      refine pw_cS (z := mJ6_bitCount_0f7a4) (av := [Iq x4]) (st := []) eX3_forbid_53 lk_RX3_141 rfl (by decide) (by decide) (Nat.le_of_ble_eq_true rfl) rfl (ct_J6_bitCount_0f7a4 (mem := mem) ob5) ?_
      show PW S mX3_forbid Q 56 [some (Aq 0), some (Iq x1), some (Iq x2), some (Iq x3), some (Iq x4)] [Iq (pcn x4)] mem
      refine pw_iload_n eX3_forbid_56 rfl rfl ?_
      refine pw_icmp_ne eX3_forbid_57 (fun c6 => ?_) (fun c6 => ?_)
      · have h := h.2 c6
        obtain ⟨ob7, h⟩ := h
        refine pw_iinc (ls2 := [some (Aq 0), some (Iq x1), some (Iq x2), some (Iq x3), some (Iq (x4 + 1))]) eX3_forbid_77 rfl ob7 rfl ?_
        refine pw_goto eX3_forbid_80 ?_
        exact h
      · have h := h.1 (Classical.not_not.mp c6)
        refine pw_aload_n eX3_forbid_60 rfl rfl ?_
        refine pw_iload eX3_forbid_61 rfl ?_
        obtain ⟨m9, hc10, h⟩ := h
        refine pw_cV (z := mX3_tryWithoutCopiesFrom) (av := [Iq x4]) (st := []) eX3_forbid_63 lk_RX3_146 rfl (by decide) (by decide) sh0 rfl rfl (Nat.le_of_ble_eq_true rfl) rfl hc10 ?_
        show PW S mX3_forbid Q 66 [some (Aq 0), some (Iq x1), some (Iq x2), some (Iq x3), some (Iq x4)] [] m9
        refine pw_aload_n eX3_forbid_66 rfl rfl ?_
        refine pw_iload_n eX3_forbid_67 rfl rfl ?_
        obtain ⟨v11, m12, hc13, h⟩ := h
        refine pw_cV (z := mX3_nobodyIsCaughtInTrial) (av := [Iq x1]) (st := []) eX3_forbid_68 lk_RX3_138 rfl (by decide) (by decide) sh0 rfl rfl (Nat.le_of_ble_eq_true rfl) rfl hc13 ?_
        show PW S mX3_forbid Q 71 [some (Aq 0), some (Iq x1), some (Iq x2), some (Iq x3), some (Iq x4)] [Iq v11] m12
        refine pw_if_eq eX3_forbid_71 (fun c14 => ?_) (fun c14 => ?_)
        · have h := h.1 c14
          obtain ⟨ob15, h⟩ := h
          refine pw_iinc (ls2 := [some (Aq 0), some (Iq x1), some (Iq x2), some (Iq x3), some (Iq (x4 + 1))]) eX3_forbid_77 rfl ob15 rfl ?_
          refine pw_goto eX3_forbid_80 ?_
          exact h
        · have h := h.2 c14
          refine pw_iload eX3_forbid_74 rfl ?_
          exact pw_iret eX3_forbid_76 h
set_option maxRecDepth 100000 in
theorem rg_X3_biscuitsFor_0 {S : Sx} {Q : Option PV → Zm → Prop} {mem : Zm}   {x1 x2 : Int} 
    (h : (((0 ≤ x1 ∧ x1 < mem 1 7) → ((((0 ≤ x2 ∧ x2 ≤ 20) → ((∃ (v4 : Int) (m5 : Zm), Ct1 S mX3_marksWith [Aq 0, Iq x1, Iq 4, Iq 99, Iq x2] mem (some (Iq v4)) m5 ∧ (PW S mX3_biscuitsFor Q 41 [some (Aq 0), some (Iq x1), some (Iq x2), some (Iq v4), some (Iq 0)] [] m5)))) ∧ (¬ (0 ≤ x2 ∧ x2 ≤ 20) → ((fOX mem (-1000001)) ∧ Q (some (Iq (-1000001))) (fndx mem (-1000001))))))) ∧ (¬ (0 ≤ x1 ∧ x1 < mem 1 7) → ((fOX mem (-1000001)) ∧ Q (some (Iq (-1000001))) (fndx mem (-1000001)))))) :
    PW S mX3_biscuitsFor Q 0 [some (Aq 0), some (Iq x1), some (Iq x2), none, none] [] mem := by
  refine pw_aload_n eX3_biscuitsFor_0 rfl rfl ?_
  refine gf_RX3_10 rfl eX3_biscuitsFor_1 sh0 ?_
  refine pw_iload_n eX3_biscuitsFor_4 rfl rfl ?_
  refine pw_cV (z := mX0_has) (av := [Iq x1]) (st := []) eX3_biscuitsFor_5 lk_RX3_68 rfl (by decide) (by decide) (shR isR1) rfl rfl (Nat.le_of_ble_eq_true rfl) rfl (ct_X0_has (mem := mem) isR1) ?_
  show PW S mX3_biscuitsFor Q 8 [some (Aq 0), some (Iq x1), some (Iq x2), none, none] [Iq (bI (0 ≤ x1 ∧ x1 < mem 1 7))] mem
  refine pw_if_eq eX3_biscuitsFor_8 (fun c1 => ?_) (fun c1 => ?_)
  · have h := h.2 (bI0.mp c1)
    refine pw_aload_n eX3_biscuitsFor_21 rfl rfl ?_
    refine pw_ldc (n := (-1000001)) eX3_biscuitsFor_22 ⟨by decide, by decide⟩ kc_RX3_48 ?_
    obtain ⟨ob2, h⟩ := h
    refine pw_cV (z := mX3_finding) (av := [Iq (-1000001)]) (st := []) eX3_biscuitsFor_24 lk_RX3_49 rfl (by decide) (by decide) sh0 rfl rfl (Nat.le_of_ble_eq_true rfl) rfl (ct_X3_finding (mem := mem) ob2) ?_
    show PW S mX3_biscuitsFor Q 27 [some (Aq 0), some (Iq x1), some (Iq x2), none, none] [Iq (-1000001)] (fndx mem (-1000001))
    exact pw_iret eX3_biscuitsFor_27 h
  · have h := h.1 (bI1.mp c1)
    refine pw_iload_n eX3_biscuitsFor_11 rfl rfl ?_
    refine pw_iconst eX3_biscuitsFor_12 ⟨by decide, by decide⟩ ?_
    refine pw_bipush eX3_biscuitsFor_13 ⟨by decide, by decide⟩ (by decide) ?_
    refine pw_cS (z := mX3_within) (av := [Iq x2, Iq 0, Iq 20]) (st := []) eX3_biscuitsFor_15 lk_RX3_44 rfl (by decide) (by decide) (Nat.le_of_ble_eq_true rfl) rfl (ct_X3_within (mem := mem)) ?_
    show PW S mX3_biscuitsFor Q 18 [some (Aq 0), some (Iq x1), some (Iq x2), none, none] [Iq (bI (0 ≤ x2 ∧ x2 ≤ 20))] mem
    refine pw_if_ne eX3_biscuitsFor_18 (fun c3 => ?_) (fun c3 => ?_)
    · have h := h.1 (bI1.mp c3)
      refine pw_aload_n eX3_biscuitsFor_28 rfl rfl ?_
      refine pw_iload_n eX3_biscuitsFor_29 rfl rfl ?_
      refine pw_iconst eX3_biscuitsFor_30 ⟨by decide, by decide⟩ ?_
      refine pw_bipush eX3_biscuitsFor_31 ⟨by decide, by decide⟩ (by decide) ?_
      refine pw_iload_n eX3_biscuitsFor_33 rfl rfl ?_
      obtain ⟨v4, m5, hc6, h⟩ := h
      refine pw_cV (z := mX3_marksWith) (av := [Iq x1, Iq 4, Iq 99, Iq x2]) (st := []) eX3_biscuitsFor_34 lk_RX3_134 rfl (by decide) (by decide) sh0 rfl rfl (Nat.le_of_ble_eq_true rfl) rfl hc6 ?_
      show PW S mX3_biscuitsFor Q 37 [some (Aq 0), some (Iq x1), some (Iq x2), none, none] [Iq v4] m5
      refine pw_istore_n (ls2 := [some (Aq 0), some (Iq x1), some (Iq x2), some (Iq v4), none]) eX3_biscuitsFor_37 rfl (by decide) rfl ?_
      refine pw_iconst eX3_biscuitsFor_38 ⟨by decide, by decide⟩ ?_
      refine pw_istore (ls2 := [some (Aq 0), some (Iq x1), some (Iq x2), some (Iq v4), some (Iq 0)]) eX3_biscuitsFor_39 (by decide) rfl ?_
      exact h
    · have h := h.2 (bI0.mp (Classical.not_not.mp c3))
      refine pw_aload_n eX3_biscuitsFor_21 rfl rfl ?_
      refine pw_ldc (n := (-1000001)) eX3_biscuitsFor_22 ⟨by decide, by decide⟩ kc_RX3_48 ?_
      obtain ⟨ob7, h⟩ := h
      refine pw_cV (z := mX3_finding) (av := [Iq (-1000001)]) (st := []) eX3_biscuitsFor_24 lk_RX3_49 rfl (by decide) (by decide) sh0 rfl rfl (Nat.le_of_ble_eq_true rfl) rfl (ct_X3_finding (mem := mem) ob7) ?_
      show PW S mX3_biscuitsFor Q 27 [some (Aq 0), some (Iq x1), some (Iq x2), none, none] [Iq (-1000001)] (fndx mem (-1000001))
      exact pw_iret eX3_biscuitsFor_27 h

set_option maxRecDepth 100000 in
theorem rg_X3_biscuitsFor_41 {S : Sx} {Q : Option PV → Zm → Prop} {mem : Zm}   {x1 x2 x3 x4 : Int} 
    (h : (((99 ≤ x4) → (Q (some (Iq 99)) mem)) ∧ (¬ (99 ≤ x4) → ((∃ (v2 : Int) (m3 : Zm), Ct1 S mX3_marksWith [Aq 0, Iq x1, Iq 4, Iq x4, Iq x2] mem (some (Iq v2)) m3 ∧ ((((v2 = x3) → (Q (some (Iq x4)) m3)) ∧ (¬ (v2 = x3) → ((in32 (x4 + 1)) ∧ PW S mX3_biscuitsFor Q 41 [some (Aq 0), some (Iq x1), some (Iq x2), some (Iq x3), some (Iq (x4 + 1))] [] m3))))))))) :
    PW S mX3_biscuitsFor Q 41 [some (Aq 0), some (Iq x1), some (Iq x2), some (Iq x3), some (Iq x4)] [] mem := by
  refine pw_iload eX3_biscuitsFor_41 rfl ?_
  refine pw_bipush eX3_biscuitsFor_43 ⟨by decide, by decide⟩ (by decide) ?_
  refine pw_icmp_ge eX3_biscuitsFor_45 (fun c1 => ?_) (fun c1 => ?_)
  · have h := h.1 c1
    refine pw_bipush eX3_biscuitsFor_70 ⟨by decide, by decide⟩ (by decide) ?_
    exact pw_iret eX3_biscuitsFor_72 h
  · have h := h.2 c1
    refine pw_aload_n eX3_biscuitsFor_48 rfl rfl ?_
    refine pw_iload_n eX3_biscuitsFor_49 rfl rfl ?_
    refine pw_iconst eX3_biscuitsFor_50 ⟨by decide, by decide⟩ ?_
    refine pw_iload eX3_biscuitsFor_51 rfl ?_
    refine pw_iload_n eX3_biscuitsFor_53 rfl rfl ?_
    obtain ⟨v2, m3, hc4, h⟩ := h
    refine pw_cV (z := mX3_marksWith) (av := [Iq x1, Iq 4, Iq x4, Iq x2]) (st := []) eX3_biscuitsFor_54 lk_RX3_134 rfl (by decide) (by decide) sh0 rfl rfl (Nat.le_of_ble_eq_true rfl) rfl hc4 ?_
    show PW S mX3_biscuitsFor Q 57 [some (Aq 0), some (Iq x1), some (Iq x2), some (Iq x3), some (Iq x4)] [Iq v2] m3
    refine pw_iload_n eX3_biscuitsFor_57 rfl rfl ?_
    refine pw_icmp_ne eX3_biscuitsFor_58 (fun c5 => ?_) (fun c5 => ?_)
    · have h := h.2 c5
      obtain ⟨ob6, h⟩ := h
      refine pw_iinc (ls2 := [some (Aq 0), some (Iq x1), some (Iq x2), some (Iq x3), some (Iq (x4 + 1))]) eX3_biscuitsFor_64 rfl ob6 rfl ?_
      refine pw_goto eX3_biscuitsFor_67 ?_
      exact h
    · have h := h.1 (Classical.not_not.mp c5)
      refine pw_iload eX3_biscuitsFor_61 rfl ?_
      exact pw_iret eX3_biscuitsFor_63 h
set_option maxRecDepth 100000 in
theorem rg_X3_sources_0 {S : Sx} {Q : Option PV → Zm → Prop} {mem : Zm}   {x1 x2 : Int} 
    (h : (∃ (v1 : Int) (m2 : Zm), Ct1 S mX3_sheetAndChildCheck [Aq 0, Iq x1, Iq x2] mem (some (Iq v1)) m2 ∧ ((((v1 = 0) → (PW S mX3_sources Q 23 [some (Aq 0), some (Iq x1), some (Iq x2), some (Iq v1), some (Iq 0), some (Iq 0)] [] m2)) ∧ (¬ (v1 = 0) → ((fOX m2 v1) ∧ Q (some (Iq v1)) (fndx m2 v1))))))) :
    PW S mX3_sources Q 0 [some (Aq 0), some (Iq x1), some (Iq x2), none, none, none] [] mem := by
  refine pw_aload_n eX3_sources_0 rfl rfl ?_
  refine pw_iload_n eX3_sources_1 rfl rfl ?_
  refine pw_iload_n eX3_sources_2 rfl rfl ?_
  obtain ⟨v1, m2, hc3, h⟩ := h
  refine pw_cV (z := mX3_sheetAndChildCheck) (av := [Iq x1, Iq x2]) (st := []) eX3_sources_3 lk_RX3_149 rfl (by decide) (by decide) sh0 rfl rfl (Nat.le_of_ble_eq_true rfl) rfl hc3 ?_
  show PW S mX3_sources Q 6 [some (Aq 0), some (Iq x1), some (Iq x2), none, none, none] [Iq v1] m2
  refine pw_istore_n (ls2 := [some (Aq 0), some (Iq x1), some (Iq x2), some (Iq v1), none, none]) eX3_sources_6 rfl (by decide) rfl ?_
  refine pw_iload_n eX3_sources_7 rfl rfl ?_
  refine pw_if_eq eX3_sources_8 (fun c4 => ?_) (fun c4 => ?_)
  · have h := h.1 c4
    refine pw_iconst eX3_sources_17 ⟨by decide, by decide⟩ ?_
    refine pw_istore (ls2 := [some (Aq 0), some (Iq x1), some (Iq x2), some (Iq v1), some (Iq 0), none]) eX3_sources_18 (by decide) rfl ?_
    refine pw_iconst eX3_sources_20 ⟨by decide, by decide⟩ ?_
    refine pw_istore (ls2 := [some (Aq 0), some (Iq x1), some (Iq x2), some (Iq v1), some (Iq 0), some (Iq 0)]) eX3_sources_21 (by decide) rfl ?_
    exact h
  · have h := h.2 c4
    refine pw_aload_n eX3_sources_11 rfl rfl ?_
    refine pw_iload_n eX3_sources_12 rfl rfl ?_
    obtain ⟨ob5, h⟩ := h
    refine pw_cV (z := mX3_finding) (av := [Iq v1]) (st := []) eX3_sources_13 lk_RX3_49 rfl (by decide) (by decide) sh0 rfl rfl (Nat.le_of_ble_eq_true rfl) rfl (ct_X3_finding (mem := m2) ob5) ?_
    show PW S mX3_sources Q 16 [some (Aq 0), some (Iq x1), some (Iq x2), some (Iq v1), none, none] [Iq v1] (fndx m2 v1)
    exact pw_iret eX3_sources_16 h

set_option maxRecDepth 100000 in
theorem rg_X3_sources_23 {S : Sx} {Q : Option PV → Zm → Prop} {mem : Zm}   {x1 x2 x3 x4 x5 : Int} 
    (h : (((mem 1 7 ≤ x5) → (Q (some (Iq x4)) mem)) ∧ (¬ (mem 1 7 ≤ x5) → ((((x5 = x2) → ((in32 (x5 + 1)) ∧ PW S mX3_sources Q 23 [some (Aq 0), some (Iq x1), some (Iq x2), some (Iq x3), some (Iq x4), some (Iq (x5 + 1))] [] mem)) ∧ (¬ (x5 = x2) → ((0 ≤ x1 ∧ x1 < 4) ∧ (∃ (v5 : Int) (m6 : Zm), Ct1 S mX3_writesAsAsked [Aq 0, Aq (25 + 2 * (x1).toNat), Iq x2, Iq 2, Iq x5] mem (some (Iq v5)) m6 ∧ ((((v5 = 0) → ((in32 (x5 + 1)) ∧ PW S mX3_sources Q 23 [some (Aq 0), some (Iq x1), some (Iq x2), some (Iq x3), some (Iq x4), some (Iq (x5 + 1))] [] m6)) ∧ (¬ (v5 = 0) → ((in32 (x5 + 1)) ∧ PW S mX3_sources Q 23 [some (Aq 0), some (Iq x1), some (Iq x2), some (Iq x3), some (Iq (bOr x4 (bShl 1 x5))), some (Iq (x5 + 1))] [] m6)))))))))))) :
    PW S mX3_sources Q 23 [some (Aq 0), some (Iq x1), some (Iq x2), some (Iq x3), some (Iq x4), some (Iq x5)] [] mem := by
  refine pw_iload eX3_sources_23 rfl ?_
  refine pw_aload_n eX3_sources_25 rfl rfl ?_
  refine gf_RX3_10 rfl eX3_sources_26 sh0 ?_
  refine gf_RX3_60 rfl eX3_sources_29 (shR isR1) ?_
  refine pw_icmp_ge eX3_sources_32 (fun c1 => ?_) (fun c1 => ?_)
  · have h := h.1 c1
    refine pw_iload eX3_sources_73 rfl ?_
    exact pw_iret eX3_sources_75 h
  · have h := h.2 c1
    refine pw_iload eX3_sources_35 rfl ?_
    refine pw_iload_n eX3_sources_37 rfl rfl ?_
    refine pw_icmp_eq eX3_sources_38 (fun c2 => ?_) (fun c2 => ?_)
    · have h := h.1 c2
      obtain ⟨ob3, h⟩ := h
      refine pw_iinc (ls2 := [some (Aq 0), some (Iq x1), some (Iq x2), some (Iq x3), some (Iq x4), some (Iq (x5 + 1))]) eX3_sources_67 rfl ob3 rfl ?_
      refine pw_goto eX3_sources_70 ?_
      exact h
    · have h := h.2 c2
      refine pw_aload_n eX3_sources_41 rfl rfl ?_
      refine pw_aload_n eX3_sources_42 rfl rfl ?_
      refine gf_RX3_35 rfl eX3_sources_43 sh0 ?_
      refine pw_iload_n eX3_sources_46 rfl rfl ?_
      obtain ⟨ob4, h⟩ := h
      refine pw_aald eX3_sources_47 sh24 ob4 ?_
      refine pw_iload_n eX3_sources_48 rfl rfl ?_
      refine pw_iconst eX3_sources_49 ⟨by decide, by decide⟩ ?_
      refine pw_iload eX3_sources_50 rfl ?_
      obtain ⟨v5, m6, hc7, h⟩ := h
      refine pw_cV (z := mX3_writesAsAsked) (av := [Aq (25 + 2 * (x1).toNat), Iq x2, Iq 2, Iq x5]) (st := []) eX3_sources_52 lk_RX3_152 rfl (by decide) (by decide) sh0 rfl rfl (Nat.le_of_ble_eq_true rfl) rfl hc7 ?_
      show PW S mX3_sources Q 55 [some (Aq 0), some (Iq x1), some (Iq x2), some (Iq x3), some (Iq x4), some (Iq x5)] [Iq v5] m6
      refine pw_if_eq eX3_sources_55 (fun c8 => ?_) (fun c8 => ?_)
      · have h := h.1 c8
        obtain ⟨ob9, h⟩ := h
        refine pw_iinc (ls2 := [some (Aq 0), some (Iq x1), some (Iq x2), some (Iq x3), some (Iq x4), some (Iq (x5 + 1))]) eX3_sources_67 rfl ob9 rfl ?_
        refine pw_goto eX3_sources_70 ?_
        exact h
      · have h := h.2 c8
        refine pw_iload eX3_sources_58 rfl ?_
        refine pw_iconst eX3_sources_60 ⟨by decide, by decide⟩ ?_
        refine pw_iload eX3_sources_61 rfl ?_
        refine pw_ishl eX3_sources_63 ?_
        refine pw_ior eX3_sources_64 ?_
        refine pw_istore (ls2 := [some (Aq 0), some (Iq x1), some (Iq x2), some (Iq x3), some (Iq (bOr x4 (bShl 1 x5))), some (Iq x5)]) eX3_sources_65 (by decide) rfl ?_
        obtain ⟨ob10, h⟩ := h
        refine pw_iinc (ls2 := [some (Aq 0), some (Iq x1), some (Iq x2), some (Iq x3), some (Iq (bOr x4 (bShl 1 x5))), some (Iq (x5 + 1))]) eX3_sources_67 rfl ob10 rfl ?_
        refine pw_goto eX3_sources_70 ?_
        exact h
set_option maxRecDepth 100000 in
theorem rg_X3_fits_0 {S : Sx} {Q : Option PV → Zm → Prop} {mem : Zm}   {x1 x2 : Int} 
    (h : (∃ (v1 : Int) (m2 : Zm), Ct1 S mX3_sheetAndChildCheck [Aq 0, Iq x1, Iq x2] mem (some (Iq v1)) m2 ∧ ((((v1 = 0) → ((∃ (m6 : Zm), Ct1 S mX3_tryDayKnowingNothing [Aq 0, Iq x2] m2 none m6 ∧ (PW S mX3_fits Q 28 [some (Aq 0), some (Iq x1), some (Iq x2), some (Iq v1), some (Iq 1), some (Iq 0), none] [] m6)))) ∧ (¬ (v1 = 0) → ((fOX m2 v1) ∧ Q (some (Iq v1)) (fndx m2 v1))))))) :
    PW S mX3_fits Q 0 [some (Aq 0), some (Iq x1), some (Iq x2), none, none, none, none] [] mem := by
  refine pw_aload_n eX3_fits_0 rfl rfl ?_
  refine pw_iload_n eX3_fits_1 rfl rfl ?_
  refine pw_iload_n eX3_fits_2 rfl rfl ?_
  obtain ⟨v1, m2, hc3, h⟩ := h
  refine pw_cV (z := mX3_sheetAndChildCheck) (av := [Iq x1, Iq x2]) (st := []) eX3_fits_3 lk_RX3_149 rfl (by decide) (by decide) sh0 rfl rfl (Nat.le_of_ble_eq_true rfl) rfl hc3 ?_
  show PW S mX3_fits Q 6 [some (Aq 0), some (Iq x1), some (Iq x2), none, none, none, none] [Iq v1] m2
  refine pw_istore_n (ls2 := [some (Aq 0), some (Iq x1), some (Iq x2), some (Iq v1), none, none, none]) eX3_fits_6 rfl (by decide) rfl ?_
  refine pw_iload_n eX3_fits_7 rfl rfl ?_
  refine pw_if_eq eX3_fits_8 (fun c4 => ?_) (fun c4 => ?_)
  · have h := h.1 c4
    refine pw_aload_n eX3_fits_17 rfl rfl ?_
    refine pw_iload_n eX3_fits_18 rfl rfl ?_
    obtain ⟨m6, hc7, h⟩ := h
    refine pw_cV (z := mX3_tryDayKnowingNothing) (av := [Iq x2]) (st := []) eX3_fits_19 lk_RX3_156 rfl (by decide) (by decide) sh0 rfl rfl (Nat.le_of_ble_eq_true rfl) rfl hc7 ?_
    show PW S mX3_fits Q 22 [some (Aq 0), some (Iq x1), some (Iq x2), some (Iq v1), none, none, none] [] m6
    refine pw_iconst eX3_fits_22 ⟨by decide, by decide⟩ ?_
    refine pw_istore (ls2 := [some (Aq 0), some (Iq x1), some (Iq x2), some (Iq v1), some (Iq 1), none, none]) eX3_fits_23 (by decide) rfl ?_
    refine pw_iconst eX3_fits_25 ⟨by decide, by decide⟩ ?_
    refine pw_istore (ls2 := [some (Aq 0), some (Iq x1), some (Iq x2), some (Iq v1), some (Iq 1), some (Iq 0), none]) eX3_fits_26 (by decide) rfl ?_
    exact h
  · have h := h.2 c4
    refine pw_aload_n eX3_fits_11 rfl rfl ?_
    refine pw_iload_n eX3_fits_12 rfl rfl ?_
    obtain ⟨ob8, h⟩ := h
    refine pw_cV (z := mX3_finding) (av := [Iq v1]) (st := []) eX3_fits_13 lk_RX3_49 rfl (by decide) (by decide) sh0 rfl rfl (Nat.le_of_ble_eq_true rfl) rfl (ct_X3_finding (mem := m2) ob8) ?_
    show PW S mX3_fits Q 16 [some (Aq 0), some (Iq x1), some (Iq x2), some (Iq v1), none, none, none] [Iq v1] (fndx m2 v1)
    exact pw_iret eX3_fits_16 h

set_option maxRecDepth 100000 in
theorem rg_X3_fits_28 {S : Sx} {Q : Option PV → Zm → Prop} {mem : Zm}   {x1 x2 x3 x4 x5 : Int} 
    (h : (((8 ≤ x5) → (Q (some (Iq x4)) mem)) ∧ (¬ (8 ≤ x5) → ((0 ≤ x1 ∧ x1 < 4) ∧ (∃ (v3 : Int) (m4 : Zm), Ct1 S mX3_fitsUnknown [Aq 0, Aq (25 + 2 * (x1).toNat), Iq x2, Iq x5] mem (some (Iq v3)) m4 ∧ ((((v3 = 0) → ((0 ≤ x1 ∧ x1 < 4) ∧ (∃ (v8 : Int) (m9 : Zm), Ct1 S mX3_fitsKnown [Aq 0, Aq (25 + 2 * (x1).toNat), Iq x5] m4 (some (Iq v8)) m9 ∧ ((((v8 = 0) → ((in32 (x4 * 0)) ∧ (in32 (x5 + 1)) ∧ PW S mX3_fits Q 28 [some (Aq 0), some (Iq x1), some (Iq x2), some (Iq x3), some (Iq (x4 * 0)), some (Iq (x5 + 1)), none] [] m9)) ∧ (¬ (v8 = 0) → ((in32 (x4 * (0 + 1))) ∧ (in32 (x5 + 1)) ∧ PW S mX3_fits Q 28 [some (Aq 0), some (Iq x1), some (Iq x2), some (Iq x3), some (Iq (x4 * (0 + 1))), some (Iq (x5 + 1)), none] [] m9))))))) ∧ (¬ (v3 = 0) → ((0 ≤ x1 ∧ x1 < 4) ∧ (∃ (v17 : Int) (m18 : Zm), Ct1 S mX3_fitsKnown [Aq 0, Aq (25 + 2 * (x1).toNat), Iq x5] m4 (some (Iq v17)) m18 ∧ ((((v17 = 0) → ((in32 (x4 * (0 + 1))) ∧ (in32 (x5 + 1)) ∧ PW S mX3_fits Q 28 [some (Aq 0), some (Iq x1), some (Iq x2), some (Iq x3), some (Iq (x4 * (0 + 1))), some (Iq (x5 + 1)), none] [] m18)) ∧ (¬ (v17 = 0) → ((in32 (x4 * ((0 + 1) + 1))) ∧ (in32 (x5 + 1)) ∧ PW S mX3_fits Q 28 [some (Aq 0), some (Iq x1), some (Iq x2), some (Iq x3), some (Iq (x4 * ((0 + 1) + 1))), some (Iq (x5 + 1)), none] [] m18)))))))))))))) :
    PW S mX3_fits Q 28 [some (Aq 0), some (Iq x1), some (Iq x2), some (Iq x3), some (Iq x4), some (Iq x5), none] [] mem := by
  refine pw_iload eX3_fits_28 rfl ?_
  refine pw_bipush eX3_fits_30 ⟨by decide, by decide⟩ (by decide) ?_
  refine pw_icmp_ge eX3_fits_32 (fun c1 => ?_) (fun c1 => ?_)
  · have h := h.1 c1
    refine pw_iload eX3_fits_88 rfl ?_
    exact pw_iret eX3_fits_90 h
  · have h := h.2 c1
    refine pw_iconst eX3_fits_35 ⟨by decide, by decide⟩ ?_
    refine pw_istore (ls2 := [some (Aq 0), some (Iq x1), some (Iq x2), some (Iq x3), some (Iq x4), some (Iq x5), some (Iq 0)]) eX3_fits_36 (by decide) rfl ?_
    refine pw_aload_n eX3_fits_38 rfl rfl ?_
    refine pw_aload_n eX3_fits_39 rfl rfl ?_
    refine gf_RX3_35 rfl eX3_fits_40 sh0 ?_
    refine pw_iload_n eX3_fits_43 rfl rfl ?_
    obtain ⟨ob2, h⟩ := h
    refine pw_aald eX3_fits_44 sh24 ob2 ?_
    refine pw_iload_n eX3_fits_45 rfl rfl ?_
    refine pw_iload eX3_fits_46 rfl ?_
    obtain ⟨v3, m4, hc5, h⟩ := h
    refine pw_cV (z := mX3_fitsUnknown) (av := [Aq (25 + 2 * (x1).toNat), Iq x2, Iq x5]) (st := []) eX3_fits_48 lk_RX3_159 rfl (by decide) (by decide) sh0 rfl rfl (Nat.le_of_ble_eq_true rfl) rfl hc5 ?_
    show PW S mX3_fits Q 51 [some (Aq 0), some (Iq x1), some (Iq x2), some (Iq x3), some (Iq x4), some (Iq x5), some (Iq 0)] [Iq v3] m4
    refine pw_if_eq eX3_fits_51 (fun c6 => ?_) (fun c6 => ?_)
    · have h := h.1 c6
      refine pw_aload_n eX3_fits_57 rfl rfl ?_
      refine pw_aload_n eX3_fits_58 rfl rfl ?_
      refine gf_RX3_35 rfl eX3_fits_59 sh0 ?_
      refine pw_iload_n eX3_fits_62 rfl rfl ?_
      obtain ⟨ob7, h⟩ := h
      refine pw_aald eX3_fits_63 sh24 ob7 ?_
      refine pw_iload eX3_fits_64 rfl ?_
      obtain ⟨v8, m9, hc10, h⟩ := h
      refine pw_cV (z := mX3_fitsKnown) (av := [Aq (25 + 2 * (x1).toNat), Iq x5]) (st := []) eX3_fits_66 lk_RX3_163 rfl (by decide) (by decide) sh0 rfl rfl (Nat.le_of_ble_eq_true rfl) rfl hc10 ?_
      show PW S mX3_fits Q 69 [some (Aq 0), some (Iq x1), some (Iq x2), some (Iq x3), some (Iq x4), some (Iq x5), some (Iq 0)] [Iq v8] m9
      refine pw_if_eq eX3_fits_69 (fun c11 => ?_) (fun c11 => ?_)
      · have h := h.1 c11
        refine pw_iload eX3_fits_75 rfl ?_
        refine pw_iload eX3_fits_77 rfl ?_
        obtain ⟨ob12, h⟩ := h
        refine pw_imul eX3_fits_79 ob12 ?_
        refine pw_istore (ls2 := [some (Aq 0), some (Iq x1), some (Iq x2), some (Iq x3), some (Iq (x4 * 0)), some (Iq x5), some (Iq 0)]) eX3_fits_80 (by decide) rfl ?_
        obtain ⟨ob13, h⟩ := h
        refine pw_iinc (ls2 := [some (Aq 0), some (Iq x1), some (Iq x2), some (Iq x3), some (Iq (x4 * 0)), some (Iq (x5 + 1)), some (Iq 0)]) eX3_fits_82 rfl ob13 rfl ?_
        refine pw_goto eX3_fits_85 ?_
        exact pw_drop (bs := [true, true, true, true, true, true, false]) h
      · have h := h.2 c11
        refine pw_iinc (ls2 := [some (Aq 0), some (Iq x1), some (Iq x2), some (Iq x3), some (Iq x4), some (Iq x5), some (Iq (0 + 1))]) eX3_fits_72 rfl (by decide) rfl ?_
        refine pw_iload eX3_fits_75 rfl ?_
        refine pw_iload eX3_fits_77 rfl ?_
        obtain ⟨ob14, h⟩ := h
        refine pw_imul eX3_fits_79 ob14 ?_
        refine pw_istore (ls2 := [some (Aq 0), some (Iq x1), some (Iq x2), some (Iq x3), some (Iq (x4 * (0 + 1))), some (Iq x5), some (Iq (0 + 1))]) eX3_fits_80 (by decide) rfl ?_
        obtain ⟨ob15, h⟩ := h
        refine pw_iinc (ls2 := [some (Aq 0), some (Iq x1), some (Iq x2), some (Iq x3), some (Iq (x4 * (0 + 1))), some (Iq (x5 + 1)), some (Iq (0 + 1))]) eX3_fits_82 rfl ob15 rfl ?_
        refine pw_goto eX3_fits_85 ?_
        exact pw_drop (bs := [true, true, true, true, true, true, false]) h
    · have h := h.2 c6
      refine pw_iinc (ls2 := [some (Aq 0), some (Iq x1), some (Iq x2), some (Iq x3), some (Iq x4), some (Iq x5), some (Iq (0 + 1))]) eX3_fits_54 rfl (by decide) rfl ?_
      refine pw_aload_n eX3_fits_57 rfl rfl ?_
      refine pw_aload_n eX3_fits_58 rfl rfl ?_
      refine gf_RX3_35 rfl eX3_fits_59 sh0 ?_
      refine pw_iload_n eX3_fits_62 rfl rfl ?_
      obtain ⟨ob16, h⟩ := h
      refine pw_aald eX3_fits_63 sh24 ob16 ?_
      refine pw_iload eX3_fits_64 rfl ?_
      obtain ⟨v17, m18, hc19, h⟩ := h
      refine pw_cV (z := mX3_fitsKnown) (av := [Aq (25 + 2 * (x1).toNat), Iq x5]) (st := []) eX3_fits_66 lk_RX3_163 rfl (by decide) (by decide) sh0 rfl rfl (Nat.le_of_ble_eq_true rfl) rfl hc19 ?_
      show PW S mX3_fits Q 69 [some (Aq 0), some (Iq x1), some (Iq x2), some (Iq x3), some (Iq x4), some (Iq x5), some (Iq (0 + 1))] [Iq v17] m18
      refine pw_if_eq eX3_fits_69 (fun c20 => ?_) (fun c20 => ?_)
      · have h := h.1 c20
        refine pw_iload eX3_fits_75 rfl ?_
        refine pw_iload eX3_fits_77 rfl ?_
        obtain ⟨ob21, h⟩ := h
        refine pw_imul eX3_fits_79 ob21 ?_
        refine pw_istore (ls2 := [some (Aq 0), some (Iq x1), some (Iq x2), some (Iq x3), some (Iq (x4 * (0 + 1))), some (Iq x5), some (Iq (0 + 1))]) eX3_fits_80 (by decide) rfl ?_
        obtain ⟨ob22, h⟩ := h
        refine pw_iinc (ls2 := [some (Aq 0), some (Iq x1), some (Iq x2), some (Iq x3), some (Iq (x4 * (0 + 1))), some (Iq (x5 + 1)), some (Iq (0 + 1))]) eX3_fits_82 rfl ob22 rfl ?_
        refine pw_goto eX3_fits_85 ?_
        exact pw_drop (bs := [true, true, true, true, true, true, false]) h
      · have h := h.2 c20
        refine pw_iinc (ls2 := [some (Aq 0), some (Iq x1), some (Iq x2), some (Iq x3), some (Iq x4), some (Iq x5), some (Iq ((0 + 1) + 1))]) eX3_fits_72 rfl (by decide) rfl ?_
        refine pw_iload eX3_fits_75 rfl ?_
        refine pw_iload eX3_fits_77 rfl ?_
        obtain ⟨ob23, h⟩ := h
        refine pw_imul eX3_fits_79 ob23 ?_
        refine pw_istore (ls2 := [some (Aq 0), some (Iq x1), some (Iq x2), some (Iq x3), some (Iq (x4 * ((0 + 1) + 1))), some (Iq x5), some (Iq ((0 + 1) + 1))]) eX3_fits_80 (by decide) rfl ?_
        obtain ⟨ob24, h⟩ := h
        refine pw_iinc (ls2 := [some (Aq 0), some (Iq x1), some (Iq x2), some (Iq x3), some (Iq (x4 * ((0 + 1) + 1))), some (Iq (x5 + 1)), some (Iq ((0 + 1) + 1))]) eX3_fits_82 rfl ob24 rfl ?_
        refine pw_goto eX3_fits_85 ?_
        exact pw_drop (bs := [true, true, true, true, true, true, false]) h
set_option maxRecDepth 100000 in
theorem rg_X3_knew_0 {S : Sx} {Q : Option PV → Zm → Prop} {mem : Zm}   {x1 x2 : Int} 
    (h : (∃ (v1 : Int) (m2 : Zm), Ct1 S mX3_sheetAndChildCheck [Aq 0, Iq x1, Iq x2] mem (some (Iq v1)) m2 ∧ ((((v1 = 0) → ((∃ (m6 : Zm), Ct1 S mX3_tryDayKnowingNothing [Aq 0, Iq x2] m2 none m6 ∧ (PW S mX3_knew Q 28 [some (Aq 0), some (Iq x1), some (Iq x2), some (Iq v1), some (Iq 0), some (Iq 0)] [] m6)))) ∧ (¬ (v1 = 0) → ((fOX m2 v1) ∧ Q (some (Iq v1)) (fndx m2 v1))))))) :
    PW S mX3_knew Q 0 [some (Aq 0), some (Iq x1), some (Iq x2), none, none, none] [] mem := by
  refine pw_aload_n eX3_knew_0 rfl rfl ?_
  refine pw_iload_n eX3_knew_1 rfl rfl ?_
  refine pw_iload_n eX3_knew_2 rfl rfl ?_
  obtain ⟨v1, m2, hc3, h⟩ := h
  refine pw_cV (z := mX3_sheetAndChildCheck) (av := [Iq x1, Iq x2]) (st := []) eX3_knew_3 lk_RX3_149 rfl (by decide) (by decide) sh0 rfl rfl (Nat.le_of_ble_eq_true rfl) rfl hc3 ?_
  show PW S mX3_knew Q 6 [some (Aq 0), some (Iq x1), some (Iq x2), none, none, none] [Iq v1] m2
  refine pw_istore_n (ls2 := [some (Aq 0), some (Iq x1), some (Iq x2), some (Iq v1), none, none]) eX3_knew_6 rfl (by decide) rfl ?_
  refine pw_iload_n eX3_knew_7 rfl rfl ?_
  refine pw_if_eq eX3_knew_8 (fun c4 => ?_) (fun c4 => ?_)
  · have h := h.1 c4
    refine pw_aload_n eX3_knew_17 rfl rfl ?_
    refine pw_iload_n eX3_knew_18 rfl rfl ?_
    obtain ⟨m6, hc7, h⟩ := h
    refine pw_cV (z := mX3_tryDayKnowingNothing) (av := [Iq x2]) (st := []) eX3_knew_19 lk_RX3_156 rfl (by decide) (by decide) sh0 rfl rfl (Nat.le_of_ble_eq_true rfl) rfl hc7 ?_
    show PW S mX3_knew Q 22 [some (Aq 0), some (Iq x1), some (Iq x2), some (Iq v1), none, none] [] m6
    refine pw_iconst eX3_knew_22 ⟨by decide, by decide⟩ ?_
    refine pw_istore (ls2 := [some (Aq 0), some (Iq x1), some (Iq x2), some (Iq v1), some (Iq 0), none]) eX3_knew_23 (by decide) rfl ?_
    refine pw_iconst eX3_knew_25 ⟨by decide, by decide⟩ ?_
    refine pw_istore (ls2 := [some (Aq 0), some (Iq x1), some (Iq x2), some (Iq v1), some (Iq 0), some (Iq 0)]) eX3_knew_26 (by decide) rfl ?_
    exact h
  · have h := h.2 c4
    refine pw_aload_n eX3_knew_11 rfl rfl ?_
    refine pw_iload_n eX3_knew_12 rfl rfl ?_
    obtain ⟨ob8, h⟩ := h
    refine pw_cV (z := mX3_finding) (av := [Iq v1]) (st := []) eX3_knew_13 lk_RX3_49 rfl (by decide) (by decide) sh0 rfl rfl (Nat.le_of_ble_eq_true rfl) rfl (ct_X3_finding (mem := m2) ob8) ?_
    show PW S mX3_knew Q 16 [some (Aq 0), some (Iq x1), some (Iq x2), some (Iq v1), none, none] [Iq v1] (fndx m2 v1)
    exact pw_iret eX3_knew_16 h

set_option maxRecDepth 100000 in
theorem rg_X3_knew_28 {S : Sx} {Q : Option PV → Zm → Prop} {mem : Zm}   {x1 x2 x3 x4 x5 : Int} 
    (h : (((8 ≤ x5) → (Q (some (Iq x4)) mem)) ∧ (¬ (8 ≤ x5) → ((0 ≤ x1 ∧ x1 < 4) ∧ (∃ (v3 : Int) (m4 : Zm), Ct1 S mX3_fitsUnknown [Aq 0, Aq (25 + 2 * (x1).toNat), Iq x2, Iq x5] mem (some (Iq v3)) m4 ∧ ((((v3 = 0) → ((0 ≤ x1 ∧ x1 < 4) ∧ (∃ (v9 : Int) (m10 : Zm), Ct1 S mX3_fitsKnown [Aq 0, Aq (25 + 2 * (x1).toNat), Iq x5] m4 (some (Iq v9)) m10 ∧ ((((v9 = 0) → ((fOX m10 (-1000004)) ∧ Q (some (Iq (-1000004))) (fndx m10 (-1000004)))) ∧ (¬ (v9 = 0) → ((in32 (x5 + 1)) ∧ PW S mX3_knew Q 28 [some (Aq 0), some (Iq x1), some (Iq x2), some (Iq x3), some (Iq (bOr x4 (bShl 1 x5))), some (Iq (x5 + 1))] [] m10))))))) ∧ (¬ (v3 = 0) → ((in32 (x5 + 1)) ∧ PW S mX3_knew Q 28 [some (Aq 0), some (Iq x1), some (Iq x2), some (Iq x3), some (Iq x4), some (Iq (x5 + 1))] [] m4))))))))) :
    PW S mX3_knew Q 28 [some (Aq 0), some (Iq x1), some (Iq x2), some (Iq x3), some (Iq x4), some (Iq x5)] [] mem := by
  refine pw_iload eX3_knew_28 rfl ?_
  refine pw_bipush eX3_knew_30 ⟨by decide, by decide⟩ (by decide) ?_
  refine pw_icmp_ge eX3_knew_32 (fun c1 => ?_) (fun c1 => ?_)
  · have h := h.1 c1
    refine pw_iload eX3_knew_88 rfl ?_
    exact pw_iret eX3_knew_90 h
  · have h := h.2 c1
    refine pw_aload_n eX3_knew_35 rfl rfl ?_
    refine pw_aload_n eX3_knew_36 rfl rfl ?_
    refine gf_RX3_35 rfl eX3_knew_37 sh0 ?_
    refine pw_iload_n eX3_knew_40 rfl rfl ?_
    obtain ⟨ob2, h⟩ := h
    refine pw_aald eX3_knew_41 sh24 ob2 ?_
    refine pw_iload_n eX3_knew_42 rfl rfl ?_
    refine pw_iload eX3_knew_43 rfl ?_
    obtain ⟨v3, m4, hc5, h⟩ := h
    refine pw_cV (z := mX3_fitsUnknown) (av := [Aq (25 + 2 * (x1).toNat), Iq x2, Iq x5]) (st := []) eX3_knew_45 lk_RX3_159 rfl (by decide) (by decide) sh0 rfl rfl (Nat.le_of_ble_eq_true rfl) rfl hc5 ?_
    show PW S mX3_knew Q 48 [some (Aq 0), some (Iq x1), some (Iq x2), some (Iq x3), some (Iq x4), some (Iq x5)] [Iq v3] m4
    refine pw_if_ne eX3_knew_48 (fun c6 => ?_) (fun c6 => ?_)
    · have h := h.2 c6
      obtain ⟨ob7, h⟩ := h
      refine pw_iinc (ls2 := [some (Aq 0), some (Iq x1), some (Iq x2), some (Iq x3), some (Iq x4), some (Iq (x5 + 1))]) eX3_knew_82 rfl ob7 rfl ?_
      refine pw_goto eX3_knew_85 ?_
      exact h
    · have h := h.1 (Classical.not_not.mp c6)
      refine pw_aload_n eX3_knew_51 rfl rfl ?_
      refine pw_aload_n eX3_knew_52 rfl rfl ?_
      refine gf_RX3_35 rfl eX3_knew_53 sh0 ?_
      refine pw_iload_n eX3_knew_56 rfl rfl ?_
      obtain ⟨ob8, h⟩ := h
      refine pw_aald eX3_knew_57 sh24 ob8 ?_
      refine pw_iload eX3_knew_58 rfl ?_
      obtain ⟨v9, m10, hc11, h⟩ := h
      refine pw_cV (z := mX3_fitsKnown) (av := [Aq (25 + 2 * (x1).toNat), Iq x5]) (st := []) eX3_knew_60 lk_RX3_163 rfl (by decide) (by decide) sh0 rfl rfl (Nat.le_of_ble_eq_true rfl) rfl hc11 ?_
      show PW S mX3_knew Q 63 [some (Aq 0), some (Iq x1), some (Iq x2), some (Iq x3), some (Iq x4), some (Iq x5)] [Iq v9] m10
      refine pw_if_ne eX3_knew_63 (fun c12 => ?_) (fun c12 => ?_)
      · have h := h.2 c12
        refine pw_iload eX3_knew_73 rfl ?_
        refine pw_iconst eX3_knew_75 ⟨by decide, by decide⟩ ?_
        refine pw_iload eX3_knew_76 rfl ?_
        refine pw_ishl eX3_knew_78 ?_
        refine pw_ior eX3_knew_79 ?_
        refine pw_istore (ls2 := [some (Aq 0), some (Iq x1), some (Iq x2), some (Iq x3), some (Iq (bOr x4 (bShl 1 x5))), some (Iq x5)]) eX3_knew_80 (by decide) rfl ?_
        obtain ⟨ob13, h⟩ := h
        refine pw_iinc (ls2 := [some (Aq 0), some (Iq x1), some (Iq x2), some (Iq x3), some (Iq (bOr x4 (bShl 1 x5))), some (Iq (x5 + 1))]) eX3_knew_82 rfl ob13 rfl ?_
        refine pw_goto eX3_knew_85 ?_
        exact h
      · have h := h.1 (Classical.not_not.mp c12)
        refine pw_aload_n eX3_knew_66 rfl rfl ?_
        refine pw_ldc (n := (-1000004)) eX3_knew_67 ⟨by decide, by decide⟩ kc_RX3_133 ?_
        obtain ⟨ob14, h⟩ := h
        refine pw_cV (z := mX3_finding) (av := [Iq (-1000004)]) (st := []) eX3_knew_69 lk_RX3_49 rfl (by decide) (by decide) sh0 rfl rfl (Nat.le_of_ble_eq_true rfl) rfl (ct_X3_finding (mem := m10) ob14) ?_
        show PW S mX3_knew Q 72 [some (Aq 0), some (Iq x1), some (Iq x2), some (Iq x3), some (Iq x4), some (Iq x5)] [Iq (-1000004)] (fndx m10 (-1000004))
        exact pw_iret eX3_knew_72 h
set_option maxRecDepth 100000 in
theorem rg_X3_kinds_0 {S : Sx} {Q : Option PV → Zm → Prop} {mem : Zm}   {x1 x2 : Int} 
    (h : (∃ (v1 : Int) (m2 : Zm), Ct1 S mX3_sheetAndChildCheck [Aq 0, Iq x1, Iq x2] mem (some (Iq v1)) m2 ∧ ((((v1 = 0) → (PW S mX3_kinds Q 23 [some (Aq 0), some (Iq x1), some (Iq x2), some (Iq v1), some (Iq 0), some (Iq 0)] [] m2)) ∧ (¬ (v1 = 0) → ((fOX m2 v1) ∧ Q (some (Iq v1)) (fndx m2 v1))))))) :
    PW S mX3_kinds Q 0 [some (Aq 0), some (Iq x1), some (Iq x2), none, none, none] [] mem := by
  refine pw_aload_n eX3_kinds_0 rfl rfl ?_
  refine pw_iload_n eX3_kinds_1 rfl rfl ?_
  refine pw_iload_n eX3_kinds_2 rfl rfl ?_
  obtain ⟨v1, m2, hc3, h⟩ := h
  refine pw_cV (z := mX3_sheetAndChildCheck) (av := [Iq x1, Iq x2]) (st := []) eX3_kinds_3 lk_RX3_149 rfl (by decide) (by decide) sh0 rfl rfl (Nat.le_of_ble_eq_true rfl) rfl hc3 ?_
  show PW S mX3_kinds Q 6 [some (Aq 0), some (Iq x1), some (Iq x2), none, none, none] [Iq v1] m2
  refine pw_istore_n (ls2 := [some (Aq 0), some (Iq x1), some (Iq x2), some (Iq v1), none, none]) eX3_kinds_6 rfl (by decide) rfl ?_
  refine pw_iload_n eX3_kinds_7 rfl rfl ?_
  refine pw_if_eq eX3_kinds_8 (fun c4 => ?_) (fun c4 => ?_)
  · have h := h.1 c4
    refine pw_iconst eX3_kinds_17 ⟨by decide, by decide⟩ ?_
    refine pw_istore (ls2 := [some (Aq 0), some (Iq x1), some (Iq x2), some (Iq v1), some (Iq 0), none]) eX3_kinds_18 (by decide) rfl ?_
    refine pw_iconst eX3_kinds_20 ⟨by decide, by decide⟩ ?_
    refine pw_istore (ls2 := [some (Aq 0), some (Iq x1), some (Iq x2), some (Iq v1), some (Iq 0), some (Iq 0)]) eX3_kinds_21 (by decide) rfl ?_
    exact h
  · have h := h.2 c4
    refine pw_aload_n eX3_kinds_11 rfl rfl ?_
    refine pw_iload_n eX3_kinds_12 rfl rfl ?_
    obtain ⟨ob5, h⟩ := h
    refine pw_cV (z := mX3_finding) (av := [Iq v1]) (st := []) eX3_kinds_13 lk_RX3_49 rfl (by decide) (by decide) sh0 rfl rfl (Nat.le_of_ble_eq_true rfl) rfl (ct_X3_finding (mem := m2) ob5) ?_
    show PW S mX3_kinds Q 16 [some (Aq 0), some (Iq x1), some (Iq x2), some (Iq v1), none, none] [Iq v1] (fndx m2 v1)
    exact pw_iret eX3_kinds_16 h

set_option maxRecDepth 100000 in
theorem rg_X3_kinds_23 {S : Sx} {Q : Option PV → Zm → Prop} {mem : Zm}   {x1 x2 x3 x4 x5 : Int} 
    (h : (((7 ≤ x5) → (Q (some (Iq x4)) mem)) ∧ (¬ (7 ≤ x5) → ((0 ≤ x1 ∧ x1 < 4) ∧ (∃ (v3 : Int) (m4 : Zm), Ct1 S mX3_writesAsAsked [Aq 0, Aq (25 + 2 * (x1).toNat), Iq x2, Iq 0, Iq x5] mem (some (Iq v3)) m4 ∧ ((((v3 = 0) → ((in32 (x5 + 1)) ∧ PW S mX3_kinds Q 23 [some (Aq 0), some (Iq x1), some (Iq x2), some (Iq x3), some (Iq x4), some (Iq (x5 + 1))] [] m4)) ∧ (¬ (v3 = 0) → ((in32 (x5 + 1)) ∧ PW S mX3_kinds Q 23 [some (Aq 0), some (Iq x1), some (Iq x2), some (Iq x3), some (Iq (bOr x4 (bShl 1 x5))), some (Iq (x5 + 1))] [] m4))))))))) :
    PW S mX3_kinds Q 23 [some (Aq 0), some (Iq x1), some (Iq x2), some (Iq x3), some (Iq x4), some (Iq x5)] [] mem := by
  refine pw_iload eX3_kinds_23 rfl ?_
  refine pw_bipush eX3_kinds_25 ⟨by decide, by decide⟩ (by decide) ?_
  refine pw_icmp_ge eX3_kinds_27 (fun c1 => ?_) (fun c1 => ?_)
  · have h := h.1 c1
    refine pw_iload eX3_kinds_62 rfl ?_
    exact pw_iret eX3_kinds_64 h
  · have h := h.2 c1
    refine pw_aload_n eX3_kinds_30 rfl rfl ?_
    refine pw_aload_n eX3_kinds_31 rfl rfl ?_
    refine gf_RX3_35 rfl eX3_kinds_32 sh0 ?_
    refine pw_iload_n eX3_kinds_35 rfl rfl ?_
    obtain ⟨ob2, h⟩ := h
    refine pw_aald eX3_kinds_36 sh24 ob2 ?_
    refine pw_iload_n eX3_kinds_37 rfl rfl ?_
    refine pw_iconst eX3_kinds_38 ⟨by decide, by decide⟩ ?_
    refine pw_iload eX3_kinds_39 rfl ?_
    obtain ⟨v3, m4, hc5, h⟩ := h
    refine pw_cV (z := mX3_writesAsAsked) (av := [Aq (25 + 2 * (x1).toNat), Iq x2, Iq 0, Iq x5]) (st := []) eX3_kinds_41 lk_RX3_152 rfl (by decide) (by decide) sh0 rfl rfl (Nat.le_of_ble_eq_true rfl) rfl hc5 ?_
    show PW S mX3_kinds Q 44 [some (Aq 0), some (Iq x1), some (Iq x2), some (Iq x3), some (Iq x4), some (Iq x5)] [Iq v3] m4
    refine pw_if_eq eX3_kinds_44 (fun c6 => ?_) (fun c6 => ?_)
    · have h := h.1 c6
      obtain ⟨ob7, h⟩ := h
      refine pw_iinc (ls2 := [some (Aq 0), some (Iq x1), some (Iq x2), some (Iq x3), some (Iq x4), some (Iq (x5 + 1))]) eX3_kinds_56 rfl ob7 rfl ?_
      refine pw_goto eX3_kinds_59 ?_
      exact h
    · have h := h.2 c6
      refine pw_iload eX3_kinds_47 rfl ?_
      refine pw_iconst eX3_kinds_49 ⟨by decide, by decide⟩ ?_
      refine pw_iload eX3_kinds_50 rfl ?_
      refine pw_ishl eX3_kinds_52 ?_
      refine pw_ior eX3_kinds_53 ?_
      refine pw_istore (ls2 := [some (Aq 0), some (Iq x1), some (Iq x2), some (Iq x3), some (Iq (bOr x4 (bShl 1 x5))), some (Iq x5)]) eX3_kinds_54 (by decide) rfl ?_
      obtain ⟨ob8, h⟩ := h
      refine pw_iinc (ls2 := [some (Aq 0), some (Iq x1), some (Iq x2), some (Iq x3), some (Iq (bOr x4 (bShl 1 x5))), some (Iq (x5 + 1))]) eX3_kinds_56 rfl ob8 rfl ?_
      refine pw_goto eX3_kinds_59 ?_
      exact h
set_option maxRecDepth 100000 in
theorem rg_X3_text_0 {S : Sx} {Q : Option PV → Zm → Prop} {mem : Zm}   
    (h : (∃ (m2 : Zm), Ct1 S mX0_become [Aq 8, Aq 1] mem none m2 ∧ ((∃ (v4 : Int) (m5 : Zm), Ct1 S mX2_readInto [Aq 22, Aq 8] m2 (some (Iq v4)) m5 ∧ ((((v4 < 0) → (Q (some (Iq v4)) (mup m5 22 1 0))) ∧ (¬ (v4 < 0) → ((∃ (m9 : Zm), Ct1 S mX0_become [Aq 1, Aq 8] m5 none m9 ∧ (Q (some (Iq v4)) (mup m9 22 1 0))))))))))) :
    PW S mX3_text Q 0 [some (Aq 0), none] [] mem := by
  refine pw_aload_n eX3_text_0 rfl rfl ?_
  refine gf_RX3_16 rfl eX3_text_1 sh0 ?_
  refine pw_aload_n eX3_text_4 rfl rfl ?_
  refine gf_RX3_10 rfl eX3_text_5 sh0 ?_
  obtain ⟨m2, hc3, h⟩ := h
  refine pw_cV (z := mX0_become) (av := [Aq 1]) (st := []) eX3_text_8 lk_RX3_126 rfl (by decide) (by decide) (shR isR8) rfl rfl (Nat.le_of_ble_eq_true rfl) rfl hc3 ?_
  show PW S mX3_text Q 11 [some (Aq 0), none] [] m2
  refine pw_aload_n eX3_text_11 rfl rfl ?_
  refine gf_RX3_29 rfl eX3_text_12 sh0 ?_
  refine pw_aload_n eX3_text_15 rfl rfl ?_
  refine gf_RX3_16 rfl eX3_text_16 sh0 ?_
  obtain ⟨v4, m5, hc6, h⟩ := h
  refine pw_cV (z := mX2_readInto) (av := [Aq 8]) (st := []) eX3_text_19 lk_RX3_183 rfl (by decide) (by decide) sh22 rfl rfl (Nat.le_of_ble_eq_true rfl) rfl hc6 ?_
  show PW S mX3_text Q 22 [some (Aq 0), none] [Iq v4] m5
  refine pw_istore_n (ls2 := [some (Aq 0), some (Iq v4)]) eX3_text_22 rfl (by decide) rfl ?_
  refine pw_iload_n eX3_text_23 rfl rfl ?_
  refine pw_if_lt eX3_text_24 (fun c7 => ?_) (fun c7 => ?_)
  · have h := h.1 c7
    refine pw_aload_n eX3_text_38 rfl rfl ?_
    refine gf_RX3_29 rfl eX3_text_39 sh0 ?_
    refine pw_iconst eX3_text_42 ⟨by decide, by decide⟩ ?_
    refine pf_RX3_177 rfl eX3_text_43 sh22 ?_
    refine pw_iload_n eX3_text_46 rfl rfl ?_
    exact pw_iret eX3_text_47 h
  · have h := h.2 c7
    refine pw_aload_n eX3_text_27 rfl rfl ?_
    refine gf_RX3_10 rfl eX3_text_28 sh0 ?_
    refine pw_aload_n eX3_text_31 rfl rfl ?_
    refine gf_RX3_16 rfl eX3_text_32 sh0 ?_
    obtain ⟨m9, hc10, h⟩ := h
    refine pw_cV (z := mX0_become) (av := [Aq 8]) (st := []) eX3_text_35 lk_RX3_126 rfl (by decide) (by decide) (shR isR1) rfl rfl (Nat.le_of_ble_eq_true rfl) rfl hc10 ?_
    show PW S mX3_text Q 38 [some (Aq 0), some (Iq v4)] [] m9
    refine pw_aload_n eX3_text_38 rfl rfl ?_
    refine gf_RX3_29 rfl eX3_text_39 sh0 ?_
    refine pw_iconst eX3_text_42 ⟨by decide, by decide⟩ ?_
    refine pf_RX3_177 rfl eX3_text_43 sh22 ?_
    refine pw_iload_n eX3_text_46 rfl rfl ?_
    exact pw_iret eX3_text_47 h
set_option maxRecDepth 100000 in
theorem rg_X4_go_0 {S : Sx} {Q : Option PV → Zm → Prop} {mem : Zm}   {x1 : Int} 
    (h : (((1 ≤ x1 ∧ x1 ≤ 60) → ((in32 ((mem 35 1) + x1)) ∧ ((((mem 35 1) + x1 ≤ 99999) → ((∃ (m5 : Zm), Ct1 S mX4_goes [Aq 34, Iq x1] mem none m5 ∧ ((OKA (m5 35)) ∧ Q (some (Iq (sumA (m5 35) 3 (nA (m5 35))))) m5)))) ∧ (¬ ((mem 35 1) + x1 ≤ 99999) → ((fOK mem (-1000005)) ∧ Q (some (Iq (-1000005))) (fnds mem (-1000005))))))) ∧ (¬ (1 ≤ x1 ∧ x1 ≤ 60) → ((fOK mem (-1000001)) ∧ Q (some (Iq (-1000001))) (fnds mem (-1000001)))))) :
    PW S mX4_go Q 0 [some (Aq 34), some (Iq x1)] [] mem := by
  refine pw_iload_n eX4_go_0 rfl rfl ?_
  refine pw_i2l eX4_go_1 ?_
  refine pw_lconst (v := 1) eX4_go_2 ⟨by decide, by decide⟩ rfl ?_
  refine pw_ldc2 (n := 60) eX4_go_3 ⟨by decide, by decide⟩ kc_RX4_127 ?_
  refine pw_cS (z := mX4_isIn) (av := [Jq x1, Jq 1, Jq 60]) (st := []) eX4_go_6 lk_RX4_49 rfl (by decide) (by decide) (Nat.le_of_ble_eq_true rfl) rfl (ct_X4_isIn (mem := mem)) ?_
  show PW S mX4_go Q 9 [some (Aq 34), some (Iq x1)] [Iq (bI (1 ≤ x1 ∧ x1 ≤ 60))] mem
  refine pw_if_ne eX4_go_9 (fun c1 => ?_) (fun c1 => ?_)
  · have h := h.1 (bI1.mp c1)
    refine pw_aload_n eX4_go_19 rfl rfl ?_
    refine gf_RX4_7 rfl eX4_go_20 sh34 ?_
    refine pw_iconst eX4_go_23 ⟨by decide, by decide⟩ ?_
    refine pw_iald eX4_go_24 sh35 (by decide) ?_
    refine pw_iload_n eX4_go_25 rfl rfl ?_
    obtain ⟨ob2, h⟩ := h
    refine pw_iadd eX4_go_26 ob2 ?_
    refine pw_ldc (n := 99999) eX4_go_27 ⟨by decide, by decide⟩ kc_RX4_129 ?_
    refine pw_icmp_le eX4_go_29 (fun c3 => ?_) (fun c3 => ?_)
    · have h := h.1 c3
      refine pw_aload_n eX4_go_39 rfl rfl ?_
      refine pw_iload_n eX4_go_40 rfl rfl ?_
      obtain ⟨m5, hc6, h⟩ := h
      refine pw_cV (z := mX4_goes) (av := [Iq x1]) (st := []) eX4_go_41 lk_RX4_131 rfl (by decide) (by decide) sh34 rfl rfl (Nat.le_of_ble_eq_true rfl) rfl hc6 ?_
      show PW S mX4_go Q 44 [some (Aq 34), some (Iq x1)] [] m5
      refine pw_aload_n eX4_go_44 rfl rfl ?_
      refine pw_iconst eX4_go_45 ⟨by decide, by decide⟩ ?_
      obtain ⟨ob7, h⟩ := h
      refine pw_cV (z := mX4_sumOf) (av := [Iq 3]) (st := []) eX4_go_46 lk_RX4_134 rfl (by decide) (by decide) sh34 rfl rfl (Nat.le_of_ble_eq_true rfl) rfl (ct_X4_sumOf (mem := m5) ⟨ob7, by decide, by decide⟩) ?_
      show PW S mX4_go Q 49 [some (Aq 34), some (Iq x1)] [Iq (sumA (m5 35) 3 (nA (m5 35)))] m5
      exact pw_iret eX4_go_49 h
    · have h := h.2 c3
      refine pw_aload_n eX4_go_32 rfl rfl ?_
      refine pw_ldc (n := (-1000005)) eX4_go_33 ⟨by decide, by decide⟩ kc_RX4_130 ?_
      obtain ⟨ob8, h⟩ := h
      refine pw_cV (z := mX4_finds) (av := [Iq (-1000005)]) (st := []) eX4_go_35 lk_RX4_39 rfl (by decide) (by decide) sh34 rfl rfl (Nat.le_of_ble_eq_true rfl) rfl (ct_X4_finds' (mem := mem) ob8) ?_
      show PW S mX4_go Q 38 [some (Aq 34), some (Iq x1)] [Iq (-1000005)] (fnds mem (-1000005))
      exact pw_iret eX4_go_38 h
  · have h := h.2 (bI0.mp (Classical.not_not.mp c1))
    refine pw_aload_n eX4_go_12 rfl rfl ?_
    refine pw_ldc (n := (-1000001)) eX4_go_13 ⟨by decide, by decide⟩ kc_RX4_37 ?_
    obtain ⟨ob9, h⟩ := h
    refine pw_cV (z := mX4_finds) (av := [Iq (-1000001)]) (st := []) eX4_go_15 lk_RX4_39 rfl (by decide) (by decide) sh34 rfl rfl (Nat.le_of_ble_eq_true rfl) rfl (ct_X4_finds' (mem := mem) ob9) ?_
    show PW S mX4_go Q 18 [some (Aq 34), some (Iq x1)] [Iq (-1000001)] (fnds mem (-1000001))
    exact pw_iret eX4_go_18 h
set_option maxRecDepth 100000 in
theorem rg_X4_thenAt_0 {S : Sx} {Q : Option PV → Zm → Prop} {mem : Zm}   {x1 x2 : Int} 
    (h : (∃ (m2 : Zm), Ct1 S mX4_goes [Aq 34, Iq x2] (cprow mem 35 38) none m2 ∧ ((0 ≤ x1 ∧ x1 < 134) ∧ Q (some (Iq (m2 35 (x1).toNat))) (cprow m2 38 35)))) :
    PW S mX4_thenAt Q 0 [some (Aq 34), some (Iq x1), some (Iq x2), none] [] mem := by
  refine pw_aload_n eX4_thenAt_0 rfl rfl ?_
  refine gf_RX4_7 rfl eX4_thenAt_1 sh34 ?_
  refine pw_aload_n eX4_thenAt_4 rfl rfl ?_
  refine gf_RX4_19 rfl eX4_thenAt_5 sh34 ?_
  refine pw_cS (z := mX4_copyRow) (av := [Aq 35, Aq 38]) (st := []) eX4_thenAt_8 lk_RX4_150 rfl (by decide) (by decide) (Nat.le_of_ble_eq_true rfl) rfl (ct_X4_copyRow (mem := mem) sh35 sh38 (by decide)) ?_
  show PW S mX4_thenAt Q 11 [some (Aq 34), some (Iq x1), some (Iq x2), none] [] (cprow mem 35 38)
  refine pw_aload_n eX4_thenAt_11 rfl rfl ?_
  refine pw_iload_n eX4_thenAt_12 rfl rfl ?_
  obtain ⟨m2, hc3, h⟩ := h
  refine pw_cV (z := mX4_goes) (av := [Iq x2]) (st := []) eX4_thenAt_13 lk_RX4_131 rfl (by decide) (by decide) sh34 rfl rfl (Nat.le_of_ble_eq_true rfl) rfl hc3 ?_
  show PW S mX4_thenAt Q 16 [some (Aq 34), some (Iq x1), some (Iq x2), none] [] m2
  refine pw_aload_n eX4_thenAt_16 rfl rfl ?_
  refine gf_RX4_7 rfl eX4_thenAt_17 sh34 ?_
  refine pw_iload_n eX4_thenAt_20 rfl rfl ?_
  obtain ⟨ob4, h⟩ := h
  refine pw_iald eX4_thenAt_21 sh35 ob4 ?_
  refine pw_istore_n (ls2 := [some (Aq 34), some (Iq x1), some (Iq x2), some (Iq (m2 35 (x1).toNat))]) eX4_thenAt_22 rfl (by decide) rfl ?_
  refine pw_aload_n eX4_thenAt_23 rfl rfl ?_
  refine gf_RX4_19 rfl eX4_thenAt_24 sh34 ?_
  refine pw_aload_n eX4_thenAt_27 rfl rfl ?_
  refine gf_RX4_7 rfl eX4_thenAt_28 sh34 ?_
  refine pw_cS (z := mX4_copyRow) (av := [Aq 38, Aq 35]) (st := []) eX4_thenAt_31 lk_RX4_150 rfl (by decide) (by decide) (Nat.le_of_ble_eq_true rfl) rfl (ct_X4_copyRow (mem := m2) sh38 sh35 (by decide)) ?_
  show PW S mX4_thenAt Q 34 [some (Aq 34), some (Iq x1), some (Iq x2), some (Iq (m2 35 (x1).toNat))] [] (cprow m2 38 35)
  refine pw_iload_n eX4_thenAt_34 rfl rfl ?_
  exact pw_iret eX4_thenAt_35 h
set_option maxRecDepth 100000 in
theorem rg_X4_caughtThen_0 {S : Sx} {Q : Option PV → Zm → Prop} {mem : Zm}   {x1 : Int} 
    (h : (∃ (m2 : Zm), Ct1 S mX4_goes [Aq 34, Iq x1] mem none m2 ∧ ((OKA (m2 35)) ∧ Q (some (Iq (sumA (m2 35) 5 (nA (m2 35))))) m2))) :
    PW S mX4_caughtThen Q 0 [some (Aq 34), some (Iq x1)] [] mem := by
  refine pw_aload_n eX4_caughtThen_0 rfl rfl ?_
  refine pw_iload_n eX4_caughtThen_1 rfl rfl ?_
  obtain ⟨m2, hc3, h⟩ := h
  refine pw_cV (z := mX4_goes) (av := [Iq x1]) (st := []) eX4_caughtThen_2 lk_RX4_131 rfl (by decide) (by decide) sh34 rfl rfl (Nat.le_of_ble_eq_true rfl) rfl hc3 ?_
  show PW S mX4_caughtThen Q 5 [some (Aq 34), some (Iq x1)] [] m2
  refine pw_aload_n eX4_caughtThen_5 rfl rfl ?_
  refine pw_iconst eX4_caughtThen_6 ⟨by decide, by decide⟩ ?_
  obtain ⟨ob4, h⟩ := h
  refine pw_cV (z := mX4_sumOf) (av := [Iq 5]) (st := []) eX4_caughtThen_7 lk_RX4_134 rfl (by decide) (by decide) sh34 rfl rfl (Nat.le_of_ble_eq_true rfl) rfl (ct_X4_sumOf (mem := m2) ⟨ob4, by decide, by decide⟩) ?_
  show PW S mX4_caughtThen Q 10 [some (Aq 34), some (Iq x1)] [Iq (sumA (m2 35) 5 (nA (m2 35)))] m2
  exact pw_iret eX4_caughtThen_10 h
set_option maxRecDepth 100000 in
theorem rg_X4_sources_0 {S : Sx} {Q : Option PV → Zm → Prop} {mem : Zm}   {x1 x2 : Int} 
    (h : (∃ (v1 : Int) (m2 : Zm), Ct1 S mX4_wantsFor [Aq 34, Iq x1, Iq x2] mem (some (Iq v1)) m2 ∧ ((((v1 = 0) → ((0 ≤ x2 ∧ x2 < 8) ∧ PW S mX4_sources Q 31 [some (Aq 34), some (Iq x1), some (Iq x2), some (Iq v1), some (Iq (m2 35 (12 + 14 * (x2).toNat + 2))), some (Iq 0), some (Iq 0)] [] m2)) ∧ (¬ (v1 = 0) → ((fOK m2 v1) ∧ Q (some (Iq v1)) (fnds m2 v1))))))) :
    PW S mX4_sources Q 0 [some (Aq 34), some (Iq x1), some (Iq x2), none, none, none, none] [] mem := by
  refine pw_aload_n eX4_sources_0 rfl rfl ?_
  refine pw_iload_n eX4_sources_1 rfl rfl ?_
  refine pw_iload_n eX4_sources_2 rfl rfl ?_
  obtain ⟨v1, m2, hc3, h⟩ := h
  refine pw_cV (z := mX4_wantsFor) (av := [Iq x1, Iq x2]) (st := []) eX4_sources_3 lk_RX4_178 rfl (by decide) (by decide) sh34 rfl rfl (Nat.le_of_ble_eq_true rfl) rfl hc3 ?_
  show PW S mX4_sources Q 6 [some (Aq 34), some (Iq x1), some (Iq x2), none, none, none, none] [Iq v1] m2
  refine pw_istore_n (ls2 := [some (Aq 34), some (Iq x1), some (Iq x2), some (Iq v1), none, none, none]) eX4_sources_6 rfl (by decide) rfl ?_
  refine pw_iload_n eX4_sources_7 rfl rfl ?_
  refine pw_if_eq eX4_sources_8 (fun c4 => ?_) (fun c4 => ?_)
  · have h := h.1 c4
    refine pw_aload_n eX4_sources_17 rfl rfl ?_
    refine pw_iload_n eX4_sources_18 rfl rfl ?_
    refine pw_iconst eX4_sources_19 ⟨by decide, by decide⟩ ?_
    obtain ⟨ob5, h⟩ := h
    refine pw_cV (z := mX4_its) (av := [Iq x2, Iq 2]) (st := []) eX4_sources_20 lk_RX4_71 rfl (by decide) (by decide) sh34 rfl rfl (Nat.le_of_ble_eq_true rfl) rfl (ct_X4_its (mem := m2) ⟨ob5.1, ob5.2, by decide, by decide⟩) ?_
    show PW S mX4_sources Q 23 [some (Aq 34), some (Iq x1), some (Iq x2), some (Iq v1), none, none, none] [Iq (m2 35 (12 + 14 * (x2).toNat + 2))] m2
    refine pw_istore (ls2 := [some (Aq 34), some (Iq x1), some (Iq x2), some (Iq v1), some (Iq (m2 35 (12 + 14 * (x2).toNat + 2))), none, none]) eX4_sources_23 (by decide) rfl ?_
    refine pw_iconst eX4_sources_25 ⟨by decide, by decide⟩ ?_
    refine pw_istore (ls2 := [some (Aq 34), some (Iq x1), some (Iq x2), some (Iq v1), some (Iq (m2 35 (12 + 14 * (x2).toNat + 2))), some (Iq 0), none]) eX4_sources_26 (by decide) rfl ?_
    refine pw_iconst eX4_sources_28 ⟨by decide, by decide⟩ ?_
    refine pw_istore (ls2 := [some (Aq 34), some (Iq x1), some (Iq x2), some (Iq v1), some (Iq (m2 35 (12 + 14 * (x2).toNat + 2))), some (Iq 0), some (Iq 0)]) eX4_sources_29 (by decide) rfl ?_
    exact h
  · have h := h.2 c4
    refine pw_aload_n eX4_sources_11 rfl rfl ?_
    refine pw_iload_n eX4_sources_12 rfl rfl ?_
    obtain ⟨ob6, h⟩ := h
    refine pw_cV (z := mX4_finds) (av := [Iq v1]) (st := []) eX4_sources_13 lk_RX4_39 rfl (by decide) (by decide) sh34 rfl rfl (Nat.le_of_ble_eq_true rfl) rfl (ct_X4_finds' (mem := m2) ob6) ?_
    show PW S mX4_sources Q 16 [some (Aq 34), some (Iq x1), some (Iq x2), some (Iq v1), none, none, none] [Iq v1] (fnds m2 v1)
    exact pw_iret eX4_sources_16 h

set_option maxRecDepth 100000 in
theorem rg_X4_sources_31 {S : Sx} {Q : Option PV → Zm → Prop} {mem : Zm}   {x1 x2 x3 x4 x5 x6 : Int} 
    (h : (((mem 35 0 ≤ x6) → ((0 ≤ x2 ∧ x2 < 8) ∧ (0 ≤ 12 + 14 * x2 + 2 ∧ 12 + 14 * x2 + 2 < 134) ∧ Q (some (Iq x5)) (mup mem 35 (12 + 14 * x2 + 2).toNat x4))) ∧ (¬ (mem 35 0 ≤ x6) → ((((x6 = x2) → ((in32 (x6 + 1)) ∧ PW S mX4_sources Q 31 [some (Aq 34), some (Iq x1), some (Iq x2), some (Iq x3), some (Iq x4), some (Iq x5), some (Iq (x6 + 1))] [] mem)) ∧ (¬ (x6 = x2) → ((0 ≤ x2 ∧ x2 < 8) ∧ (0 ≤ 12 + 14 * x2 + 2 ∧ 12 + 14 * x2 + 2 < 134) ∧ (∃ (v8 : Int) (m9 : Zm), Ct1 S mX4_isTold [Aq 34, Iq x1, Iq x2] (mup mem 35 (12 + 14 * x2 + 2).toNat x6) (some (Iq v8)) m9 ∧ ((((v8 = 0) → ((in32 (x6 + 1)) ∧ PW S mX4_sources Q 31 [some (Aq 34), some (Iq x1), some (Iq x2), some (Iq x3), some (Iq x4), some (Iq (bOr x5 0)), some (Iq (x6 + 1))] [] m9)) ∧ (¬ (v8 = 0) → ((in32 (x6 + 1)) ∧ PW S mX4_sources Q 31 [some (Aq 34), some (Iq x1), some (Iq x2), some (Iq x3), some (Iq x4), some (Iq (bOr x5 (bShl 1 x6))), some (Iq (x6 + 1))] [] m9)))))))))))) :
    PW S mX4_sources Q 31 [some (Aq 34), some (Iq x1), some (Iq x2), some (Iq x3), some (Iq x4), some (Iq x5), some (Iq x6)] [] mem := by
  refine pw_iload eX4_sources_31 rfl ?_
  refine pw_aload_n eX4_sources_33 rfl rfl ?_
  refine gf_RX4_7 rfl eX4_sources_34 sh34 ?_
  refine pw_iconst eX4_sources_37 ⟨by decide, by decide⟩ ?_
  refine pw_iald eX4_sources_38 sh35 (by decide) ?_
  refine pw_icmp_ge eX4_sources_39 (fun c1 => ?_) (fun c1 => ?_)
  · have h := h.1 c1
    refine pw_aload_n eX4_sources_88 rfl rfl ?_
    refine gf_RX4_7 rfl eX4_sources_89 sh34 ?_
    refine pw_iload_n eX4_sources_92 rfl rfl ?_
    refine pw_iconst eX4_sources_93 ⟨by decide, by decide⟩ ?_
    obtain ⟨ob2, h⟩ := h
    refine pw_cS (z := mX4_at) (av := [Iq x2, Iq 2]) (st := [Aq 35]) eX4_sources_94 lk_RX4_59 rfl (by decide) (by decide) (Nat.le_of_ble_eq_true rfl) rfl (ct_X4_at (mem := mem) ⟨ob2.1, ob2.2, by decide, by decide⟩) ?_
    show PW S mX4_sources Q 97 [some (Aq 34), some (Iq x1), some (Iq x2), some (Iq x3), some (Iq x4), some (Iq x5), some (Iq x6)] [Iq (12 + 14 * x2 + 2), Aq 35] mem
    refine pw_iload eX4_sources_97 rfl ?_
    obtain ⟨ob3, h⟩ := h
    refine pw_iast eX4_sources_99 sh35 ob3 ?_
    refine pw_iload eX4_sources_100 rfl ?_
    exact pw_iret eX4_sources_102 h
  · have h := h.2 c1
    refine pw_iload eX4_sources_42 rfl ?_
    refine pw_iload_n eX4_sources_44 rfl rfl ?_
    refine pw_icmp_eq eX4_sources_45 (fun c4 => ?_) (fun c4 => ?_)
    · have h := h.1 c4
      obtain ⟨ob5, h⟩ := h
      refine pw_iinc (ls2 := [some (Aq 34), some (Iq x1), some (Iq x2), some (Iq x3), some (Iq x4), some (Iq x5), some (Iq (x6 + 1))]) eX4_sources_82 rfl ob5 rfl ?_
      refine pw_goto eX4_sources_85 ?_
      exact h
    · have h := h.2 c4
      refine pw_aload_n eX4_sources_48 rfl rfl ?_
      refine gf_RX4_7 rfl eX4_sources_49 sh34 ?_
      refine pw_iload_n eX4_sources_52 rfl rfl ?_
      refine pw_iconst eX4_sources_53 ⟨by decide, by decide⟩ ?_
      obtain ⟨ob6, h⟩ := h
      refine pw_cS (z := mX4_at) (av := [Iq x2, Iq 2]) (st := [Aq 35]) eX4_sources_54 lk_RX4_59 rfl (by decide) (by decide) (Nat.le_of_ble_eq_true rfl) rfl (ct_X4_at (mem := mem) ⟨ob6.1, ob6.2, by decide, by decide⟩) ?_
      show PW S mX4_sources Q 57 [some (Aq 34), some (Iq x1), some (Iq x2), some (Iq x3), some (Iq x4), some (Iq x5), some (Iq x6)] [Iq (12 + 14 * x2 + 2), Aq 35] mem
      refine pw_iload eX4_sources_57 rfl ?_
      obtain ⟨ob7, h⟩ := h
      refine pw_iast eX4_sources_59 sh35 ob7 ?_
      refine pw_iload eX4_sources_60 rfl ?_
      refine pw_aload_n eX4_sources_62 rfl rfl ?_
      refine pw_iload_n eX4_sources_63 rfl rfl ?_
      refine pw_iload_n eX4_sources_64 rfl rfl ?_
      obtain ⟨v8, m9, hc10, h⟩ := h
      refine pw_cV (z := mX4_isTold) (av := [Iq x1, Iq x2]) (st := [Iq x5]) eX4_sources_65 lk_RX4_181 rfl (by decide) (by decide) sh34 rfl rfl (Nat.le_of_ble_eq_true rfl) rfl hc10 ?_
      show PW S mX4_sources Q 68 [some (Aq 34), some (Iq x1), some (Iq x2), some (Iq x3), some (Iq x4), some (Iq x5), some (Iq x6)] [Iq v8, Iq x5] m9
      refine pw_if_eq eX4_sources_68 (fun c11 => ?_) (fun c11 => ?_)
      · have h := h.1 c11
        refine pw_iconst eX4_sources_78 ⟨by decide, by decide⟩ ?_
        refine pw_ior eX4_sources_79 ?_
        refine pw_istore (ls2 := [some (Aq 34), some (Iq x1), some (Iq x2), some (Iq x3), some (Iq x4), some (Iq (bOr x5 0)), some (Iq x6)]) eX4_sources_80 (by decide) rfl ?_
        obtain ⟨ob12, h⟩ := h
        refine pw_iinc (ls2 := [some (Aq 34), some (Iq x1), some (Iq x2), some (Iq x3), some (Iq x4), some (Iq (bOr x5 0)), some (Iq (x6 + 1))]) eX4_sources_82 rfl ob12 rfl ?_
        refine pw_goto eX4_sources_85 ?_
        exact h
      · have h := h.2 c11
        refine pw_iconst eX4_sources_71 ⟨by decide, by decide⟩ ?_
        refine pw_iload eX4_sources_72 rfl ?_
        refine pw_ishl eX4_sources_74 ?_
        refine pw_goto eX4_sources_75 ?_
        refine pw_ior eX4_sources_79 ?_
        refine pw_istore (ls2 := [some (Aq 34), some (Iq x1), some (Iq x2), some (Iq x3), some (Iq x4), some (Iq (bOr x5 (bShl 1 x6))), some (Iq x6)]) eX4_sources_80 (by decide) rfl ?_
        obtain ⟨ob13, h⟩ := h
        refine pw_iinc (ls2 := [some (Aq 34), some (Iq x1), some (Iq x2), some (Iq x3), some (Iq x4), some (Iq (bOr x5 (bShl 1 x6))), some (Iq (x6 + 1))]) eX4_sources_82 rfl ob13 rfl ?_
        refine pw_goto eX4_sources_85 ?_
        exact h
set_option maxRecDepth 100000 in
theorem rg_X4_findsFits_0 {S : Sx} {Q : Option PV → Zm → Prop} {mem : Zm}   {x1 x2 : Int} 
    (h : (0 ≤ x2 ∧ x2 < 8) ∧ PW S mX4_findsFits Q 17 [some (Aq 34), some (Iq x1), some (Iq x2), some (Iq (mem 35 (12 + 14 * (x2).toNat + 1))), some (Iq 255)] [] (mup mem 34 11 0)) :
    PW S mX4_findsFits Q 0 [some (Aq 34), some (Iq x1), some (Iq x2), none, none] [] mem := by
  refine pw_aload_n eX4_findsFits_0 rfl rfl ?_
  refine pw_iload_n eX4_findsFits_1 rfl rfl ?_
  refine pw_iconst eX4_findsFits_2 ⟨by decide, by decide⟩ ?_
  obtain ⟨ob1, h⟩ := h
  refine pw_cV (z := mX4_its) (av := [Iq x2, Iq 1]) (st := []) eX4_findsFits_3 lk_RX4_71 rfl (by decide) (by decide) sh34 rfl rfl (Nat.le_of_ble_eq_true rfl) rfl (ct_X4_its (mem := mem) ⟨ob1.1, ob1.2, by decide, by decide⟩) ?_
  show PW S mX4_findsFits Q 6 [some (Aq 34), some (Iq x1), some (Iq x2), none, none] [Iq (mem 35 (12 + 14 * (x2).toNat + 1))] mem
  refine pw_istore_n (ls2 := [some (Aq 34), some (Iq x1), some (Iq x2), some (Iq (mem 35 (12 + 14 * (x2).toNat + 1))), none]) eX4_findsFits_6 rfl (by decide) rfl ?_
  refine pw_aload_n eX4_findsFits_7 rfl rfl ?_
  refine pw_iconst eX4_findsFits_8 ⟨by decide, by decide⟩ ?_
  refine pf_RX4_184 rfl eX4_findsFits_9 sh34 ?_
  refine pw_sipush eX4_findsFits_12 ⟨by decide, by decide⟩ (by decide) ?_
  refine pw_istore (ls2 := [some (Aq 34), some (Iq x1), some (Iq x2), some (Iq (mem 35 (12 + 14 * (x2).toNat + 1))), some (Iq 255)]) eX4_findsFits_15 (by decide) rfl ?_
  exact h

set_option maxRecDepth 100000 in
theorem rg_X4_findsFits_17 {S : Sx} {Q : Option PV → Zm → Prop} {mem : Zm}   {x1 x2 x3 x4 : Int} 
    (h : (((x4 < 0) → ((0 ≤ x2 ∧ x2 < 8) ∧ (0 ≤ 12 + 14 * x2 + 1 ∧ 12 + 14 * x2 + 1 < 134) ∧ Q none (mup mem 35 (12 + 14 * x2 + 1).toNat x3))) ∧ (¬ (x4 < 0) → ((0 ≤ x2 ∧ x2 < 8) ∧ (0 ≤ 12 + 14 * x2 + 1 ∧ 12 + 14 * x2 + 1 < 134) ∧ (∃ (v6 : Int) (m7 : Zm), Ct1 S mX4_isTold [Aq 34, Iq x1, Iq x2] (mup mem 35 (12 + 14 * x2 + 1).toNat x4) (some (Iq v6)) m7 ∧ ((((v6 = 0) → ((in32 (x4 + (-1))) ∧ PW S mX4_findsFits Q 17 [some (Aq 34), some (Iq x1), some (Iq x2), some (Iq x3), some (Iq (x4 + (-1)))] [] m7)) ∧ (¬ (v6 = 0) → ((in32 ((m7 34 11) + 1)) ∧ (in32 (x4 + (-1))) ∧ PW S mX4_findsFits Q 17 [some (Aq 34), some (Iq x1), some (Iq x2), some (Iq x3), some (Iq (x4 + (-1)))] [] (mup (mup m7 34 11 ((m7 34 11) + 1)) 34 12 x4)))))))))) :
    PW S mX4_findsFits Q 17 [some (Aq 34), some (Iq x1), some (Iq x2), some (Iq x3), some (Iq x4)] [] mem := by
  refine pw_iload eX4_findsFits_17 rfl ?_
  refine pw_if_lt eX4_findsFits_19 (fun c1 => ?_) (fun c1 => ?_)
  · have h := h.1 c1
    refine pw_aload_n eX4_findsFits_65 rfl rfl ?_
    refine gf_RX4_7 rfl eX4_findsFits_66 sh34 ?_
    refine pw_iload_n eX4_findsFits_69 rfl rfl ?_
    refine pw_iconst eX4_findsFits_70 ⟨by decide, by decide⟩ ?_
    obtain ⟨ob2, h⟩ := h
    refine pw_cS (z := mX4_at) (av := [Iq x2, Iq 1]) (st := [Aq 35]) eX4_findsFits_71 lk_RX4_59 rfl (by decide) (by decide) (Nat.le_of_ble_eq_true rfl) rfl (ct_X4_at (mem := mem) ⟨ob2.1, ob2.2, by decide, by decide⟩) ?_
    show PW S mX4_findsFits Q 74 [some (Aq 34), some (Iq x1), some (Iq x2), some (Iq x3), some (Iq x4)] [Iq (12 + 14 * x2 + 1), Aq 35] mem
    refine pw_iload_n eX4_findsFits_74 rfl rfl ?_
    obtain ⟨ob3, h⟩ := h
    refine pw_iast eX4_findsFits_75 sh35 ob3 ?_
    exact pw_vret eX4_findsFits_76 h
  · have h := h.2 c1
    refine pw_aload_n eX4_findsFits_22 rfl rfl ?_
    refine gf_RX4_7 rfl eX4_findsFits_23 sh34 ?_
    refine pw_iload_n eX4_findsFits_26 rfl rfl ?_
    refine pw_iconst eX4_findsFits_27 ⟨by decide, by decide⟩ ?_
    obtain ⟨ob4, h⟩ := h
    refine pw_cS (z := mX4_at) (av := [Iq x2, Iq 1]) (st := [Aq 35]) eX4_findsFits_28 lk_RX4_59 rfl (by decide) (by decide) (Nat.le_of_ble_eq_true rfl) rfl (ct_X4_at (mem := mem) ⟨ob4.1, ob4.2, by decide, by decide⟩) ?_
    show PW S mX4_findsFits Q 31 [some (Aq 34), some (Iq x1), some (Iq x2), some (Iq x3), some (Iq x4)] [Iq (12 + 14 * x2 + 1), Aq 35] mem
    refine pw_iload eX4_findsFits_31 rfl ?_
    obtain ⟨ob5, h⟩ := h
    refine pw_iast eX4_findsFits_33 sh35 ob5 ?_
    refine pw_aload_n eX4_findsFits_34 rfl rfl ?_
    refine pw_iload_n eX4_findsFits_35 rfl rfl ?_
    refine pw_iload_n eX4_findsFits_36 rfl rfl ?_
    obtain ⟨v6, m7, hc8, h⟩ := h
    refine pw_cV (z := mX4_isTold) (av := [Iq x1, Iq x2]) (st := []) eX4_findsFits_37 lk_RX4_181 rfl (by decide) (by decide) sh34 rfl rfl (Nat.le_of_ble_eq_true rfl) rfl hc8 ?_
    show PW S mX4_findsFits Q 40 [some (Aq 34), some (Iq x1), some (Iq x2), some (Iq x3), some (Iq x4)] [Iq v6] m7
    refine pw_if_eq eX4_findsFits_40 (fun c9 => ?_) (fun c9 => ?_)
    · have h := h.1 c9
      obtain ⟨ob10, h⟩ := h
      refine pw_iinc (ls2 := [some (Aq 34), some (Iq x1), some (Iq x2), some (Iq x3), some (Iq (x4 + (-1)))]) eX4_findsFits_59 rfl ob10 rfl ?_
      refine pw_goto eX4_findsFits_62 ?_
      exact h
    · have h := h.2 c9
      refine pw_aload_n eX4_findsFits_43 rfl rfl ?_
      refine pw_dup eX4_findsFits_44 rfl ?_
      refine gf_RX4_184 rfl eX4_findsFits_45 sh34 ?_
      refine pw_iconst eX4_findsFits_48 ⟨by decide, by decide⟩ ?_
      obtain ⟨ob11, h⟩ := h
      refine pw_iadd eX4_findsFits_49 ob11 ?_
      refine pf_RX4_184 rfl eX4_findsFits_50 sh34 ?_
      refine pw_aload_n eX4_findsFits_53 rfl rfl ?_
      refine pw_iload eX4_findsFits_54 rfl ?_
      refine pf_RX4_188 rfl eX4_findsFits_56 sh34 ?_
      obtain ⟨ob12, h⟩ := h
      refine pw_iinc (ls2 := [some (Aq 34), some (Iq x1), some (Iq x2), some (Iq x3), some (Iq (x4 + (-1)))]) eX4_findsFits_59 rfl ob12 rfl ?_
      refine pw_goto eX4_findsFits_62 ?_
      exact h
set_option maxRecDepth 100000 in
theorem rg_X4_kinds_0 {S : Sx} {Q : Option PV → Zm → Prop} {mem : Zm}   {x1 x2 : Int} 
    (h : (∃ (v1 : Int) (m2 : Zm), Ct1 S mX4_wantsFor [Aq 34, Iq x1, Iq x2] mem (some (Iq v1)) m2 ∧ ((((v1 = 0) → ((0 ≤ x2 ∧ x2 < 8) ∧ PW S mX4_kinds Q 31 [some (Aq 34), some (Iq x1), some (Iq x2), some (Iq v1), some (Iq (m2 35 (12 + 14 * (x2).toNat))), some (Iq 0), some (Iq 0)] [] m2)) ∧ (¬ (v1 = 0) → ((fOK m2 v1) ∧ Q (some (Iq v1)) (fnds m2 v1))))))) :
    PW S mX4_kinds Q 0 [some (Aq 34), some (Iq x1), some (Iq x2), none, none, none, none] [] mem := by
  refine pw_aload_n eX4_kinds_0 rfl rfl ?_
  refine pw_iload_n eX4_kinds_1 rfl rfl ?_
  refine pw_iload_n eX4_kinds_2 rfl rfl ?_
  obtain ⟨v1, m2, hc3, h⟩ := h
  refine pw_cV (z := mX4_wantsFor) (av := [Iq x1, Iq x2]) (st := []) eX4_kinds_3 lk_RX4_178 rfl (by decide) (by decide) sh34 rfl rfl (Nat.le_of_ble_eq_true rfl) rfl hc3 ?_
  show PW S mX4_kinds Q 6 [some (Aq 34), some (Iq x1), some (Iq x2), none, none, none, none] [Iq v1] m2
  refine pw_istore_n (ls2 := [some (Aq 34), some (Iq x1), some (Iq x2), some (Iq v1), none, none, none]) eX4_kinds_6 rfl (by decide) rfl ?_
  refine pw_iload_n eX4_kinds_7 rfl rfl ?_
  refine pw_if_eq eX4_kinds_8 (fun c4 => ?_) (fun c4 => ?_)
  · have h := h.1 c4
    refine pw_aload_n eX4_kinds_17 rfl rfl ?_
    refine pw_iload_n eX4_kinds_18 rfl rfl ?_
    refine pw_iconst eX4_kinds_19 ⟨by decide, by decide⟩ ?_
    obtain ⟨ob5, h⟩ := h
    refine pw_cV (z := mX4_its) (av := [Iq x2, Iq 0]) (st := []) eX4_kinds_20 lk_RX4_71 rfl (by decide) (by decide) sh34 rfl rfl (Nat.le_of_ble_eq_true rfl) rfl (ct_X4_its (mem := m2) ⟨ob5.1, ob5.2, by decide, by decide⟩) ?_
    show PW S mX4_kinds Q 23 [some (Aq 34), some (Iq x1), some (Iq x2), some (Iq v1), none, none, none] [Iq (m2 35 (12 + 14 * (x2).toNat))] m2
    refine pw_istore (ls2 := [some (Aq 34), some (Iq x1), some (Iq x2), some (Iq v1), some (Iq (m2 35 (12 + 14 * (x2).toNat))), none, none]) eX4_kinds_23 (by decide) rfl ?_
    refine pw_iconst eX4_kinds_25 ⟨by decide, by decide⟩ ?_
    refine pw_istore (ls2 := [some (Aq 34), some (Iq x1), some (Iq x2), some (Iq v1), some (Iq (m2 35 (12 + 14 * (x2).toNat))), some (Iq 0), none]) eX4_kinds_26 (by decide) rfl ?_
    refine pw_iconst eX4_kinds_28 ⟨by decide, by decide⟩ ?_
    refine pw_istore (ls2 := [some (Aq 34), some (Iq x1), some (Iq x2), some (Iq v1), some (Iq (m2 35 (12 + 14 * (x2).toNat))), some (Iq 0), some (Iq 0)]) eX4_kinds_29 (by decide) rfl ?_
    exact h
  · have h := h.2 c4
    refine pw_aload_n eX4_kinds_11 rfl rfl ?_
    refine pw_iload_n eX4_kinds_12 rfl rfl ?_
    obtain ⟨ob6, h⟩ := h
    refine pw_cV (z := mX4_finds) (av := [Iq v1]) (st := []) eX4_kinds_13 lk_RX4_39 rfl (by decide) (by decide) sh34 rfl rfl (Nat.le_of_ble_eq_true rfl) rfl (ct_X4_finds' (mem := m2) ob6) ?_
    show PW S mX4_kinds Q 16 [some (Aq 34), some (Iq x1), some (Iq x2), some (Iq v1), none, none, none] [Iq v1] (fnds m2 v1)
    exact pw_iret eX4_kinds_16 h

set_option maxRecDepth 100000 in
theorem rg_X4_kinds_31 {S : Sx} {Q : Option PV → Zm → Prop} {mem : Zm}   {x1 x2 x3 x4 x5 x6 : Int} 
    (h : (((6 < x6) → ((0 ≤ x2 ∧ x2 < 8) ∧ (0 ≤ 12 + 14 * x2 + 0 ∧ 12 + 14 * x2 + 0 < 134) ∧ Q (some (Iq x5)) (mup mem 35 (12 + 14 * x2 + 0).toNat x4))) ∧ (¬ (6 < x6) → ((0 ≤ x2 ∧ x2 < 8) ∧ (0 ≤ 12 + 14 * x2 + 0 ∧ 12 + 14 * x2 + 0 < 134) ∧ (∃ (v6 : Int) (m7 : Zm), Ct1 S mX4_isTold [Aq 34, Iq x1, Iq x2] (mup mem 35 (12 + 14 * x2 + 0).toNat x6) (some (Iq v6)) m7 ∧ ((((v6 = 0) → ((in32 (x6 + 1)) ∧ PW S mX4_kinds Q 31 [some (Aq 34), some (Iq x1), some (Iq x2), some (Iq x3), some (Iq x4), some (Iq (bOr x5 0)), some (Iq (x6 + 1))] [] m7)) ∧ (¬ (v6 = 0) → ((in32 (x6 + 1)) ∧ PW S mX4_kinds Q 31 [some (Aq 34), some (Iq x1), some (Iq x2), some (Iq x3), some (Iq x4), some (Iq (bOr x5 (bShl 1 x6))), some (Iq (x6 + 1))] [] m7))))))))) :
    PW S mX4_kinds Q 31 [some (Aq 34), some (Iq x1), some (Iq x2), some (Iq x3), some (Iq x4), some (Iq x5), some (Iq x6)] [] mem := by
  refine pw_iload eX4_kinds_31 rfl ?_
  refine pw_bipush eX4_kinds_33 ⟨by decide, by decide⟩ (by decide) ?_
  refine pw_icmp_gt eX4_kinds_35 (fun c1 => ?_) (fun c1 => ?_)
  · have h := h.1 c1
    refine pw_aload_n eX4_kinds_78 rfl rfl ?_
    refine gf_RX4_7 rfl eX4_kinds_79 sh34 ?_
    refine pw_iload_n eX4_kinds_82 rfl rfl ?_
    refine pw_iconst eX4_kinds_83 ⟨by decide, by decide⟩ ?_
    obtain ⟨ob2, h⟩ := h
    refine pw_cS (z := mX4_at) (av := [Iq x2, Iq 0]) (st := [Aq 35]) eX4_kinds_84 lk_RX4_59 rfl (by decide) (by decide) (Nat.le_of_ble_eq_true rfl) rfl (ct_X4_at (mem := mem) ⟨ob2.1, ob2.2, by decide, by decide⟩) ?_
    show PW S mX4_kinds Q 87 [some (Aq 34), some (Iq x1), some (Iq x2), some (Iq x3), some (Iq x4), some (Iq x5), some (Iq x6)] [Iq (12 + 14 * x2 + 0), Aq 35] mem
    refine pw_iload eX4_kinds_87 rfl ?_
    obtain ⟨ob3, h⟩ := h
    refine pw_iast eX4_kinds_89 sh35 ob3 ?_
    refine pw_iload eX4_kinds_90 rfl ?_
    exact pw_iret eX4_kinds_92 h
  · have h := h.2 c1
    refine pw_aload_n eX4_kinds_38 rfl rfl ?_
    refine gf_RX4_7 rfl eX4_kinds_39 sh34 ?_
    refine pw_iload_n eX4_kinds_42 rfl rfl ?_
    refine pw_iconst eX4_kinds_43 ⟨by decide, by decide⟩ ?_
    obtain ⟨ob4, h⟩ := h
    refine pw_cS (z := mX4_at) (av := [Iq x2, Iq 0]) (st := [Aq 35]) eX4_kinds_44 lk_RX4_59 rfl (by decide) (by decide) (Nat.le_of_ble_eq_true rfl) rfl (ct_X4_at (mem := mem) ⟨ob4.1, ob4.2, by decide, by decide⟩) ?_
    show PW S mX4_kinds Q 47 [some (Aq 34), some (Iq x1), some (Iq x2), some (Iq x3), some (Iq x4), some (Iq x5), some (Iq x6)] [Iq (12 + 14 * x2 + 0), Aq 35] mem
    refine pw_iload eX4_kinds_47 rfl ?_
    obtain ⟨ob5, h⟩ := h
    refine pw_iast eX4_kinds_49 sh35 ob5 ?_
    refine pw_iload eX4_kinds_50 rfl ?_
    refine pw_aload_n eX4_kinds_52 rfl rfl ?_
    refine pw_iload_n eX4_kinds_53 rfl rfl ?_
    refine pw_iload_n eX4_kinds_54 rfl rfl ?_
    obtain ⟨v6, m7, hc8, h⟩ := h
    refine pw_cV (z := mX4_isTold) (av := [Iq x1, Iq x2]) (st := [Iq x5]) eX4_kinds_55 lk_RX4_181 rfl (by decide) (by decide) sh34 rfl rfl (Nat.le_of_ble_eq_true rfl) rfl hc8 ?_
    show PW S mX4_kinds Q 58 [some (Aq 34), some (Iq x1), some (Iq x2), some (Iq x3), some (Iq x4), some (Iq x5), some (Iq x6)] [Iq v6, Iq x5] m7
    refine pw_if_eq eX4_kinds_58 (fun c9 => ?_) (fun c9 => ?_)
    · have h := h.1 c9
      refine pw_iconst eX4_kinds_68 ⟨by decide, by decide⟩ ?_
      refine pw_ior eX4_kinds_69 ?_
      refine pw_istore (ls2 := [some (Aq 34), some (Iq x1), some (Iq x2), some (Iq x3), some (Iq x4), some (Iq (bOr x5 0)), some (Iq x6)]) eX4_kinds_70 (by decide) rfl ?_
      obtain ⟨ob10, h⟩ := h
      refine pw_iinc (ls2 := [some (Aq 34), some (Iq x1), some (Iq x2), some (Iq x3), some (Iq x4), some (Iq (bOr x5 0)), some (Iq (x6 + 1))]) eX4_kinds_72 rfl ob10 rfl ?_
      refine pw_goto eX4_kinds_75 ?_
      exact h
    · have h := h.2 c9
      refine pw_iconst eX4_kinds_61 ⟨by decide, by decide⟩ ?_
      refine pw_iload eX4_kinds_62 rfl ?_
      refine pw_ishl eX4_kinds_64 ?_
      refine pw_goto eX4_kinds_65 ?_
      refine pw_ior eX4_kinds_69 ?_
      refine pw_istore (ls2 := [some (Aq 34), some (Iq x1), some (Iq x2), some (Iq x3), some (Iq x4), some (Iq (bOr x5 (bShl 1 x6))), some (Iq x6)]) eX4_kinds_70 (by decide) rfl ?_
      obtain ⟨ob11, h⟩ := h
      refine pw_iinc (ls2 := [some (Aq 34), some (Iq x1), some (Iq x2), some (Iq x3), some (Iq x4), some (Iq (bOr x5 (bShl 1 x6))), some (Iq (x6 + 1))]) eX4_kinds_72 rfl ob11 rfl ?_
      refine pw_goto eX4_kinds_75 ?_
      exact h
set_option maxRecDepth 100000 in
theorem rg_X4_ahead_0 {S : Sx} {Q : Option PV → Zm → Prop} {mem : Zm}   {x1 x2 x3 : Int} 
    (h : (((0 ≤ x1 ∧ x1 < mem 35 0) → ((((x2 = 1) → ((((0 ≤ x3 ∧ x3 ≤ 60) → ((0 ≤ x1 ∧ x1 < 8 ∧ 0 ≤ x2 ∧ x2 < 14) ∧ (∃ (v10 : Int) (m11 : Zm), Ct1 S mX4_thenAt [Aq 34, Iq (12 + 14 * x1 + x2), Iq x3] mem (some (Iq v10)) m11 ∧ (Q (some (Iq v10)) m11)))) ∧ (¬ (0 ≤ x3 ∧ x3 ≤ 60) → ((fOK mem (-1000001)) ∧ Q (some (Iq (-1000001))) (fnds mem (-1000001))))))) ∧ (¬ (x2 = 1) → ((((3 ≤ x2 ∧ x2 ≤ 5) → ((((0 ≤ x3 ∧ x3 ≤ 60) → ((0 ≤ x1 ∧ x1 < 8 ∧ 0 ≤ x2 ∧ x2 < 14) ∧ (∃ (v21 : Int) (m22 : Zm), Ct1 S mX4_thenAt [Aq 34, Iq (12 + 14 * x1 + x2), Iq x3] mem (some (Iq v21)) m22 ∧ (Q (some (Iq v21)) m22)))) ∧ (¬ (0 ≤ x3 ∧ x3 ≤ 60) → ((fOK mem (-1000001)) ∧ Q (some (Iq (-1000001))) (fnds mem (-1000001))))))) ∧ (¬ (3 ≤ x2 ∧ x2 ≤ 5) → ((fOK mem (-1000001)) ∧ Q (some (Iq (-1000001))) (fnds mem (-1000001)))))))))) ∧ (¬ (0 ≤ x1 ∧ x1 < mem 35 0) → ((fOK mem (-1000001)) ∧ Q (some (Iq (-1000001))) (fnds mem (-1000001)))))) :
    PW S mX4_ahead Q 0 [some (Aq 34), some (Iq x1), some (Iq x2), some (Iq x3), none] [] mem := by
  refine pw_aload_n eX4_ahead_0 rfl rfl ?_
  refine pw_iload_n eX4_ahead_1 rfl rfl ?_
  refine pw_cV (z := mX4_isChild) (av := [Iq x1]) (st := []) eX4_ahead_2 lk_RX4_77 rfl (by decide) (by decide) sh34 rfl rfl (Nat.le_of_ble_eq_true rfl) rfl (ct_X4_isChild (mem := mem)) ?_
  show PW S mX4_ahead Q 5 [some (Aq 34), some (Iq x1), some (Iq x2), some (Iq x3), none] [Iq (bI (0 ≤ x1 ∧ x1 < mem 35 0))] mem
  refine pw_if_eq eX4_ahead_5 (fun c1 => ?_) (fun c1 => ?_)
  · have h := h.2 (bI0.mp c1)
    refine pw_iconst eX4_ahead_43 ⟨by decide, by decide⟩ ?_
    refine pw_istore (ls2 := [some (Aq 34), some (Iq x1), some (Iq x2), some (Iq x3), some (Iq 0)]) eX4_ahead_44 (by decide) rfl ?_
    refine pw_iload eX4_ahead_46 rfl ?_
    refine pw_if_eq eX4_ahead_48 (fun c2 => ?_) (fun c2 => ?_)
    · skip
      refine pw_aload_n eX4_ahead_64 rfl rfl ?_
      refine pw_ldc (n := (-1000001)) eX4_ahead_65 ⟨by decide, by decide⟩ kc_RX4_37 ?_
      obtain ⟨ob3, h⟩ := h
      refine pw_cV (z := mX4_finds) (av := [Iq (-1000001)]) (st := []) eX4_ahead_67 lk_RX4_39 rfl (by decide) (by decide) sh34 rfl rfl (Nat.le_of_ble_eq_true rfl) rfl (ct_X4_finds' (mem := mem) ob3) ?_
      show PW S mX4_ahead Q 70 [some (Aq 34), some (Iq x1), some (Iq x2), some (Iq x3), some (Iq 0)] [Iq (-1000001)] (fnds mem (-1000001))
      exact pw_iret eX4_ahead_70 h
    · exact absurd (by decide) c2
  · have h := h.1 (bI1.mp c1)
    refine pw_iload_n eX4_ahead_8 rfl rfl ?_
    refine pw_iconst eX4_ahead_9 ⟨by decide, by decide⟩ ?_
    refine pw_icmp_eq eX4_ahead_10 (fun c4 => ?_) (fun c4 => ?_)
    · have h := h.1 c4
      refine pw_iload_n eX4_ahead_27 rfl rfl ?_
      refine pw_i2l eX4_ahead_28 ?_
      refine pw_lconst (v := 0) eX4_ahead_29 ⟨by decide, by decide⟩ rfl ?_
      refine pw_ldc2 (n := 60) eX4_ahead_30 ⟨by decide, by decide⟩ kc_RX4_127 ?_
      refine pw_cS (z := mX4_isIn) (av := [Jq x3, Jq 0, Jq 60]) (st := []) eX4_ahead_33 lk_RX4_49 rfl (by decide) (by decide) (Nat.le_of_ble_eq_true rfl) rfl (ct_X4_isIn (mem := mem)) ?_
      show PW S mX4_ahead Q 36 [some (Aq 34), some (Iq x1), some (Iq x2), some (Iq x3), none] [Iq (bI (0 ≤ x3 ∧ x3 ≤ 60))] mem
      refine pw_if_eq eX4_ahead_36 (fun c5 => ?_) (fun c5 => ?_)
      · have h := h.2 (bI0.mp c5)
        refine pw_iconst eX4_ahead_43 ⟨by decide, by decide⟩ ?_
        refine pw_istore (ls2 := [some (Aq 34), some (Iq x1), some (Iq x2), some (Iq x3), some (Iq 0)]) eX4_ahead_44 (by decide) rfl ?_
        refine pw_iload eX4_ahead_46 rfl ?_
        refine pw_if_eq eX4_ahead_48 (fun c6 => ?_) (fun c6 => ?_)
        · skip
          refine pw_aload_n eX4_ahead_64 rfl rfl ?_
          refine pw_ldc (n := (-1000001)) eX4_ahead_65 ⟨by decide, by decide⟩ kc_RX4_37 ?_
          obtain ⟨ob7, h⟩ := h
          refine pw_cV (z := mX4_finds) (av := [Iq (-1000001)]) (st := []) eX4_ahead_67 lk_RX4_39 rfl (by decide) (by decide) sh34 rfl rfl (Nat.le_of_ble_eq_true rfl) rfl (ct_X4_finds' (mem := mem) ob7) ?_
          show PW S mX4_ahead Q 70 [some (Aq 34), some (Iq x1), some (Iq x2), some (Iq x3), some (Iq 0)] [Iq (-1000001)] (fnds mem (-1000001))
          exact pw_iret eX4_ahead_70 h
        · exact absurd (by decide) c6
      · have h := h.1 (bI1.mp c5)
        refine pw_iconst eX4_ahead_39 ⟨by decide, by decide⟩ ?_
        refine pw_goto eX4_ahead_40 ?_
        refine pw_istore (ls2 := [some (Aq 34), some (Iq x1), some (Iq x2), some (Iq x3), some (Iq 1)]) eX4_ahead_44 (by decide) rfl ?_
        refine pw_iload eX4_ahead_46 rfl ?_
        refine pw_if_eq eX4_ahead_48 (fun c8 => ?_) (fun c8 => ?_)
        · exact absurd c8 (by decide)
        · skip
          refine pw_aload_n eX4_ahead_51 rfl rfl ?_
          refine pw_iload_n eX4_ahead_52 rfl rfl ?_
          refine pw_iload_n eX4_ahead_53 rfl rfl ?_
          obtain ⟨ob9, h⟩ := h
          refine pw_cS (z := mX4_at) (av := [Iq x1, Iq x2]) (st := [Aq 34]) eX4_ahead_54 lk_RX4_59 rfl (by decide) (by decide) (Nat.le_of_ble_eq_true rfl) rfl (ct_X4_at (mem := mem) ob9) ?_
          show PW S mX4_ahead Q 57 [some (Aq 34), some (Iq x1), some (Iq x2), some (Iq x3), some (Iq 1)] [Iq (12 + 14 * x1 + x2), Aq 34] mem
          refine pw_iload_n eX4_ahead_57 rfl rfl ?_
          obtain ⟨v10, m11, hc12, h⟩ := h
          refine pw_cV (z := mX4_thenAt) (av := [Iq (12 + 14 * x1 + x2), Iq x3]) (st := []) eX4_ahead_58 lk_RX4_158 rfl (by decide) (by decide) sh34 rfl rfl (Nat.le_of_ble_eq_true rfl) rfl hc12 ?_
          show PW S mX4_ahead Q 61 [some (Aq 34), some (Iq x1), some (Iq x2), some (Iq x3), some (Iq 1)] [Iq v10] m11
          refine pw_goto eX4_ahead_61 ?_
          exact pw_iret eX4_ahead_70 h
    · have h := h.2 c4
      refine pw_iload_n eX4_ahead_13 rfl rfl ?_
      refine pw_i2l eX4_ahead_14 ?_
      refine pw_ldc2 (n := 3) eX4_ahead_15 ⟨by decide, by decide⟩ kc_RX4_154 ?_
      refine pw_ldc2 (n := 5) eX4_ahead_18 ⟨by decide, by decide⟩ kc_RX4_156 ?_
      refine pw_cS (z := mX4_isIn) (av := [Jq x2, Jq 3, Jq 5]) (st := []) eX4_ahead_21 lk_RX4_49 rfl (by decide) (by decide) (Nat.le_of_ble_eq_true rfl) rfl (ct_X4_isIn (mem := mem)) ?_
      show PW S mX4_ahead Q 24 [some (Aq 34), some (Iq x1), some (Iq x2), some (Iq x3), none] [Iq (bI (3 ≤ x2 ∧ x2 ≤ 5))] mem
      refine pw_if_eq eX4_ahead_24 (fun c13 => ?_) (fun c13 => ?_)
      · have h := h.2 (bI0.mp c13)
        refine pw_iconst eX4_ahead_43 ⟨by decide, by decide⟩ ?_
        refine pw_istore (ls2 := [some (Aq 34), some (Iq x1), some (Iq x2), some (Iq x3), some (Iq 0)]) eX4_ahead_44 (by decide) rfl ?_
        refine pw_iload eX4_ahead_46 rfl ?_
        refine pw_if_eq eX4_ahead_48 (fun c14 => ?_) (fun c14 => ?_)
        · skip
          refine pw_aload_n eX4_ahead_64 rfl rfl ?_
          refine pw_ldc (n := (-1000001)) eX4_ahead_65 ⟨by decide, by decide⟩ kc_RX4_37 ?_
          obtain ⟨ob15, h⟩ := h
          refine pw_cV (z := mX4_finds) (av := [Iq (-1000001)]) (st := []) eX4_ahead_67 lk_RX4_39 rfl (by decide) (by decide) sh34 rfl rfl (Nat.le_of_ble_eq_true rfl) rfl (ct_X4_finds' (mem := mem) ob15) ?_
          show PW S mX4_ahead Q 70 [some (Aq 34), some (Iq x1), some (Iq x2), some (Iq x3), some (Iq 0)] [Iq (-1000001)] (fnds mem (-1000001))
          exact pw_iret eX4_ahead_70 h
        · exact absurd (by decide) c14
      · have h := h.1 (bI1.mp c13)
        refine pw_iload_n eX4_ahead_27 rfl rfl ?_
        refine pw_i2l eX4_ahead_28 ?_
        refine pw_lconst (v := 0) eX4_ahead_29 ⟨by decide, by decide⟩ rfl ?_
        refine pw_ldc2 (n := 60) eX4_ahead_30 ⟨by decide, by decide⟩ kc_RX4_127 ?_
        refine pw_cS (z := mX4_isIn) (av := [Jq x3, Jq 0, Jq 60]) (st := []) eX4_ahead_33 lk_RX4_49 rfl (by decide) (by decide) (Nat.le_of_ble_eq_true rfl) rfl (ct_X4_isIn (mem := mem)) ?_
        show PW S mX4_ahead Q 36 [some (Aq 34), some (Iq x1), some (Iq x2), some (Iq x3), none] [Iq (bI (0 ≤ x3 ∧ x3 ≤ 60))] mem
        refine pw_if_eq eX4_ahead_36 (fun c16 => ?_) (fun c16 => ?_)
        · have h := h.2 (bI0.mp c16)
          refine pw_iconst eX4_ahead_43 ⟨by decide, by decide⟩ ?_
          refine pw_istore (ls2 := [some (Aq 34), some (Iq x1), some (Iq x2), some (Iq x3), some (Iq 0)]) eX4_ahead_44 (by decide) rfl ?_
          refine pw_iload eX4_ahead_46 rfl ?_
          refine pw_if_eq eX4_ahead_48 (fun c17 => ?_) (fun c17 => ?_)
          · skip
            refine pw_aload_n eX4_ahead_64 rfl rfl ?_
            refine pw_ldc (n := (-1000001)) eX4_ahead_65 ⟨by decide, by decide⟩ kc_RX4_37 ?_
            obtain ⟨ob18, h⟩ := h
            refine pw_cV (z := mX4_finds) (av := [Iq (-1000001)]) (st := []) eX4_ahead_67 lk_RX4_39 rfl (by decide) (by decide) sh34 rfl rfl (Nat.le_of_ble_eq_true rfl) rfl (ct_X4_finds' (mem := mem) ob18) ?_
            show PW S mX4_ahead Q 70 [some (Aq 34), some (Iq x1), some (Iq x2), some (Iq x3), some (Iq 0)] [Iq (-1000001)] (fnds mem (-1000001))
            exact pw_iret eX4_ahead_70 h
          · exact absurd (by decide) c17
        · have h := h.1 (bI1.mp c16)
          refine pw_iconst eX4_ahead_39 ⟨by decide, by decide⟩ ?_
          refine pw_goto eX4_ahead_40 ?_
          refine pw_istore (ls2 := [some (Aq 34), some (Iq x1), some (Iq x2), some (Iq x3), some (Iq 1)]) eX4_ahead_44 (by decide) rfl ?_
          refine pw_iload eX4_ahead_46 rfl ?_
          refine pw_if_eq eX4_ahead_48 (fun c19 => ?_) (fun c19 => ?_)
          · exact absurd c19 (by decide)
          · skip
            refine pw_aload_n eX4_ahead_51 rfl rfl ?_
            refine pw_iload_n eX4_ahead_52 rfl rfl ?_
            refine pw_iload_n eX4_ahead_53 rfl rfl ?_
            obtain ⟨ob20, h⟩ := h
            refine pw_cS (z := mX4_at) (av := [Iq x1, Iq x2]) (st := [Aq 34]) eX4_ahead_54 lk_RX4_59 rfl (by decide) (by decide) (Nat.le_of_ble_eq_true rfl) rfl (ct_X4_at (mem := mem) ob20) ?_
            show PW S mX4_ahead Q 57 [some (Aq 34), some (Iq x1), some (Iq x2), some (Iq x3), some (Iq 1)] [Iq (12 + 14 * x1 + x2), Aq 34] mem
            refine pw_iload_n eX4_ahead_57 rfl rfl ?_
            obtain ⟨v21, m22, hc23, h⟩ := h
            refine pw_cV (z := mX4_thenAt) (av := [Iq (12 + 14 * x1 + x2), Iq x3]) (st := []) eX4_ahead_58 lk_RX4_158 rfl (by decide) (by decide) sh34 rfl rfl (Nat.le_of_ble_eq_true rfl) rfl hc23 ?_
            show PW S mX4_ahead Q 61 [some (Aq 34), some (Iq x1), some (Iq x2), some (Iq x3), some (Iq 1)] [Iq v21] m22
            refine pw_goto eX4_ahead_61 ?_
            exact pw_iret eX4_ahead_70 h
set_option maxRecDepth 100000 in
theorem rg_X4_writes_0 {S : Sx} {Q : Option PV → Zm → Prop} {mem : Zm}   {x1 x2 x3 : Int} 
    (h : (((0 ≤ x1 ∧ x1 < mem 35 0) → ((((0 ≤ x2 ∧ x2 < 8) → ((((0 ≤ x3 ∧ x3 ≤ 60) → ((in32 (6 + x2)) ∧ (0 ≤ x1 ∧ x1 < 8 ∧ 0 ≤ 6 + x2 ∧ 6 + x2 < 14) ∧ (∃ (v9 : Int) (m10 : Zm), Ct1 S mX4_thenAt [Aq 34, Iq (12 + 14 * x1 + (6 + x2)), Iq x3] mem (some (Iq v9)) m10 ∧ (Q (some (Iq v9)) m10)))) ∧ (¬ (0 ≤ x3 ∧ x3 ≤ 60) → ((fOK mem (-1000001)) ∧ Q (some (Iq (-1000001))) (fnds mem (-1000001))))))) ∧ (¬ (0 ≤ x2 ∧ x2 < 8) → ((fOK mem (-1000001)) ∧ Q (some (Iq (-1000001))) (fnds mem (-1000001))))))) ∧ (¬ (0 ≤ x1 ∧ x1 < mem 35 0) → ((fOK mem (-1000001)) ∧ Q (some (Iq (-1000001))) (fnds mem (-1000001)))))) :
    PW S mX4_writes Q 0 [some (Aq 34), some (Iq x1), some (Iq x2), some (Iq x3)] [] mem := by
  refine pw_aload_n eX4_writes_0 rfl rfl ?_
  refine pw_iload_n eX4_writes_1 rfl rfl ?_
  refine pw_cV (z := mX4_isChild) (av := [Iq x1]) (st := []) eX4_writes_2 lk_RX4_77 rfl (by decide) (by decide) sh34 rfl rfl (Nat.le_of_ble_eq_true rfl) rfl (ct_X4_isChild (mem := mem)) ?_
  show PW S mX4_writes Q 5 [some (Aq 34), some (Iq x1), some (Iq x2), some (Iq x3)] [Iq (bI (0 ≤ x1 ∧ x1 < mem 35 0))] mem
  refine pw_if_eq eX4_writes_5 (fun c1 => ?_) (fun c1 => ?_)
  · have h := h.2 (bI0.mp c1)
    refine pw_aload_n eX4_writes_43 rfl rfl ?_
    refine pw_ldc (n := (-1000001)) eX4_writes_44 ⟨by decide, by decide⟩ kc_RX4_37 ?_
    obtain ⟨ob2, h⟩ := h
    refine pw_cV (z := mX4_finds) (av := [Iq (-1000001)]) (st := []) eX4_writes_46 lk_RX4_39 rfl (by decide) (by decide) sh34 rfl rfl (Nat.le_of_ble_eq_true rfl) rfl (ct_X4_finds' (mem := mem) ob2) ?_
    show PW S mX4_writes Q 49 [some (Aq 34), some (Iq x1), some (Iq x2), some (Iq x3)] [Iq (-1000001)] (fnds mem (-1000001))
    exact pw_iret eX4_writes_49 h
  · have h := h.1 (bI1.mp c1)
    refine pw_iload_n eX4_writes_8 rfl rfl ?_
    refine pw_cS (z := mX4_isSum) (av := [Iq x2]) (st := []) eX4_writes_9 lk_RX4_43 rfl (by decide) (by decide) (Nat.le_of_ble_eq_true rfl) rfl (ct_X4_isSum (mem := mem)) ?_
    show PW S mX4_writes Q 12 [some (Aq 34), some (Iq x1), some (Iq x2), some (Iq x3)] [Iq (bI (0 ≤ x2 ∧ x2 < 8))] mem
    refine pw_if_eq eX4_writes_12 (fun c3 => ?_) (fun c3 => ?_)
    · have h := h.2 (bI0.mp c3)
      refine pw_aload_n eX4_writes_43 rfl rfl ?_
      refine pw_ldc (n := (-1000001)) eX4_writes_44 ⟨by decide, by decide⟩ kc_RX4_37 ?_
      obtain ⟨ob4, h⟩ := h
      refine pw_cV (z := mX4_finds) (av := [Iq (-1000001)]) (st := []) eX4_writes_46 lk_RX4_39 rfl (by decide) (by decide) sh34 rfl rfl (Nat.le_of_ble_eq_true rfl) rfl (ct_X4_finds' (mem := mem) ob4) ?_
      show PW S mX4_writes Q 49 [some (Aq 34), some (Iq x1), some (Iq x2), some (Iq x3)] [Iq (-1000001)] (fnds mem (-1000001))
      exact pw_iret eX4_writes_49 h
    · have h := h.1 (bI1.mp c3)
      refine pw_iload_n eX4_writes_15 rfl rfl ?_
      refine pw_i2l eX4_writes_16 ?_
      refine pw_lconst (v := 0) eX4_writes_17 ⟨by decide, by decide⟩ rfl ?_
      refine pw_ldc2 (n := 60) eX4_writes_18 ⟨by decide, by decide⟩ kc_RX4_127 ?_
      refine pw_cS (z := mX4_isIn) (av := [Jq x3, Jq 0, Jq 60]) (st := []) eX4_writes_21 lk_RX4_49 rfl (by decide) (by decide) (Nat.le_of_ble_eq_true rfl) rfl (ct_X4_isIn (mem := mem)) ?_
      show PW S mX4_writes Q 24 [some (Aq 34), some (Iq x1), some (Iq x2), some (Iq x3)] [Iq (bI (0 ≤ x3 ∧ x3 ≤ 60))] mem
      refine pw_if_eq eX4_writes_24 (fun c5 => ?_) (fun c5 => ?_)
      · have h := h.2 (bI0.mp c5)
        refine pw_aload_n eX4_writes_43 rfl rfl ?_
        refine pw_ldc (n := (-1000001)) eX4_writes_44 ⟨by decide, by decide⟩ kc_RX4_37 ?_
        obtain ⟨ob6, h⟩ := h
        refine pw_cV (z := mX4_finds) (av := [Iq (-1000001)]) (st := []) eX4_writes_46 lk_RX4_39 rfl (by decide) (by decide) sh34 rfl rfl (Nat.le_of_ble_eq_true rfl) rfl (ct_X4_finds' (mem := mem) ob6) ?_
        show PW S mX4_writes Q 49 [some (Aq 34), some (Iq x1), some (Iq x2), some (Iq x3)] [Iq (-1000001)] (fnds mem (-1000001))
        exact pw_iret eX4_writes_49 h
      · have h := h.1 (bI1.mp c5)
        refine pw_aload_n eX4_writes_27 rfl rfl ?_
        refine pw_iload_n eX4_writes_28 rfl rfl ?_
        refine pw_bipush eX4_writes_29 ⟨by decide, by decide⟩ (by decide) ?_
        refine pw_iload_n eX4_writes_31 rfl rfl ?_
        obtain ⟨ob7, h⟩ := h
        refine pw_iadd eX4_writes_32 ob7 ?_
        obtain ⟨ob8, h⟩ := h
        refine pw_cS (z := mX4_at) (av := [Iq x1, Iq (6 + x2)]) (st := [Aq 34]) eX4_writes_33 lk_RX4_59 rfl (by decide) (by decide) (Nat.le_of_ble_eq_true rfl) rfl (ct_X4_at (mem := mem) ob8) ?_
        show PW S mX4_writes Q 36 [some (Aq 34), some (Iq x1), some (Iq x2), some (Iq x3)] [Iq (12 + 14 * x1 + (6 + x2)), Aq 34] mem
        refine pw_iload_n eX4_writes_36 rfl rfl ?_
        obtain ⟨v9, m10, hc11, h⟩ := h
        refine pw_cV (z := mX4_thenAt) (av := [Iq (12 + 14 * x1 + (6 + x2)), Iq x3]) (st := []) eX4_writes_37 lk_RX4_158 rfl (by decide) (by decide) sh34 rfl rfl (Nat.le_of_ble_eq_true rfl) rfl hc11 ?_
        show PW S mX4_writes Q 40 [some (Aq 34), some (Iq x1), some (Iq x2), some (Iq x3)] [Iq v9] m10
        refine pw_goto eX4_writes_40 ?_
        exact pw_iret eX4_writes_49 h
set_option maxRecDepth 100000 in
theorem rg_X4_copyFrom_0 {S : Sx} {Q : Option PV → Zm → Prop} {mem : Zm}   {x1 x2 : Int} 
    (h : ((((0 ≤ x1 ∧ x1 < mem 35 0) ∧ (0 ≤ x2 ∧ x2 ≤ 20)) → ((0 ≤ x1 ∧ x1 < 8) ∧ PW S mX4_copyFrom Q 32 [some (Aq 34), some (Iq x1), some (Iq x2), some (Iq (mem 35 (12 + 14 * (x1).toNat + 2))), some (Iq (-1)), some (Iq (-1)), some (Iq 0), none, none] [] mem)) ∧ (¬ ((0 ≤ x1 ∧ x1 < mem 35 0) ∧ (0 ≤ x2 ∧ x2 ≤ 20)) → ((fOK mem (-1000001)) ∧ Q (some (Iq (-1000001))) (fnds mem (-1000001)))))) :
    PW S mX4_copyFrom Q 0 [some (Aq 34), some (Iq x1), some (Iq x2), none, none, none, none, none, none] [] mem := by
  refine pw_aload_n eX4_copyFrom_0 rfl rfl ?_
  refine pw_iload_n eX4_copyFrom_1 rfl rfl ?_
  refine pw_iload_n eX4_copyFrom_2 rfl rfl ?_
  refine pw_cV (z := mX4_isAsked) (av := [Iq x1, Iq x2]) (st := []) eX4_copyFrom_3 lk_RX4_163 rfl (by decide) (by decide) sh34 rfl rfl (Nat.le_of_ble_eq_true rfl) rfl (ct_X4_isAsked (mem := mem)) ?_
  show PW S mX4_copyFrom Q 6 [some (Aq 34), some (Iq x1), some (Iq x2), none, none, none, none, none, none] [Iq (bI ((0 ≤ x1 ∧ x1 < mem 35 0) ∧ (0 ≤ x2 ∧ x2 ≤ 20)))] mem
  refine pw_if_ne eX4_copyFrom_6 (fun c1 => ?_) (fun c1 => ?_)
  · have h := h.1 (bI1.mp c1)
    refine pw_aload_n eX4_copyFrom_16 rfl rfl ?_
    refine pw_iload_n eX4_copyFrom_17 rfl rfl ?_
    refine pw_iconst eX4_copyFrom_18 ⟨by decide, by decide⟩ ?_
    obtain ⟨ob2, h⟩ := h
    refine pw_cV (z := mX4_its) (av := [Iq x1, Iq 2]) (st := []) eX4_copyFrom_19 lk_RX4_71 rfl (by decide) (by decide) sh34 rfl rfl (Nat.le_of_ble_eq_true rfl) rfl (ct_X4_its (mem := mem) ⟨ob2.1, ob2.2, by decide, by decide⟩) ?_
    show PW S mX4_copyFrom Q 22 [some (Aq 34), some (Iq x1), some (Iq x2), none, none, none, none, none, none] [Iq (mem 35 (12 + 14 * (x1).toNat + 2))] mem
    refine pw_istore_n (ls2 := [some (Aq 34), some (Iq x1), some (Iq x2), some (Iq (mem 35 (12 + 14 * (x1).toNat + 2))), none, none, none, none, none]) eX4_copyFrom_22 rfl (by decide) rfl ?_
    refine pw_iconst eX4_copyFrom_23 ⟨by decide, by decide⟩ ?_
    refine pw_istore (ls2 := [some (Aq 34), some (Iq x1), some (Iq x2), some (Iq (mem 35 (12 + 14 * (x1).toNat + 2))), some (Iq (-1)), none, none, none, none]) eX4_copyFrom_24 (by decide) rfl ?_
    refine pw_iconst eX4_copyFrom_26 ⟨by decide, by decide⟩ ?_
    refine pw_istore (ls2 := [some (Aq 34), some (Iq x1), some (Iq x2), some (Iq (mem 35 (12 + 14 * (x1).toNat + 2))), some (Iq (-1)), some (Iq (-1)), none, none, none]) eX4_copyFrom_27 (by decide) rfl ?_
    refine pw_iconst eX4_copyFrom_29 ⟨by decide, by decide⟩ ?_
    refine pw_istore (ls2 := [some (Aq 34), some (Iq x1), some (Iq x2), some (Iq (mem 35 (12 + 14 * (x1).toNat + 2))), some (Iq (-1)), some (Iq (-1)), some (Iq 0), none, none]) eX4_copyFrom_30 (by decide) rfl ?_
    exact h
  · have h := h.2 (bI0.mp (Classical.not_not.mp c1))
    refine pw_aload_n eX4_copyFrom_9 rfl rfl ?_
    refine pw_ldc (n := (-1000001)) eX4_copyFrom_10 ⟨by decide, by decide⟩ kc_RX4_37 ?_
    obtain ⟨ob3, h⟩ := h
    refine pw_cV (z := mX4_finds) (av := [Iq (-1000001)]) (st := []) eX4_copyFrom_12 lk_RX4_39 rfl (by decide) (by decide) sh34 rfl rfl (Nat.le_of_ble_eq_true rfl) rfl (ct_X4_finds' (mem := mem) ob3) ?_
    show PW S mX4_copyFrom Q 15 [some (Aq 34), some (Iq x1), some (Iq x2), none, none, none, none, none, none] [Iq (-1000001)] (fnds mem (-1000001))
    exact pw_iret eX4_copyFrom_15 h

set_option maxRecDepth 100000 in
theorem rg_X4_copyFrom_32 {S : Sx} {Q : Option PV → Zm → Prop} {mem : Zm}   {x1 x2 x3 x4 x5 x6 : Int} 
    (h : (((mem 35 0 < x6) → ((0 ≤ x1 ∧ x1 < 8) ∧ (0 ≤ 12 + 14 * x1 + 2 ∧ 12 + 14 * x1 + 2 < 134) ∧ Q (some (Iq x4)) (mup mem 35 (12 + 14 * x1 + 2).toNat x3))) ∧ (¬ (mem 35 0 < x6) → ((((mem 35 0 ≤ x6) → ((((-1 = x1) → ((in32 (x6 + 1)) ∧ PW S mX4_copyFrom Q 32 [some (Aq 34), some (Iq x1), some (Iq x2), some (Iq x3), some (Iq x4), some (Iq x5), some (Iq (x6 + 1)), none, none] [] mem)) ∧ (¬ (-1 = x1) → ((0 ≤ x1 ∧ x1 < 8) ∧ (0 ≤ 12 + 14 * x1 + 2 ∧ 12 + 14 * x1 + 2 < 134) ∧ (0 ≤ x1 ∧ x1 < 8) ∧ (∃ (v10 : Int) (m11 : Zm), Ct1 S mX4_thenAt [Aq 34, Iq (12 + 14 * x1 + 3), Iq x2] (mup mem 35 (12 + 14 * x1 + 2).toNat (-1)) (some (Iq v10)) m11 ∧ ((((v10 ≤ x5) → ((in32 (x6 + 1)) ∧ PW S mX4_copyFrom Q 32 [some (Aq 34), some (Iq x1), some (Iq x2), some (Iq x3), some (Iq x4), some (Iq (max x5 v10)), some (Iq (x6 + 1)), none, none] [] m11)) ∧ (¬ (v10 ≤ x5) → ((in32 (x6 + 1)) ∧ PW S mX4_copyFrom Q 32 [some (Aq 34), some (Iq x1), some (Iq x2), some (Iq x3), some (Iq (-1)), some (Iq (max x5 v10)), some (Iq (x6 + 1)), none, none] [] m11)))))))))) ∧ (¬ (mem 35 0 ≤ x6) → ((((x6 = x1) → ((in32 (x6 + 1)) ∧ PW S mX4_copyFrom Q 32 [some (Aq 34), some (Iq x1), some (Iq x2), some (Iq x3), some (Iq x4), some (Iq x5), some (Iq (x6 + 1)), none, none] [] mem)) ∧ (¬ (x6 = x1) → ((0 ≤ x1 ∧ x1 < 8) ∧ (0 ≤ 12 + 14 * x1 + 2 ∧ 12 + 14 * x1 + 2 < 134) ∧ (0 ≤ x1 ∧ x1 < 8) ∧ (∃ (v21 : Int) (m22 : Zm), Ct1 S mX4_thenAt [Aq 34, Iq (12 + 14 * x1 + 3), Iq x2] (mup mem 35 (12 + 14 * x1 + 2).toNat x6) (some (Iq v21)) m22 ∧ ((((v21 ≤ x5) → ((in32 (x6 + 1)) ∧ PW S mX4_copyFrom Q 32 [some (Aq 34), some (Iq x1), some (Iq x2), some (Iq x3), some (Iq x4), some (Iq (max x5 v21)), some (Iq (x6 + 1)), none, none] [] m22)) ∧ (¬ (v21 ≤ x5) → ((in32 (x6 + 1)) ∧ PW S mX4_copyFrom Q 32 [some (Aq 34), some (Iq x1), some (Iq x2), some (Iq x3), some (Iq x6), some (Iq (max x5 v21)), some (Iq (x6 + 1)), none, none] [] m22))))))))))))))) :
    PW S mX4_copyFrom Q 32 [some (Aq 34), some (Iq x1), some (Iq x2), some (Iq x3), some (Iq x4), some (Iq x5), some (Iq x6), none, none] [] mem := by
  refine pw_iload eX4_copyFrom_32 rfl ?_
  refine pw_aload_n eX4_copyFrom_34 rfl rfl ?_
  refine gf_RX4_7 rfl eX4_copyFrom_35 sh34 ?_
  refine pw_iconst eX4_copyFrom_38 ⟨by decide, by decide⟩ ?_
  refine pw_iald eX4_copyFrom_39 sh35 (by decide) ?_
  refine pw_icmp_gt eX4_copyFrom_40 (fun c1 => ?_) (fun c1 => ?_)
  · have h := h.1 c1
    refine pw_aload_n eX4_copyFrom_123 rfl rfl ?_
    refine gf_RX4_7 rfl eX4_copyFrom_124 sh34 ?_
    refine pw_iload_n eX4_copyFrom_127 rfl rfl ?_
    refine pw_iconst eX4_copyFrom_128 ⟨by decide, by decide⟩ ?_
    obtain ⟨ob2, h⟩ := h
    refine pw_cS (z := mX4_at) (av := [Iq x1, Iq 2]) (st := [Aq 35]) eX4_copyFrom_129 lk_RX4_59 rfl (by decide) (by decide) (Nat.le_of_ble_eq_true rfl) rfl (ct_X4_at (mem := mem) ⟨ob2.1, ob2.2, by decide, by decide⟩) ?_
    show PW S mX4_copyFrom Q 132 [some (Aq 34), some (Iq x1), some (Iq x2), some (Iq x3), some (Iq x4), some (Iq x5), some (Iq x6), none, none] [Iq (12 + 14 * x1 + 2), Aq 35] mem
    refine pw_iload_n eX4_copyFrom_132 rfl rfl ?_
    obtain ⟨ob3, h⟩ := h
    refine pw_iast eX4_copyFrom_133 sh35 ob3 ?_
    refine pw_iload eX4_copyFrom_134 rfl ?_
    exact pw_iret eX4_copyFrom_136 h
  · have h := h.2 c1
    refine pw_iload eX4_copyFrom_43 rfl ?_
    refine pw_aload_n eX4_copyFrom_45 rfl rfl ?_
    refine gf_RX4_7 rfl eX4_copyFrom_46 sh34 ?_
    refine pw_iconst eX4_copyFrom_49 ⟨by decide, by decide⟩ ?_
    refine pw_iald eX4_copyFrom_50 sh35 (by decide) ?_
    refine pw_icmp_ge eX4_copyFrom_51 (fun c4 => ?_) (fun c4 => ?_)
    · have h := h.1 c4
      refine pw_iconst eX4_copyFrom_59 ⟨by decide, by decide⟩ ?_
      refine pw_istore (ls2 := [some (Aq 34), some (Iq x1), some (Iq x2), some (Iq x3), some (Iq x4), some (Iq x5), some (Iq x6), some (Iq (-1)), none]) eX4_copyFrom_60 (by decide) rfl ?_
      refine pw_iload eX4_copyFrom_62 rfl ?_
      refine pw_iload_n eX4_copyFrom_64 rfl rfl ?_
      refine pw_icmp_eq eX4_copyFrom_65 (fun c5 => ?_) (fun c5 => ?_)
      · have h := h.1 c5
        obtain ⟨ob6, h⟩ := h
        refine pw_iinc (ls2 := [some (Aq 34), some (Iq x1), some (Iq x2), some (Iq x3), some (Iq x4), some (Iq x5), some (Iq (x6 + 1)), some (Iq (-1)), none]) eX4_copyFrom_117 rfl ob6 rfl ?_
        refine pw_goto eX4_copyFrom_120 ?_
        exact pw_drop (bs := [true, true, true, true, true, true, true, false, false]) h
      · have h := h.2 c5
        refine pw_aload_n eX4_copyFrom_68 rfl rfl ?_
        refine gf_RX4_7 rfl eX4_copyFrom_69 sh34 ?_
        refine pw_iload_n eX4_copyFrom_72 rfl rfl ?_
        refine pw_iconst eX4_copyFrom_73 ⟨by decide, by decide⟩ ?_
        obtain ⟨ob7, h⟩ := h
        refine pw_cS (z := mX4_at) (av := [Iq x1, Iq 2]) (st := [Aq 35]) eX4_copyFrom_74 lk_RX4_59 rfl (by decide) (by decide) (Nat.le_of_ble_eq_true rfl) rfl (ct_X4_at (mem := mem) ⟨ob7.1, ob7.2, by decide, by decide⟩) ?_
        show PW S mX4_copyFrom Q 77 [some (Aq 34), some (Iq x1), some (Iq x2), some (Iq x3), some (Iq x4), some (Iq x5), some (Iq x6), some (Iq (-1)), none] [Iq (12 + 14 * x1 + 2), Aq 35] mem
        refine pw_iload eX4_copyFrom_77 rfl ?_
        obtain ⟨ob8, h⟩ := h
        refine pw_iast eX4_copyFrom_79 sh35 ob8 ?_
        refine pw_aload_n eX4_copyFrom_80 rfl rfl ?_
        refine pw_iload_n eX4_copyFrom_81 rfl rfl ?_
        refine pw_iconst eX4_copyFrom_82 ⟨by decide, by decide⟩ ?_
        obtain ⟨ob9, h⟩ := h
        refine pw_cS (z := mX4_at) (av := [Iq x1, Iq 3]) (st := [Aq 34]) eX4_copyFrom_83 lk_RX4_59 rfl (by decide) (by decide) (Nat.le_of_ble_eq_true rfl) rfl (ct_X4_at (mem := mup mem 35 (12 + 14 * x1 + 2).toNat (-1)) ⟨ob9.1, ob9.2, by decide, by decide⟩) ?_
        show PW S mX4_copyFrom Q 86 [some (Aq 34), some (Iq x1), some (Iq x2), some (Iq x3), some (Iq x4), some (Iq x5), some (Iq x6), some (Iq (-1)), none] [Iq (12 + 14 * x1 + 3), Aq 34] (mup mem 35 (12 + 14 * x1 + 2).toNat (-1))
        refine pw_iload_n eX4_copyFrom_86 rfl rfl ?_
        obtain ⟨v10, m11, hc12, h⟩ := h
        refine pw_cV (z := mX4_thenAt) (av := [Iq (12 + 14 * x1 + 3), Iq x2]) (st := []) eX4_copyFrom_87 lk_RX4_158 rfl (by decide) (by decide) sh34 rfl rfl (Nat.le_of_ble_eq_true rfl) rfl hc12 ?_
        show PW S mX4_copyFrom Q 90 [some (Aq 34), some (Iq x1), some (Iq x2), some (Iq x3), some (Iq x4), some (Iq x5), some (Iq x6), some (Iq (-1)), none] [Iq v10] m11
        refine pw_istore (ls2 := [some (Aq 34), some (Iq x1), some (Iq x2), some (Iq x3), some (Iq x4), some (Iq x5), some (Iq x6), some (Iq (-1)), some (Iq v10)]) eX4_copyFrom_90 (by decide) rfl ?_
        refine pw_iload eX4_copyFrom_92 rfl ?_
        refine pw_iload eX4_copyFrom_94 rfl ?_
        refine pw_icmp_le eX4_copyFrom_96 (fun c13 => ?_) (fun c13 => ?_)
        · have h := h.1 c13
          refine pw_iload eX4_copyFrom_104 rfl ?_
          refine pw_istore (ls2 := [some (Aq 34), some (Iq x1), some (Iq x2), some (Iq x3), some (Iq x4), some (Iq x5), some (Iq x6), some (Iq (-1)), some (Iq v10)]) eX4_copyFrom_106 (by decide) rfl ?_
          refine pw_iload eX4_copyFrom_108 rfl ?_
          refine pw_iload eX4_copyFrom_110 rfl ?_
          refine pw_cS (z := mX4_greatest) (av := [Iq x5, Iq v10]) (st := []) eX4_copyFrom_112 lk_RX4_137 rfl (by decide) (by decide) (Nat.le_of_ble_eq_true rfl) rfl (ct_X4_greatest (mem := m11)) ?_
          show PW S mX4_copyFrom Q 115 [some (Aq 34), some (Iq x1), some (Iq x2), some (Iq x3), some (Iq x4), some (Iq x5), some (Iq x6), some (Iq (-1)), some (Iq v10)] [Iq (max x5 v10)] m11
          refine pw_istore (ls2 := [some (Aq 34), some (Iq x1), some (Iq x2), some (Iq x3), some (Iq x4), some (Iq (max x5 v10)), some (Iq x6), some (Iq (-1)), some (Iq v10)]) eX4_copyFrom_115 (by decide) rfl ?_
          obtain ⟨ob14, h⟩ := h
          refine pw_iinc (ls2 := [some (Aq 34), some (Iq x1), some (Iq x2), some (Iq x3), some (Iq x4), some (Iq (max x5 v10)), some (Iq (x6 + 1)), some (Iq (-1)), some (Iq v10)]) eX4_copyFrom_117 rfl ob14 rfl ?_
          refine pw_goto eX4_copyFrom_120 ?_
          exact pw_drop (bs := [true, true, true, true, true, true, true, false, false]) h
        · have h := h.2 c13
          refine pw_iload eX4_copyFrom_99 rfl ?_
          refine pw_goto eX4_copyFrom_101 ?_
          refine pw_istore (ls2 := [some (Aq 34), some (Iq x1), some (Iq x2), some (Iq x3), some (Iq (-1)), some (Iq x5), some (Iq x6), some (Iq (-1)), some (Iq v10)]) eX4_copyFrom_106 (by decide) rfl ?_
          refine pw_iload eX4_copyFrom_108 rfl ?_
          refine pw_iload eX4_copyFrom_110 rfl ?_
          refine pw_cS (z := mX4_greatest) (av := [Iq x5, Iq v10]) (st := []) eX4_copyFrom_112 lk_RX4_137 rfl (by decide) (by decide) (Nat.le_of_ble_eq_true rfl) rfl (ct_X4_greatest (mem := m11)) ?_
          show PW S mX4_copyFrom Q 115 [some (Aq 34), some (Iq x1), some (Iq x2), some (Iq x3), some (Iq (-1)), some (Iq x5), some (Iq x6), some (Iq (-1)), some (Iq v10)] [Iq (max x5 v10)] m11
          refine pw_istore (ls2 := [some (Aq 34), some (Iq x1), some (Iq x2), some (Iq x3), some (Iq (-1)), some (Iq (max x5 v10)), some (Iq x6), some (Iq (-1)), some (Iq v10)]) eX4_copyFrom_115 (by decide) rfl ?_
          obtain ⟨ob15, h⟩ := h
          refine pw_iinc (ls2 := [some (Aq 34), some (Iq x1), some (Iq x2), some (Iq x3), some (Iq (-1)), some (Iq (max x5 v10)), some (Iq (x6 + 1)), some (Iq (-1)), some (Iq v10)]) eX4_copyFrom_117 rfl ob15 rfl ?_
          refine pw_goto eX4_copyFrom_120 ?_
          exact pw_drop (bs := [true, true, true, true, true, true, true, false, false]) h
    · have h := h.2 c4
      refine pw_iload eX4_copyFrom_54 rfl ?_
      refine pw_goto eX4_copyFrom_56 ?_
      refine pw_istore (ls2 := [some (Aq 34), some (Iq x1), some (Iq x2), some (Iq x3), some (Iq x4), some (Iq x5), some (Iq x6), some (Iq x6), none]) eX4_copyFrom_60 (by decide) rfl ?_
      refine pw_iload eX4_copyFrom_62 rfl ?_
      refine pw_iload_n eX4_copyFrom_64 rfl rfl ?_
      refine pw_icmp_eq eX4_copyFrom_65 (fun c16 => ?_) (fun c16 => ?_)
      · have h := h.1 c16
        obtain ⟨ob17, h⟩ := h
        refine pw_iinc (ls2 := [some (Aq 34), some (Iq x1), some (Iq x2), some (Iq x3), some (Iq x4), some (Iq x5), some (Iq (x6 + 1)), some (Iq x6), none]) eX4_copyFrom_117 rfl ob17 rfl ?_
        refine pw_goto eX4_copyFrom_120 ?_
        exact pw_drop (bs := [true, true, true, true, true, true, true, false, false]) h
      · have h := h.2 c16
        refine pw_aload_n eX4_copyFrom_68 rfl rfl ?_
        refine gf_RX4_7 rfl eX4_copyFrom_69 sh34 ?_
        refine pw_iload_n eX4_copyFrom_72 rfl rfl ?_
        refine pw_iconst eX4_copyFrom_73 ⟨by decide, by decide⟩ ?_
        obtain ⟨ob18, h⟩ := h
        refine pw_cS (z := mX4_at) (av := [Iq x1, Iq 2]) (st := [Aq 35]) eX4_copyFrom_74 lk_RX4_59 rfl (by decide) (by decide) (Nat.le_of_ble_eq_true rfl) rfl (ct_X4_at (mem := mem) ⟨ob18.1, ob18.2, by decide, by decide⟩) ?_
        show PW S mX4_copyFrom Q 77 [some (Aq 34), some (Iq x1), some (Iq x2), some (Iq x3), some (Iq x4), some (Iq x5), some (Iq x6), some (Iq x6), none] [Iq (12 + 14 * x1 + 2), Aq 35] mem
        refine pw_iload eX4_copyFrom_77 rfl ?_
        obtain ⟨ob19, h⟩ := h
        refine pw_iast eX4_copyFrom_79 sh35 ob19 ?_
        refine pw_aload_n eX4_copyFrom_80 rfl rfl ?_
        refine pw_iload_n eX4_copyFrom_81 rfl rfl ?_
        refine pw_iconst eX4_copyFrom_82 ⟨by decide, by decide⟩ ?_
        obtain ⟨ob20, h⟩ := h
        refine pw_cS (z := mX4_at) (av := [Iq x1, Iq 3]) (st := [Aq 34]) eX4_copyFrom_83 lk_RX4_59 rfl (by decide) (by decide) (Nat.le_of_ble_eq_true rfl) rfl (ct_X4_at (mem := mup mem 35 (12 + 14 * x1 + 2).toNat x6) ⟨ob20.1, ob20.2, by decide, by decide⟩) ?_
        show PW S mX4_copyFrom Q 86 [some (Aq 34), some (Iq x1), some (Iq x2), some (Iq x3), some (Iq x4), some (Iq x5), some (Iq x6), some (Iq x6), none] [Iq (12 + 14 * x1 + 3), Aq 34] (mup mem 35 (12 + 14 * x1 + 2).toNat x6)
        refine pw_iload_n eX4_copyFrom_86 rfl rfl ?_
        obtain ⟨v21, m22, hc23, h⟩ := h
        refine pw_cV (z := mX4_thenAt) (av := [Iq (12 + 14 * x1 + 3), Iq x2]) (st := []) eX4_copyFrom_87 lk_RX4_158 rfl (by decide) (by decide) sh34 rfl rfl (Nat.le_of_ble_eq_true rfl) rfl hc23 ?_
        show PW S mX4_copyFrom Q 90 [some (Aq 34), some (Iq x1), some (Iq x2), some (Iq x3), some (Iq x4), some (Iq x5), some (Iq x6), some (Iq x6), none] [Iq v21] m22
        refine pw_istore (ls2 := [some (Aq 34), some (Iq x1), some (Iq x2), some (Iq x3), some (Iq x4), some (Iq x5), some (Iq x6), some (Iq x6), some (Iq v21)]) eX4_copyFrom_90 (by decide) rfl ?_
        refine pw_iload eX4_copyFrom_92 rfl ?_
        refine pw_iload eX4_copyFrom_94 rfl ?_
        refine pw_icmp_le eX4_copyFrom_96 (fun c24 => ?_) (fun c24 => ?_)
        · have h := h.1 c24
          refine pw_iload eX4_copyFrom_104 rfl ?_
          refine pw_istore (ls2 := [some (Aq 34), some (Iq x1), some (Iq x2), some (Iq x3), some (Iq x4), some (Iq x5), some (Iq x6), some (Iq x6), some (Iq v21)]) eX4_copyFrom_106 (by decide) rfl ?_
          refine pw_iload eX4_copyFrom_108 rfl ?_
          refine pw_iload eX4_copyFrom_110 rfl ?_
          refine pw_cS (z := mX4_greatest) (av := [Iq x5, Iq v21]) (st := []) eX4_copyFrom_112 lk_RX4_137 rfl (by decide) (by decide) (Nat.le_of_ble_eq_true rfl) rfl (ct_X4_greatest (mem := m22)) ?_
          show PW S mX4_copyFrom Q 115 [some (Aq 34), some (Iq x1), some (Iq x2), some (Iq x3), some (Iq x4), some (Iq x5), some (Iq x6), some (Iq x6), some (Iq v21)] [Iq (max x5 v21)] m22
          refine pw_istore (ls2 := [some (Aq 34), some (Iq x1), some (Iq x2), some (Iq x3), some (Iq x4), some (Iq (max x5 v21)), some (Iq x6), some (Iq x6), some (Iq v21)]) eX4_copyFrom_115 (by decide) rfl ?_
          obtain ⟨ob25, h⟩ := h
          refine pw_iinc (ls2 := [some (Aq 34), some (Iq x1), some (Iq x2), some (Iq x3), some (Iq x4), some (Iq (max x5 v21)), some (Iq (x6 + 1)), some (Iq x6), some (Iq v21)]) eX4_copyFrom_117 rfl ob25 rfl ?_
          refine pw_goto eX4_copyFrom_120 ?_
          exact pw_drop (bs := [true, true, true, true, true, true, true, false, false]) h
        · have h := h.2 c24
          refine pw_iload eX4_copyFrom_99 rfl ?_
          refine pw_goto eX4_copyFrom_101 ?_
          refine pw_istore (ls2 := [some (Aq 34), some (Iq x1), some (Iq x2), some (Iq x3), some (Iq x6), some (Iq x5), some (Iq x6), some (Iq x6), some (Iq v21)]) eX4_copyFrom_106 (by decide) rfl ?_
          refine pw_iload eX4_copyFrom_108 rfl ?_
          refine pw_iload eX4_copyFrom_110 rfl ?_
          refine pw_cS (z := mX4_greatest) (av := [Iq x5, Iq v21]) (st := []) eX4_copyFrom_112 lk_RX4_137 rfl (by decide) (by decide) (Nat.le_of_ble_eq_true rfl) rfl (ct_X4_greatest (mem := m22)) ?_
          show PW S mX4_copyFrom Q 115 [some (Aq 34), some (Iq x1), some (Iq x2), some (Iq x3), some (Iq x6), some (Iq x5), some (Iq x6), some (Iq x6), some (Iq v21)] [Iq (max x5 v21)] m22
          refine pw_istore (ls2 := [some (Aq 34), some (Iq x1), some (Iq x2), some (Iq x3), some (Iq x6), some (Iq (max x5 v21)), some (Iq x6), some (Iq x6), some (Iq v21)]) eX4_copyFrom_115 (by decide) rfl ?_
          obtain ⟨ob26, h⟩ := h
          refine pw_iinc (ls2 := [some (Aq 34), some (Iq x1), some (Iq x2), some (Iq x3), some (Iq x6), some (Iq (max x5 v21)), some (Iq (x6 + 1)), some (Iq x6), some (Iq v21)]) eX4_copyFrom_117 rfl ob26 rfl ?_
          refine pw_goto eX4_copyFrom_120 ?_
          exact pw_drop (bs := [true, true, true, true, true, true, true, false, false]) h
set_option maxRecDepth 100000 in
theorem rg_X4_kindFor_0 {S : Sx} {Q : Option PV → Zm → Prop} {mem : Zm}   {x1 x2 : Int} 
    (h : ((((0 ≤ x1 ∧ x1 < mem 35 0) ∧ (0 ≤ x2 ∧ x2 ≤ 20)) → ((0 ≤ x1 ∧ x1 < 8) ∧ PW S mX4_kindFor Q 32 [some (Aq 34), some (Iq x1), some (Iq x2), some (Iq (mem 35 (12 + 14 * (x1).toNat))), some (Iq 0), some (Iq (-1)), some (Iq 0), none] [] mem)) ∧ (¬ ((0 ≤ x1 ∧ x1 < mem 35 0) ∧ (0 ≤ x2 ∧ x2 ≤ 20)) → ((fOK mem (-1000001)) ∧ Q (some (Iq (-1000001))) (fnds mem (-1000001)))))) :
    PW S mX4_kindFor Q 0 [some (Aq 34), some (Iq x1), some (Iq x2), none, none, none, none, none] [] mem := by
  refine pw_aload_n eX4_kindFor_0 rfl rfl ?_
  refine pw_iload_n eX4_kindFor_1 rfl rfl ?_
  refine pw_iload_n eX4_kindFor_2 rfl rfl ?_
  refine pw_cV (z := mX4_isAsked) (av := [Iq x1, Iq x2]) (st := []) eX4_kindFor_3 lk_RX4_163 rfl (by decide) (by decide) sh34 rfl rfl (Nat.le_of_ble_eq_true rfl) rfl (ct_X4_isAsked (mem := mem)) ?_
  show PW S mX4_kindFor Q 6 [some (Aq 34), some (Iq x1), some (Iq x2), none, none, none, none, none] [Iq (bI ((0 ≤ x1 ∧ x1 < mem 35 0) ∧ (0 ≤ x2 ∧ x2 ≤ 20)))] mem
  refine pw_if_ne eX4_kindFor_6 (fun c1 => ?_) (fun c1 => ?_)
  · have h := h.1 (bI1.mp c1)
    refine pw_aload_n eX4_kindFor_16 rfl rfl ?_
    refine pw_iload_n eX4_kindFor_17 rfl rfl ?_
    refine pw_iconst eX4_kindFor_18 ⟨by decide, by decide⟩ ?_
    obtain ⟨ob2, h⟩ := h
    refine pw_cV (z := mX4_its) (av := [Iq x1, Iq 0]) (st := []) eX4_kindFor_19 lk_RX4_71 rfl (by decide) (by decide) sh34 rfl rfl (Nat.le_of_ble_eq_true rfl) rfl (ct_X4_its (mem := mem) ⟨ob2.1, ob2.2, by decide, by decide⟩) ?_
    show PW S mX4_kindFor Q 22 [some (Aq 34), some (Iq x1), some (Iq x2), none, none, none, none, none] [Iq (mem 35 (12 + 14 * (x1).toNat))] mem
    refine pw_istore_n (ls2 := [some (Aq 34), some (Iq x1), some (Iq x2), some (Iq (mem 35 (12 + 14 * (x1).toNat))), none, none, none, none]) eX4_kindFor_22 rfl (by decide) rfl ?_
    refine pw_iconst eX4_kindFor_23 ⟨by decide, by decide⟩ ?_
    refine pw_istore (ls2 := [some (Aq 34), some (Iq x1), some (Iq x2), some (Iq (mem 35 (12 + 14 * (x1).toNat))), some (Iq 0), none, none, none]) eX4_kindFor_24 (by decide) rfl ?_
    refine pw_iconst eX4_kindFor_26 ⟨by decide, by decide⟩ ?_
    refine pw_istore (ls2 := [some (Aq 34), some (Iq x1), some (Iq x2), some (Iq (mem 35 (12 + 14 * (x1).toNat))), some (Iq 0), some (Iq (-1)), none, none]) eX4_kindFor_27 (by decide) rfl ?_
    refine pw_iconst eX4_kindFor_29 ⟨by decide, by decide⟩ ?_
    refine pw_istore (ls2 := [some (Aq 34), some (Iq x1), some (Iq x2), some (Iq (mem 35 (12 + 14 * (x1).toNat))), some (Iq 0), some (Iq (-1)), some (Iq 0), none]) eX4_kindFor_30 (by decide) rfl ?_
    exact h
  · have h := h.2 (bI0.mp (Classical.not_not.mp c1))
    refine pw_aload_n eX4_kindFor_9 rfl rfl ?_
    refine pw_ldc (n := (-1000001)) eX4_kindFor_10 ⟨by decide, by decide⟩ kc_RX4_37 ?_
    obtain ⟨ob3, h⟩ := h
    refine pw_cV (z := mX4_finds) (av := [Iq (-1000001)]) (st := []) eX4_kindFor_12 lk_RX4_39 rfl (by decide) (by decide) sh34 rfl rfl (Nat.le_of_ble_eq_true rfl) rfl (ct_X4_finds' (mem := mem) ob3) ?_
    show PW S mX4_kindFor Q 15 [some (Aq 34), some (Iq x1), some (Iq x2), none, none, none, none, none] [Iq (-1000001)] (fnds mem (-1000001))
    exact pw_iret eX4_kindFor_15 h

set_option maxRecDepth 100000 in
theorem rg_X4_kindFor_32 {S : Sx} {Q : Option PV → Zm → Prop} {mem : Zm}   {x1 x2 x3 x4 x5 x6 : Int} 
    (h : (((6 < x6) → ((0 ≤ x1 ∧ x1 < 8) ∧ (0 ≤ 12 + 14 * x1 + 0 ∧ 12 + 14 * x1 + 0 < 134) ∧ Q (some (Iq x4)) (mup mem 35 (12 + 14 * x1 + 0).toNat x3))) ∧ (¬ (6 < x6) → ((0 ≤ x1 ∧ x1 < 8) ∧ (0 ≤ 12 + 14 * x1 + 0 ∧ 12 + 14 * x1 + 0 < 134) ∧ (0 ≤ x1 ∧ x1 < 8) ∧ (∃ (v7 : Int) (m8 : Zm), Ct1 S mX4_thenAt [Aq 34, Iq (12 + 14 * x1 + 3), Iq x2] (mup mem 35 (12 + 14 * x1 + 0).toNat x6) (some (Iq v7)) m8 ∧ ((((v7 ≤ x5) → ((in32 (x6 + 1)) ∧ PW S mX4_kindFor Q 32 [some (Aq 34), some (Iq x1), some (Iq x2), some (Iq x3), some (Iq x4), some (Iq (max x5 v7)), some (Iq (x6 + 1)), none] [] m8)) ∧ (¬ (v7 ≤ x5) → ((in32 (x6 + 1)) ∧ PW S mX4_kindFor Q 32 [some (Aq 34), some (Iq x1), some (Iq x2), some (Iq x3), some (Iq x6), some (Iq (max x5 v7)), some (Iq (x6 + 1)), none] [] m8))))))))) :
    PW S mX4_kindFor Q 32 [some (Aq 34), some (Iq x1), some (Iq x2), some (Iq x3), some (Iq x4), some (Iq x5), some (Iq x6), none] [] mem := by
  refine pw_iload eX4_kindFor_32 rfl ?_
  refine pw_bipush eX4_kindFor_34 ⟨by decide, by decide⟩ (by decide) ?_
  refine pw_icmp_gt eX4_kindFor_36 (fun c1 => ?_) (fun c1 => ?_)
  · have h := h.1 c1
    refine pw_aload_n eX4_kindFor_94 rfl rfl ?_
    refine gf_RX4_7 rfl eX4_kindFor_95 sh34 ?_
    refine pw_iload_n eX4_kindFor_98 rfl rfl ?_
    refine pw_iconst eX4_kindFor_99 ⟨by decide, by decide⟩ ?_
    obtain ⟨ob2, h⟩ := h
    refine pw_cS (z := mX4_at) (av := [Iq x1, Iq 0]) (st := [Aq 35]) eX4_kindFor_100 lk_RX4_59 rfl (by decide) (by decide) (Nat.le_of_ble_eq_true rfl) rfl (ct_X4_at (mem := mem) ⟨ob2.1, ob2.2, by decide, by decide⟩) ?_
    show PW S mX4_kindFor Q 103 [some (Aq 34), some (Iq x1), some (Iq x2), some (Iq x3), some (Iq x4), some (Iq x5), some (Iq x6), none] [Iq (12 + 14 * x1 + 0), Aq 35] mem
    refine pw_iload_n eX4_kindFor_103 rfl rfl ?_
    obtain ⟨ob3, h⟩ := h
    refine pw_iast eX4_kindFor_104 sh35 ob3 ?_
    refine pw_iload eX4_kindFor_105 rfl ?_
    exact pw_iret eX4_kindFor_107 h
  · have h := h.2 c1
    refine pw_aload_n eX4_kindFor_39 rfl rfl ?_
    refine gf_RX4_7 rfl eX4_kindFor_40 sh34 ?_
    refine pw_iload_n eX4_kindFor_43 rfl rfl ?_
    refine pw_iconst eX4_kindFor_44 ⟨by decide, by decide⟩ ?_
    obtain ⟨ob4, h⟩ := h
    refine pw_cS (z := mX4_at) (av := [Iq x1, Iq 0]) (st := [Aq 35]) eX4_kindFor_45 lk_RX4_59 rfl (by decide) (by decide) (Nat.le_of_ble_eq_true rfl) rfl (ct_X4_at (mem := mem) ⟨ob4.1, ob4.2, by decide, by decide⟩) ?_
    show PW S mX4_kindFor Q 48 [some (Aq 34), some (Iq x1), some (Iq x2), some (Iq x3), some (Iq x4), some (Iq x5), some (Iq x6), none] [Iq (12 + 14 * x1 + 0), Aq 35] mem
    refine pw_iload eX4_kindFor_48 rfl ?_
    obtain ⟨ob5, h⟩ := h
    refine pw_iast eX4_kindFor_50 sh35 ob5 ?_
    refine pw_aload_n eX4_kindFor_51 rfl rfl ?_
    refine pw_iload_n eX4_kindFor_52 rfl rfl ?_
    refine pw_iconst eX4_kindFor_53 ⟨by decide, by decide⟩ ?_
    obtain ⟨ob6, h⟩ := h
    refine pw_cS (z := mX4_at) (av := [Iq x1, Iq 3]) (st := [Aq 34]) eX4_kindFor_54 lk_RX4_59 rfl (by decide) (by decide) (Nat.le_of_ble_eq_true rfl) rfl (ct_X4_at (mem := mup mem 35 (12 + 14 * x1 + 0).toNat x6) ⟨ob6.1, ob6.2, by decide, by decide⟩) ?_
    show PW S mX4_kindFor Q 57 [some (Aq 34), some (Iq x1), some (Iq x2), some (Iq x3), some (Iq x4), some (Iq x5), some (Iq x6), none] [Iq (12 + 14 * x1 + 3), Aq 34] (mup mem 35 (12 + 14 * x1 + 0).toNat x6)
    refine pw_iload_n eX4_kindFor_57 rfl rfl ?_
    obtain ⟨v7, m8, hc9, h⟩ := h
    refine pw_cV (z := mX4_thenAt) (av := [Iq (12 + 14 * x1 + 3), Iq x2]) (st := []) eX4_kindFor_58 lk_RX4_158 rfl (by decide) (by decide) sh34 rfl rfl (Nat.le_of_ble_eq_true rfl) rfl hc9 ?_
    show PW S mX4_kindFor Q 61 [some (Aq 34), some (Iq x1), some (Iq x2), some (Iq x3), some (Iq x4), some (Iq x5), some (Iq x6), none] [Iq v7] m8
    refine pw_istore (ls2 := [some (Aq 34), some (Iq x1), some (Iq x2), some (Iq x3), some (Iq x4), some (Iq x5), some (Iq x6), some (Iq v7)]) eX4_kindFor_61 (by decide) rfl ?_
    refine pw_iload eX4_kindFor_63 rfl ?_
    refine pw_iload eX4_kindFor_65 rfl ?_
    refine pw_icmp_le eX4_kindFor_67 (fun c10 => ?_) (fun c10 => ?_)
    · have h := h.1 c10
      refine pw_iload eX4_kindFor_75 rfl ?_
      refine pw_istore (ls2 := [some (Aq 34), some (Iq x1), some (Iq x2), some (Iq x3), some (Iq x4), some (Iq x5), some (Iq x6), some (Iq v7)]) eX4_kindFor_77 (by decide) rfl ?_
      refine pw_iload eX4_kindFor_79 rfl ?_
      refine pw_iload eX4_kindFor_81 rfl ?_
      refine pw_cS (z := mX4_greatest) (av := [Iq x5, Iq v7]) (st := []) eX4_kindFor_83 lk_RX4_137 rfl (by decide) (by decide) (Nat.le_of_ble_eq_true rfl) rfl (ct_X4_greatest (mem := m8)) ?_
      show PW S mX4_kindFor Q 86 [some (Aq 34), some (Iq x1), some (Iq x2), some (Iq x3), some (Iq x4), some (Iq x5), some (Iq x6), some (Iq v7)] [Iq (max x5 v7)] m8
      refine pw_istore (ls2 := [some (Aq 34), some (Iq x1), some (Iq x2), some (Iq x3), some (Iq x4), some (Iq (max x5 v7)), some (Iq x6), some (Iq v7)]) eX4_kindFor_86 (by decide) rfl ?_
      obtain ⟨ob11, h⟩ := h
      refine pw_iinc (ls2 := [some (Aq 34), some (Iq x1), some (Iq x2), some (Iq x3), some (Iq x4), some (Iq (max x5 v7)), some (Iq (x6 + 1)), some (Iq v7)]) eX4_kindFor_88 rfl ob11 rfl ?_
      refine pw_goto eX4_kindFor_91 ?_
      exact pw_drop (bs := [true, true, true, true, true, true, true, false]) h
    · have h := h.2 c10
      refine pw_iload eX4_kindFor_70 rfl ?_
      refine pw_goto eX4_kindFor_72 ?_
      refine pw_istore (ls2 := [some (Aq 34), some (Iq x1), some (Iq x2), some (Iq x3), some (Iq x6), some (Iq x5), some (Iq x6), some (Iq v7)]) eX4_kindFor_77 (by decide) rfl ?_
      refine pw_iload eX4_kindFor_79 rfl ?_
      refine pw_iload eX4_kindFor_81 rfl ?_
      refine pw_cS (z := mX4_greatest) (av := [Iq x5, Iq v7]) (st := []) eX4_kindFor_83 lk_RX4_137 rfl (by decide) (by decide) (Nat.le_of_ble_eq_true rfl) rfl (ct_X4_greatest (mem := m8)) ?_
      show PW S mX4_kindFor Q 86 [some (Aq 34), some (Iq x1), some (Iq x2), some (Iq x3), some (Iq x6), some (Iq x5), some (Iq x6), some (Iq v7)] [Iq (max x5 v7)] m8
      refine pw_istore (ls2 := [some (Aq 34), some (Iq x1), some (Iq x2), some (Iq x3), some (Iq x6), some (Iq (max x5 v7)), some (Iq x6), some (Iq v7)]) eX4_kindFor_86 (by decide) rfl ?_
      obtain ⟨ob12, h⟩ := h
      refine pw_iinc (ls2 := [some (Aq 34), some (Iq x1), some (Iq x2), some (Iq x3), some (Iq x6), some (Iq (max x5 v7)), some (Iq (x6 + 1)), some (Iq v7)]) eX4_kindFor_88 rfl ob12 rfl ?_
      refine pw_goto eX4_kindFor_91 ?_
      exact pw_drop (bs := [true, true, true, true, true, true, true, false]) h
set_option maxRecDepth 100000 in
theorem rg_X4_learn_0 {S : Sx} {Q : Option PV → Zm → Prop} {mem : Zm}   {x1 x2 : Int} 
    (h : ((((0 ≤ x1 ∧ x1 < mem 35 0) ∧ (0 ≤ x2 ∧ x2 ≤ 20)) → ((0 ≤ x1 ∧ x1 < 8) ∧ PW S mX4_learn Q 32 [some (Aq 34), some (Iq x1), some (Iq x2), some (Iq (mem 35 (12 + 14 * (x1).toNat + 1))), some (Iq 0), some (Iq (-1)), some (Iq 0), none] [] mem)) ∧ (¬ ((0 ≤ x1 ∧ x1 < mem 35 0) ∧ (0 ≤ x2 ∧ x2 ≤ 20)) → ((fOK mem (-1000001)) ∧ Q (some (Iq (-1000001))) (fnds mem (-1000001)))))) :
    PW S mX4_learn Q 0 [some (Aq 34), some (Iq x1), some (Iq x2), none, none, none, none, none] [] mem := by
  refine pw_aload_n eX4_learn_0 rfl rfl ?_
  refine pw_iload_n eX4_learn_1 rfl rfl ?_
  refine pw_iload_n eX4_learn_2 rfl rfl ?_
  refine pw_cV (z := mX4_isAsked) (av := [Iq x1, Iq x2]) (st := []) eX4_learn_3 lk_RX4_163 rfl (by decide) (by decide) sh34 rfl rfl (Nat.le_of_ble_eq_true rfl) rfl (ct_X4_isAsked (mem := mem)) ?_
  show PW S mX4_learn Q 6 [some (Aq 34), some (Iq x1), some (Iq x2), none, none, none, none, none] [Iq (bI ((0 ≤ x1 ∧ x1 < mem 35 0) ∧ (0 ≤ x2 ∧ x2 ≤ 20)))] mem
  refine pw_if_ne eX4_learn_6 (fun c1 => ?_) (fun c1 => ?_)
  · have h := h.1 (bI1.mp c1)
    refine pw_aload_n eX4_learn_16 rfl rfl ?_
    refine pw_iload_n eX4_learn_17 rfl rfl ?_
    refine pw_iconst eX4_learn_18 ⟨by decide, by decide⟩ ?_
    obtain ⟨ob2, h⟩ := h
    refine pw_cV (z := mX4_its) (av := [Iq x1, Iq 1]) (st := []) eX4_learn_19 lk_RX4_71 rfl (by decide) (by decide) sh34 rfl rfl (Nat.le_of_ble_eq_true rfl) rfl (ct_X4_its (mem := mem) ⟨ob2.1, ob2.2, by decide, by decide⟩) ?_
    show PW S mX4_learn Q 22 [some (Aq 34), some (Iq x1), some (Iq x2), none, none, none, none, none] [Iq (mem 35 (12 + 14 * (x1).toNat + 1))] mem
    refine pw_istore_n (ls2 := [some (Aq 34), some (Iq x1), some (Iq x2), some (Iq (mem 35 (12 + 14 * (x1).toNat + 1))), none, none, none, none]) eX4_learn_22 rfl (by decide) rfl ?_
    refine pw_iconst eX4_learn_23 ⟨by decide, by decide⟩ ?_
    refine pw_istore (ls2 := [some (Aq 34), some (Iq x1), some (Iq x2), some (Iq (mem 35 (12 + 14 * (x1).toNat + 1))), some (Iq 0), none, none, none]) eX4_learn_24 (by decide) rfl ?_
    refine pw_iconst eX4_learn_26 ⟨by decide, by decide⟩ ?_
    refine pw_istore (ls2 := [some (Aq 34), some (Iq x1), some (Iq x2), some (Iq (mem 35 (12 + 14 * (x1).toNat + 1))), some (Iq 0), some (Iq (-1)), none, none]) eX4_learn_27 (by decide) rfl ?_
    refine pw_iconst eX4_learn_29 ⟨by decide, by decide⟩ ?_
    refine pw_istore (ls2 := [some (Aq 34), some (Iq x1), some (Iq x2), some (Iq (mem 35 (12 + 14 * (x1).toNat + 1))), some (Iq 0), some (Iq (-1)), some (Iq 0), none]) eX4_learn_30 (by decide) rfl ?_
    exact h
  · have h := h.2 (bI0.mp (Classical.not_not.mp c1))
    refine pw_aload_n eX4_learn_9 rfl rfl ?_
    refine pw_ldc (n := (-1000001)) eX4_learn_10 ⟨by decide, by decide⟩ kc_RX4_37 ?_
    obtain ⟨ob3, h⟩ := h
    refine pw_cV (z := mX4_finds) (av := [Iq (-1000001)]) (st := []) eX4_learn_12 lk_RX4_39 rfl (by decide) (by decide) sh34 rfl rfl (Nat.le_of_ble_eq_true rfl) rfl (ct_X4_finds' (mem := mem) ob3) ?_
    show PW S mX4_learn Q 15 [some (Aq 34), some (Iq x1), some (Iq x2), none, none, none, none, none] [Iq (-1000001)] (fnds mem (-1000001))
    exact pw_iret eX4_learn_15 h

set_option maxRecDepth 100000 in
theorem rg_X4_learn_32 {S : Sx} {Q : Option PV → Zm → Prop} {mem : Zm}   {x1 x2 x3 x4 x5 x6 : Int} 
    (h : (((8 ≤ x6) → ((0 ≤ x1 ∧ x1 < 8) ∧ (0 ≤ 12 + 14 * x1 + 1 ∧ 12 + 14 * x1 + 1 < 134) ∧ Q (some (Iq x4)) (mup mem 35 (12 + 14 * x1 + 1).toNat x3))) ∧ (¬ (8 ≤ x6) → ((0 ≤ x1 ∧ x1 < 8) ∧ (0 ≤ 12 + 14 * x1 + 1 ∧ 12 + 14 * x1 + 1 < 134) ∧ (0 ≤ x1 ∧ x1 < 8) ∧ (∃ (v7 : Int) (m8 : Zm), Ct1 S mX4_thenAt [Aq 34, Iq (12 + 14 * x1 + 3), Iq x2] (mup mem 35 (12 + 14 * x1 + 1).toNat (bOr x3 (bShl 1 x6))) (some (Iq v7)) m8 ∧ ((((v7 ≤ x5) → ((in32 (x6 + 1)) ∧ PW S mX4_learn Q 32 [some (Aq 34), some (Iq x1), some (Iq x2), some (Iq x3), some (Iq x4), some (Iq (max x5 v7)), some (Iq (x6 + 1)), none] [] m8)) ∧ (¬ (v7 ≤ x5) → ((in32 (x6 + 1)) ∧ PW S mX4_learn Q 32 [some (Aq 34), some (Iq x1), some (Iq x2), some (Iq x3), some (Iq x6), some (Iq (max x5 v7)), some (Iq (x6 + 1)), none] [] m8))))))))) :
    PW S mX4_learn Q 32 [some (Aq 34), some (Iq x1), some (Iq x2), some (Iq x3), some (Iq x4), some (Iq x5), some (Iq x6), none] [] mem := by
  refine pw_iload eX4_learn_32 rfl ?_
  refine pw_bipush eX4_learn_34 ⟨by decide, by decide⟩ (by decide) ?_
  refine pw_icmp_ge eX4_learn_36 (fun c1 => ?_) (fun c1 => ?_)
  · have h := h.1 c1
    refine pw_aload_n eX4_learn_98 rfl rfl ?_
    refine gf_RX4_7 rfl eX4_learn_99 sh34 ?_
    refine pw_iload_n eX4_learn_102 rfl rfl ?_
    refine pw_iconst eX4_learn_103 ⟨by decide, by decide⟩ ?_
    obtain ⟨ob2, h⟩ := h
    refine pw_cS (z := mX4_at) (av := [Iq x1, Iq 1]) (st := [Aq 35]) eX4_learn_104 lk_RX4_59 rfl (by decide) (by decide) (Nat.le_of_ble_eq_true rfl) rfl (ct_X4_at (mem := mem) ⟨ob2.1, ob2.2, by decide, by decide⟩) ?_
    show PW S mX4_learn Q 107 [some (Aq 34), some (Iq x1), some (Iq x2), some (Iq x3), some (Iq x4), some (Iq x5), some (Iq x6), none] [Iq (12 + 14 * x1 + 1), Aq 35] mem
    refine pw_iload_n eX4_learn_107 rfl rfl ?_
    obtain ⟨ob3, h⟩ := h
    refine pw_iast eX4_learn_108 sh35 ob3 ?_
    refine pw_iload eX4_learn_109 rfl ?_
    exact pw_iret eX4_learn_111 h
  · have h := h.2 c1
    refine pw_aload_n eX4_learn_39 rfl rfl ?_
    refine gf_RX4_7 rfl eX4_learn_40 sh34 ?_
    refine pw_iload_n eX4_learn_43 rfl rfl ?_
    refine pw_iconst eX4_learn_44 ⟨by decide, by decide⟩ ?_
    obtain ⟨ob4, h⟩ := h
    refine pw_cS (z := mX4_at) (av := [Iq x1, Iq 1]) (st := [Aq 35]) eX4_learn_45 lk_RX4_59 rfl (by decide) (by decide) (Nat.le_of_ble_eq_true rfl) rfl (ct_X4_at (mem := mem) ⟨ob4.1, ob4.2, by decide, by decide⟩) ?_
    show PW S mX4_learn Q 48 [some (Aq 34), some (Iq x1), some (Iq x2), some (Iq x3), some (Iq x4), some (Iq x5), some (Iq x6), none] [Iq (12 + 14 * x1 + 1), Aq 35] mem
    refine pw_iload_n eX4_learn_48 rfl rfl ?_
    refine pw_iconst eX4_learn_49 ⟨by decide, by decide⟩ ?_
    refine pw_iload eX4_learn_50 rfl ?_
    refine pw_ishl eX4_learn_52 ?_
    refine pw_ior eX4_learn_53 ?_
    obtain ⟨ob5, h⟩ := h
    refine pw_iast eX4_learn_54 sh35 ob5 ?_
    refine pw_aload_n eX4_learn_55 rfl rfl ?_
    refine pw_iload_n eX4_learn_56 rfl rfl ?_
    refine pw_iconst eX4_learn_57 ⟨by decide, by decide⟩ ?_
    obtain ⟨ob6, h⟩ := h
    refine pw_cS (z := mX4_at) (av := [Iq x1, Iq 3]) (st := [Aq 34]) eX4_learn_58 lk_RX4_59 rfl (by decide) (by decide) (Nat.le_of_ble_eq_true rfl) rfl (ct_X4_at (mem := mup mem 35 (12 + 14 * x1 + 1).toNat (bOr x3 (bShl 1 x6))) ⟨ob6.1, ob6.2, by decide, by decide⟩) ?_
    show PW S mX4_learn Q 61 [some (Aq 34), some (Iq x1), some (Iq x2), some (Iq x3), some (Iq x4), some (Iq x5), some (Iq x6), none] [Iq (12 + 14 * x1 + 3), Aq 34] (mup mem 35 (12 + 14 * x1 + 1).toNat (bOr x3 (bShl 1 x6)))
    refine pw_iload_n eX4_learn_61 rfl rfl ?_
    obtain ⟨v7, m8, hc9, h⟩ := h
    refine pw_cV (z := mX4_thenAt) (av := [Iq (12 + 14 * x1 + 3), Iq x2]) (st := []) eX4_learn_62 lk_RX4_158 rfl (by decide) (by decide) sh34 rfl rfl (Nat.le_of_ble_eq_true rfl) rfl hc9 ?_
    show PW S mX4_learn Q 65 [some (Aq 34), some (Iq x1), some (Iq x2), some (Iq x3), some (Iq x4), some (Iq x5), some (Iq x6), none] [Iq v7] m8
    refine pw_istore (ls2 := [some (Aq 34), some (Iq x1), some (Iq x2), some (Iq x3), some (Iq x4), some (Iq x5), some (Iq x6), some (Iq v7)]) eX4_learn_65 (by decide) rfl ?_
    refine pw_iload eX4_learn_67 rfl ?_
    refine pw_iload eX4_learn_69 rfl ?_
    refine pw_icmp_le eX4_learn_71 (fun c10 => ?_) (fun c10 => ?_)
    · have h := h.1 c10
      refine pw_iload eX4_learn_79 rfl ?_
      refine pw_istore (ls2 := [some (Aq 34), some (Iq x1), some (Iq x2), some (Iq x3), some (Iq x4), some (Iq x5), some (Iq x6), some (Iq v7)]) eX4_learn_81 (by decide) rfl ?_
      refine pw_iload eX4_learn_83 rfl ?_
      refine pw_iload eX4_learn_85 rfl ?_
      refine pw_cS (z := mX4_greatest) (av := [Iq x5, Iq v7]) (st := []) eX4_learn_87 lk_RX4_137 rfl (by decide) (by decide) (Nat.le_of_ble_eq_true rfl) rfl (ct_X4_greatest (mem := m8)) ?_
      show PW S mX4_learn Q 90 [some (Aq 34), some (Iq x1), some (Iq x2), some (Iq x3), some (Iq x4), some (Iq x5), some (Iq x6), some (Iq v7)] [Iq (max x5 v7)] m8
      refine pw_istore (ls2 := [some (Aq 34), some (Iq x1), some (Iq x2), some (Iq x3), some (Iq x4), some (Iq (max x5 v7)), some (Iq x6), some (Iq v7)]) eX4_learn_90 (by decide) rfl ?_
      obtain ⟨ob11, h⟩ := h
      refine pw_iinc (ls2 := [some (Aq 34), some (Iq x1), some (Iq x2), some (Iq x3), some (Iq x4), some (Iq (max x5 v7)), some (Iq (x6 + 1)), some (Iq v7)]) eX4_learn_92 rfl ob11 rfl ?_
      refine pw_goto eX4_learn_95 ?_
      exact pw_drop (bs := [true, true, true, true, true, true, true, false]) h
    · have h := h.2 c10
      refine pw_iload eX4_learn_74 rfl ?_
      refine pw_goto eX4_learn_76 ?_
      refine pw_istore (ls2 := [some (Aq 34), some (Iq x1), some (Iq x2), some (Iq x3), some (Iq x6), some (Iq x5), some (Iq x6), some (Iq v7)]) eX4_learn_81 (by decide) rfl ?_
      refine pw_iload eX4_learn_83 rfl ?_
      refine pw_iload eX4_learn_85 rfl ?_
      refine pw_cS (z := mX4_greatest) (av := [Iq x5, Iq v7]) (st := []) eX4_learn_87 lk_RX4_137 rfl (by decide) (by decide) (Nat.le_of_ble_eq_true rfl) rfl (ct_X4_greatest (mem := m8)) ?_
      show PW S mX4_learn Q 90 [some (Aq 34), some (Iq x1), some (Iq x2), some (Iq x3), some (Iq x6), some (Iq x5), some (Iq x6), some (Iq v7)] [Iq (max x5 v7)] m8
      refine pw_istore (ls2 := [some (Aq 34), some (Iq x1), some (Iq x2), some (Iq x3), some (Iq x6), some (Iq (max x5 v7)), some (Iq x6), some (Iq v7)]) eX4_learn_90 (by decide) rfl ?_
      obtain ⟨ob12, h⟩ := h
      refine pw_iinc (ls2 := [some (Aq 34), some (Iq x1), some (Iq x2), some (Iq x3), some (Iq x6), some (Iq (max x5 v7)), some (Iq (x6 + 1)), some (Iq v7)]) eX4_learn_92 rfl ob12 rfl ?_
      refine pw_goto eX4_learn_95 ?_
      exact pw_drop (bs := [true, true, true, true, true, true, true, false]) h
set_option maxRecDepth 100000 in
theorem rg_X4_limitFor_0 {S : Sx} {Q : Option PV → Zm → Prop} {mem : Zm}   {x1 : Int} 
    (h : (((0 ≤ x1 ∧ x1 ≤ 20) → ((OKA (mem 35)) ∧ PW S mX4_limitFor Q 41 [some (Aq 34), some (Iq x1), some (Iq (sumA (mem 35) 5 (nA (mem 35)))), some (Iq (-1)), some (Iq 1)] [] (cprow mem 35 38))) ∧ (¬ (0 ≤ x1 ∧ x1 ≤ 20) → ((fOK mem (-1000001)) ∧ Q (some (Iq (-1000001))) (fnds mem (-1000001)))))) :
    PW S mX4_limitFor Q 0 [some (Aq 34), some (Iq x1), none, none, none] [] mem := by
  refine pw_iload_n eX4_limitFor_0 rfl rfl ?_
  refine pw_i2l eX4_limitFor_1 ?_
  refine pw_lconst (v := 0) eX4_limitFor_2 ⟨by decide, by decide⟩ rfl ?_
  refine pw_ldc2 (n := 20) eX4_limitFor_3 ⟨by decide, by decide⟩ kc_RX4_161 ?_
  refine pw_cS (z := mX4_isIn) (av := [Jq x1, Jq 0, Jq 20]) (st := []) eX4_limitFor_6 lk_RX4_49 rfl (by decide) (by decide) (Nat.le_of_ble_eq_true rfl) rfl (ct_X4_isIn (mem := mem)) ?_
  show PW S mX4_limitFor Q 9 [some (Aq 34), some (Iq x1), none, none, none] [Iq (bI (0 ≤ x1 ∧ x1 ≤ 20))] mem
  refine pw_if_ne eX4_limitFor_9 (fun c1 => ?_) (fun c1 => ?_)
  · have h := h.1 (bI1.mp c1)
    refine pw_aload_n eX4_limitFor_19 rfl rfl ?_
    refine pw_iconst eX4_limitFor_20 ⟨by decide, by decide⟩ ?_
    obtain ⟨ob2, h⟩ := h
    refine pw_cV (z := mX4_sumOf) (av := [Iq 5]) (st := []) eX4_limitFor_21 lk_RX4_134 rfl (by decide) (by decide) sh34 rfl rfl (Nat.le_of_ble_eq_true rfl) rfl (ct_X4_sumOf (mem := mem) ⟨ob2, by decide, by decide⟩) ?_
    show PW S mX4_limitFor Q 24 [some (Aq 34), some (Iq x1), none, none, none] [Iq (sumA (mem 35) 5 (nA (mem 35)))] mem
    refine pw_istore_n (ls2 := [some (Aq 34), some (Iq x1), some (Iq (sumA (mem 35) 5 (nA (mem 35)))), none, none]) eX4_limitFor_24 rfl (by decide) rfl ?_
    refine pw_iconst eX4_limitFor_25 ⟨by decide, by decide⟩ ?_
    refine pw_istore_n (ls2 := [some (Aq 34), some (Iq x1), some (Iq (sumA (mem 35) 5 (nA (mem 35)))), some (Iq (-1)), none]) eX4_limitFor_26 rfl (by decide) rfl ?_
    refine pw_aload_n eX4_limitFor_27 rfl rfl ?_
    refine gf_RX4_7 rfl eX4_limitFor_28 sh34 ?_
    refine pw_aload_n eX4_limitFor_31 rfl rfl ?_
    refine gf_RX4_19 rfl eX4_limitFor_32 sh34 ?_
    refine pw_cS (z := mX4_copyRow) (av := [Aq 35, Aq 38]) (st := []) eX4_limitFor_35 lk_RX4_150 rfl (by decide) (by decide) (Nat.le_of_ble_eq_true rfl) rfl (ct_X4_copyRow (mem := mem) sh35 sh38 (by decide)) ?_
    show PW S mX4_limitFor Q 38 [some (Aq 34), some (Iq x1), some (Iq (sumA (mem 35) 5 (nA (mem 35)))), some (Iq (-1)), none] [] (cprow mem 35 38)
    refine pw_iconst eX4_limitFor_38 ⟨by decide, by decide⟩ ?_
    refine pw_istore (ls2 := [some (Aq 34), some (Iq x1), some (Iq (sumA (mem 35) 5 (nA (mem 35)))), some (Iq (-1)), some (Iq 1)]) eX4_limitFor_39 (by decide) rfl ?_
    exact h
  · have h := h.2 (bI0.mp (Classical.not_not.mp c1))
    refine pw_aload_n eX4_limitFor_12 rfl rfl ?_
    refine pw_ldc (n := (-1000001)) eX4_limitFor_13 ⟨by decide, by decide⟩ kc_RX4_37 ?_
    obtain ⟨ob3, h⟩ := h
    refine pw_cV (z := mX4_finds) (av := [Iq (-1000001)]) (st := []) eX4_limitFor_15 lk_RX4_39 rfl (by decide) (by decide) sh34 rfl rfl (Nat.le_of_ble_eq_true rfl) rfl (ct_X4_finds' (mem := mem) ob3) ?_
    show PW S mX4_limitFor Q 18 [some (Aq 34), some (Iq x1), none, none, none] [Iq (-1000001)] (fnds mem (-1000001))
    exact pw_iret eX4_limitFor_18 h

set_option maxRecDepth 100000 in
theorem rg_X4_limitFor_41 {S : Sx} {Q : Option PV → Zm → Prop} {mem : Zm}   {x1 x2 x3 x4 : Int} 
    (h : (((9 < x4) → ((∃ (v2 : Int) (m3 : Zm), Ct1 S mX4_orNone [Aq 34, Iq x3] mem (some (Iq v2)) m3 ∧ (Q (some (Iq v2)) m3)))) ∧ (¬ (9 < x4) → ((((0 ≤ x3) → ((∃ (v6 : Int) (m7 : Zm), Ct1 S mX4_orNone [Aq 34, Iq x3] mem (some (Iq v6)) m7 ∧ (Q (some (Iq v6)) m7)))) ∧ (¬ (0 ≤ x3) → ((∃ (v9 : Int) (m10 : Zm), Ct1 S mX4_caughtThen [Aq 34, Iq x1] (mup mem 35 3 x4) (some (Iq v9)) m10 ∧ ((((v9 = x2) → ((in32 (x4 + 1)) ∧ PW S mX4_limitFor Q 41 [some (Aq 34), some (Iq x1), some (Iq x2), some (Iq x4), some (Iq (x4 + 1))] [] (cprow m10 38 35))) ∧ (¬ (v9 = x2) → ((in32 (x4 + 1)) ∧ PW S mX4_limitFor Q 41 [some (Aq 34), some (Iq x1), some (Iq x2), some (Iq (-1)), some (Iq (x4 + 1))] [] (cprow m10 38 35))))))))))))) :
    PW S mX4_limitFor Q 41 [some (Aq 34), some (Iq x1), some (Iq x2), some (Iq x3), some (Iq x4)] [] mem := by
  refine pw_iload eX4_limitFor_41 rfl ?_
  refine pw_bipush eX4_limitFor_43 ⟨by decide, by decide⟩ (by decide) ?_
  refine pw_icmp_gt eX4_limitFor_45 (fun c1 => ?_) (fun c1 => ?_)
  · have h := h.1 c1
    refine pw_aload_n eX4_limitFor_93 rfl rfl ?_
    refine pw_iload_n eX4_limitFor_94 rfl rfl ?_
    obtain ⟨v2, m3, hc4, h⟩ := h
    refine pw_cV (z := mX4_orNone) (av := [Iq x3]) (st := []) eX4_limitFor_95 lk_RX4_170 rfl (by decide) (by decide) sh34 rfl rfl (Nat.le_of_ble_eq_true rfl) rfl hc4 ?_
    show PW S mX4_limitFor Q 98 [some (Aq 34), some (Iq x1), some (Iq x2), some (Iq x3), some (Iq x4)] [Iq v2] m3
    exact pw_iret eX4_limitFor_98 h
  · have h := h.2 c1
    refine pw_iload_n eX4_limitFor_48 rfl rfl ?_
    refine pw_if_ge eX4_limitFor_49 (fun c5 => ?_) (fun c5 => ?_)
    · have h := h.1 c5
      refine pw_aload_n eX4_limitFor_93 rfl rfl ?_
      refine pw_iload_n eX4_limitFor_94 rfl rfl ?_
      obtain ⟨v6, m7, hc8, h⟩ := h
      refine pw_cV (z := mX4_orNone) (av := [Iq x3]) (st := []) eX4_limitFor_95 lk_RX4_170 rfl (by decide) (by decide) sh34 rfl rfl (Nat.le_of_ble_eq_true rfl) rfl hc8 ?_
      show PW S mX4_limitFor Q 98 [some (Aq 34), some (Iq x1), some (Iq x2), some (Iq x3), some (Iq x4)] [Iq v6] m7
      exact pw_iret eX4_limitFor_98 h
    · have h := h.2 c5
      refine pw_aload_n eX4_limitFor_52 rfl rfl ?_
      refine gf_RX4_7 rfl eX4_limitFor_53 sh34 ?_
      refine pw_iconst eX4_limitFor_56 ⟨by decide, by decide⟩ ?_
      refine pw_iload eX4_limitFor_57 rfl ?_
      refine pw_iast eX4_limitFor_59 sh35 (by decide) ?_
      refine pw_aload_n eX4_limitFor_60 rfl rfl ?_
      refine pw_iload_n eX4_limitFor_61 rfl rfl ?_
      obtain ⟨v9, m10, hc11, h⟩ := h
      refine pw_cV (z := mX4_caughtThen) (av := [Iq x1]) (st := []) eX4_limitFor_62 lk_RX4_167 rfl (by decide) (by decide) sh34 rfl rfl (Nat.le_of_ble_eq_true rfl) rfl hc11 ?_
      show PW S mX4_limitFor Q 65 [some (Aq 34), some (Iq x1), some (Iq x2), some (Iq x3), some (Iq x4)] [Iq v9] m10
      refine pw_iload_n eX4_limitFor_65 rfl rfl ?_
      refine pw_icmp_ne eX4_limitFor_66 (fun c12 => ?_) (fun c12 => ?_)
      · have h := h.2 c12
        refine pw_iconst eX4_limitFor_74 ⟨by decide, by decide⟩ ?_
        refine pw_istore_n (ls2 := [some (Aq 34), some (Iq x1), some (Iq x2), some (Iq (-1)), some (Iq x4)]) eX4_limitFor_75 rfl (by decide) rfl ?_
        refine pw_aload_n eX4_limitFor_76 rfl rfl ?_
        refine gf_RX4_19 rfl eX4_limitFor_77 sh34 ?_
        refine pw_aload_n eX4_limitFor_80 rfl rfl ?_
        refine gf_RX4_7 rfl eX4_limitFor_81 sh34 ?_
        refine pw_cS (z := mX4_copyRow) (av := [Aq 38, Aq 35]) (st := []) eX4_limitFor_84 lk_RX4_150 rfl (by decide) (by decide) (Nat.le_of_ble_eq_true rfl) rfl (ct_X4_copyRow (mem := m10) sh38 sh35 (by decide)) ?_
        show PW S mX4_limitFor Q 87 [some (Aq 34), some (Iq x1), some (Iq x2), some (Iq (-1)), some (Iq x4)] [] (cprow m10 38 35)
        obtain ⟨ob13, h⟩ := h
        refine pw_iinc (ls2 := [some (Aq 34), some (Iq x1), some (Iq x2), some (Iq (-1)), some (Iq (x4 + 1))]) eX4_limitFor_87 rfl ob13 rfl ?_
        refine pw_goto eX4_limitFor_90 ?_
        exact h
      · have h := h.1 (Classical.not_not.mp c12)
        refine pw_iload eX4_limitFor_69 rfl ?_
        refine pw_goto eX4_limitFor_71 ?_
        refine pw_istore_n (ls2 := [some (Aq 34), some (Iq x1), some (Iq x2), some (Iq x4), some (Iq x4)]) eX4_limitFor_75 rfl (by decide) rfl ?_
        refine pw_aload_n eX4_limitFor_76 rfl rfl ?_
        refine gf_RX4_19 rfl eX4_limitFor_77 sh34 ?_
        refine pw_aload_n eX4_limitFor_80 rfl rfl ?_
        refine gf_RX4_7 rfl eX4_limitFor_81 sh34 ?_
        refine pw_cS (z := mX4_copyRow) (av := [Aq 38, Aq 35]) (st := []) eX4_limitFor_84 lk_RX4_150 rfl (by decide) (by decide) (Nat.le_of_ble_eq_true rfl) rfl (ct_X4_copyRow (mem := m10) sh38 sh35 (by decide)) ?_
        show PW S mX4_limitFor Q 87 [some (Aq 34), some (Iq x1), some (Iq x2), some (Iq x4), some (Iq x4)] [] (cprow m10 38 35)
        obtain ⟨ob14, h⟩ := h
        refine pw_iinc (ls2 := [some (Aq 34), some (Iq x1), some (Iq x2), some (Iq x4), some (Iq (x4 + 1))]) eX4_limitFor_87 rfl ob14 rfl ?_
        refine pw_goto eX4_limitFor_90 ?_
        exact h
set_option maxRecDepth 100000 in
theorem rg_X4_forbid_0 {S : Sx} {Q : Option PV → Zm → Prop} {mem : Zm}   {x1 : Int} 
    (h : (((0 ≤ x1 ∧ x1 ≤ 12) → ((OKA (mem 35)) ∧ PW S mX4_forbid Q 41 [some (Aq 34), some (Iq x1), some (Iq (sumA (mem 35) 5 (nA (mem 35)))), some (Iq (-1)), some (Iq 0), none, none] [] (cprow mem 35 38))) ∧ (¬ (0 ≤ x1 ∧ x1 ≤ 12) → ((fOK mem (-1000001)) ∧ Q (some (Iq (-1000001))) (fnds mem (-1000001)))))) :
    PW S mX4_forbid Q 0 [some (Aq 34), some (Iq x1), none, none, none, none, none] [] mem := by
  refine pw_iload_n eX4_forbid_0 rfl rfl ?_
  refine pw_i2l eX4_forbid_1 ?_
  refine pw_lconst (v := 0) eX4_forbid_2 ⟨by decide, by decide⟩ rfl ?_
  refine pw_ldc2 (n := 12) eX4_forbid_3 ⟨by decide, by decide⟩ kc_RX4_173 ?_
  refine pw_cS (z := mX4_isIn) (av := [Jq x1, Jq 0, Jq 12]) (st := []) eX4_forbid_6 lk_RX4_49 rfl (by decide) (by decide) (Nat.le_of_ble_eq_true rfl) rfl (ct_X4_isIn (mem := mem)) ?_
  show PW S mX4_forbid Q 9 [some (Aq 34), some (Iq x1), none, none, none, none, none] [Iq (bI (0 ≤ x1 ∧ x1 ≤ 12))] mem
  refine pw_if_ne eX4_forbid_9 (fun c1 => ?_) (fun c1 => ?_)
  · have h := h.1 (bI1.mp c1)
    refine pw_aload_n eX4_forbid_19 rfl rfl ?_
    refine pw_iconst eX4_forbid_20 ⟨by decide, by decide⟩ ?_
    obtain ⟨ob2, h⟩ := h
    refine pw_cV (z := mX4_sumOf) (av := [Iq 5]) (st := []) eX4_forbid_21 lk_RX4_134 rfl (by decide) (by decide) sh34 rfl rfl (Nat.le_of_ble_eq_true rfl) rfl (ct_X4_sumOf (mem := mem) ⟨ob2, by decide, by decide⟩) ?_
    show PW S mX4_forbid Q 24 [some (Aq 34), some (Iq x1), none, none, none, none, none] [Iq (sumA (mem 35) 5 (nA (mem 35)))] mem
    refine pw_istore_n (ls2 := [some (Aq 34), some (Iq x1), some (Iq (sumA (mem 35) 5 (nA (mem 35)))), none, none, none, none]) eX4_forbid_24 rfl (by decide) rfl ?_
    refine pw_iconst eX4_forbid_25 ⟨by decide, by decide⟩ ?_
    refine pw_istore_n (ls2 := [some (Aq 34), some (Iq x1), some (Iq (sumA (mem 35) 5 (nA (mem 35)))), some (Iq (-1)), none, none, none]) eX4_forbid_26 rfl (by decide) rfl ?_
    refine pw_aload_n eX4_forbid_27 rfl rfl ?_
    refine gf_RX4_7 rfl eX4_forbid_28 sh34 ?_
    refine pw_aload_n eX4_forbid_31 rfl rfl ?_
    refine gf_RX4_19 rfl eX4_forbid_32 sh34 ?_
    refine pw_cS (z := mX4_copyRow) (av := [Aq 35, Aq 38]) (st := []) eX4_forbid_35 lk_RX4_150 rfl (by decide) (by decide) (Nat.le_of_ble_eq_true rfl) rfl (ct_X4_copyRow (mem := mem) sh35 sh38 (by decide)) ?_
    show PW S mX4_forbid Q 38 [some (Aq 34), some (Iq x1), some (Iq (sumA (mem 35) 5 (nA (mem 35)))), some (Iq (-1)), none, none, none] [] (cprow mem 35 38)
    refine pw_iconst eX4_forbid_38 ⟨by decide, by decide⟩ ?_
    refine pw_istore (ls2 := [some (Aq 34), some (Iq x1), some (Iq (sumA (mem 35) 5 (nA (mem 35)))), some (Iq (-1)), some (Iq 0), none, none]) eX4_forbid_39 (by decide) rfl ?_
    exact h
  · have h := h.2 (bI0.mp (Classical.not_not.mp c1))
    refine pw_aload_n eX4_forbid_12 rfl rfl ?_
    refine pw_ldc (n := (-1000001)) eX4_forbid_13 ⟨by decide, by decide⟩ kc_RX4_37 ?_
    obtain ⟨ob3, h⟩ := h
    refine pw_cV (z := mX4_finds) (av := [Iq (-1000001)]) (st := []) eX4_forbid_15 lk_RX4_39 rfl (by decide) (by decide) sh34 rfl rfl (Nat.le_of_ble_eq_true rfl) rfl (ct_X4_finds' (mem := mem) ob3) ?_
    show PW S mX4_forbid Q 18 [some (Aq 34), some (Iq x1), none, none, none, none, none] [Iq (-1000001)] (fnds mem (-1000001))
    exact pw_iret eX4_forbid_18 h

set_option maxRecDepth 100000 in
theorem rg_X4_forbid_41 {S : Sx} {Q : Option PV → Zm → Prop} {mem : Zm}   {x1 x2 x3 x4 : Int} 
    (h : (((bShl 1 (mem 35 0) ≤ x4) → (Q (some (Iq x3)) mem)) ∧ (¬ (bShl 1 (mem 35 0) ≤ x4) → ((((x3 < 0) → (PW S mX4_forbid Q 73 [some (Aq 34), some (Iq x1), some (Iq x2), some (Iq x3), some (Iq x4), some (Iq 0), none] [] mem)) ∧ (¬ (x3 < 0) → ((0 ≤ x4 ∧ x4 < 256) ∧ (0 ≤ x3 ∧ x3 < 256) ∧ (((pcn x3 ≤ pcn x4) → ((in32 (x4 + 1)) ∧ PW S mX4_forbid Q 41 [some (Aq 34), some (Iq x1), some (Iq x2), some (Iq x3), some (Iq (x4 + 1)), none, none] [] mem)) ∧ (¬ (pcn x3 ≤ pcn x4) → (PW S mX4_forbid Q 73 [some (Aq 34), some (Iq x1), some (Iq x2), some (Iq x3), some (Iq x4), some (Iq 0), none] [] mem)))))))))) :
    PW S mX4_forbid Q 41 [some (Aq 34), some (Iq x1), some (Iq x2), some (Iq x3), some (Iq x4), none, none] [] mem := by
  refine pw_iload eX4_forbid_41 rfl ?_
  refine pw_iconst eX4_forbid_43 ⟨by decide, by decide⟩ ?_
  refine pw_aload_n eX4_forbid_44 rfl rfl ?_
  refine gf_RX4_7 rfl eX4_forbid_45 sh34 ?_
  refine pw_iconst eX4_forbid_48 ⟨by decide, by decide⟩ ?_
  refine pw_iald eX4_forbid_49 sh35 (by decide) ?_
  refine pw_ishl eX4_forbid_50 ?_
  refine pw_icmp_ge eX4_forbid_51 (fun c1 => ?_) (fun c1 => ?_)
  · have h := h.1 c1
    refine pw_iload_n eX4_forbid_165 rfl rfl ?_
    exact pw_iret eX4_forbid_166 h
  · have h := h.2 c1
    refine pw_iload_n eX4_forbid_54 rfl rfl ?_
    refine pw_if_lt eX4_forbid_55 (fun c2 => ?_) (fun c2 => ?_)
    · have h := h.1 c2
      refine pw_iconst eX4_forbid_70 ⟨by decide, by decide⟩ ?_
      refine pw_istore (ls2 := [some (Aq 34), some (Iq x1), some (Iq x2), some (Iq x3), some (Iq x4), some (Iq 0), none]) eX4_forbid_71 (by decide) rfl ?_
      exact h
    · have h := h.2 c2
      refine pw_iload eX4_forbid_58 rfl ?_
      obtain ⟨ob3, h⟩ := h
      refine pw_cS (z := mX4_many) (av := [Iq x4]) (st := []) eX4_forbid_60 lk_RX4_111 rfl (by decide) (by decide) (Nat.le_of_ble_eq_true rfl) rfl (ct_X4_many (mem := mem) ob3) ?_
      show PW S mX4_forbid Q 63 [some (Aq 34), some (Iq x1), some (Iq x2), some (Iq x3), some (Iq x4), none, none] [Iq (pcn x4)] mem
      refine pw_iload_n eX4_forbid_63 rfl rfl ?_
      obtain ⟨ob4, h⟩ := h
      refine pw_cS (z := mX4_many) (av := [Iq x3]) (st := [Iq (pcn x4)]) eX4_forbid_64 lk_RX4_111 rfl (by decide) (by decide) (Nat.le_of_ble_eq_true rfl) rfl (ct_X4_many (mem := mem) ob4) ?_
      show PW S mX4_forbid Q 67 [some (Aq 34), some (Iq x1), some (Iq x2), some (Iq x3), some (Iq x4), none, none] [Iq (pcn x3), Iq (pcn x4)] mem
      refine pw_icmp_ge eX4_forbid_67 (fun c5 => ?_) (fun c5 => ?_)
      · have h := h.1 c5
        obtain ⟨ob6, h⟩ := h
        refine pw_iinc (ls2 := [some (Aq 34), some (Iq x1), some (Iq x2), some (Iq x3), some (Iq (x4 + 1)), none, none]) eX4_forbid_159 rfl ob6 rfl ?_
        refine pw_goto eX4_forbid_162 ?_
        exact h
      · have h := h.2 c5
        refine pw_iconst eX4_forbid_70 ⟨by decide, by decide⟩ ?_
        refine pw_istore (ls2 := [some (Aq 34), some (Iq x1), some (Iq x2), some (Iq x3), some (Iq x4), some (Iq 0), none]) eX4_forbid_71 (by decide) rfl ?_
        exact h

set_option maxRecDepth 100000 in
theorem rg_X4_forbid_73 {S : Sx} {Q : Option PV → Zm → Prop} {mem : Zm}   {x1 x2 x3 x4 x5 : Int} 
    (h : (((mem 35 0 ≤ x5) → ((∃ (v2 : Int) (m3 : Zm), Ct1 S mX4_caughtThen [Aq 34, Iq x1] mem (some (Iq v2)) m3 ∧ ((((v2 = x2) → ((in32 (x4 + 1)) ∧ PW S mX4_forbid Q 41 [some (Aq 34), some (Iq x1), some (Iq x2), some (Iq x4), some (Iq (x4 + 1)), none, none] [] (cprow m3 38 35))) ∧ (¬ (v2 = x2) → ((in32 (x4 + 1)) ∧ PW S mX4_forbid Q 41 [some (Aq 34), some (Iq x1), some (Iq x2), some (Iq x3), some (Iq (x4 + 1)), none, none] [] (cprow m3 38 35)))))))) ∧ (¬ (mem 35 0 ≤ x5) → ((0 ≤ x5 ∧ x5 < 8) ∧ (0 ≤ x5 ∧ x5 < 8) ∧ (((mem 35 (12 + 14 * (x5).toNat + 2) < 0) → ((0 ≤ 12 + 14 * x5 + 2 ∧ 12 + 14 * x5 + 2 < 134) ∧ (in32 (x5 + 1)) ∧ PW S mX4_forbid Q 73 [some (Aq 34), some (Iq x1), some (Iq x2), some (Iq x3), some (Iq x4), some (Iq (x5 + 1)), none] [] (mup mem 35 (12 + 14 * x5 + 2).toNat (mem 35 (12 + 14 * (x5).toNat + 2))))) ∧ (¬ (mem 35 (12 + 14 * (x5).toNat + 2) < 0) → ((((bAnd (bShr x4 (mem 35 (12 + 14 * (x5).toNat + 2))) 1 = 1) → ((0 ≤ 12 + 14 * x5 + 2 ∧ 12 + 14 * x5 + 2 < 134) ∧ (in32 (x5 + 1)) ∧ PW S mX4_forbid Q 73 [some (Aq 34), some (Iq x1), some (Iq x2), some (Iq x3), some (Iq x4), some (Iq (x5 + 1)), none] [] (mup mem 35 (12 + 14 * x5 + 2).toNat (-1)))) ∧ (¬ (bAnd (bShr x4 (mem 35 (12 + 14 * (x5).toNat + 2))) 1 = 1) → ((0 ≤ 12 + 14 * x5 + 2 ∧ 12 + 14 * x5 + 2 < 134) ∧ (in32 (x5 + 1)) ∧ PW S mX4_forbid Q 73 [some (Aq 34), some (Iq x1), some (Iq x2), some (Iq x3), some (Iq x4), some (Iq (x5 + 1)), none] [] (mup mem 35 (12 + 14 * x5 + 2).toNat (mem 35 (12 + 14 * (x5).toNat + 2))))))))))))) :
    PW S mX4_forbid Q 73 [some (Aq 34), some (Iq x1), some (Iq x2), some (Iq x3), some (Iq x4), some (Iq x5), none] [] mem := by
  refine pw_iload eX4_forbid_73 rfl ?_
  refine pw_aload_n eX4_forbid_75 rfl rfl ?_
  refine gf_RX4_7 rfl eX4_forbid_76 sh34 ?_
  refine pw_iconst eX4_forbid_79 ⟨by decide, by decide⟩ ?_
  refine pw_iald eX4_forbid_80 sh35 (by decide) ?_
  refine pw_icmp_ge eX4_forbid_81 (fun c1 => ?_) (fun c1 => ?_)
  · have h := h.1 c1
    refine pw_aload_n eX4_forbid_132 rfl rfl ?_
    refine pw_iload_n eX4_forbid_133 rfl rfl ?_
    obtain ⟨v2, m3, hc4, h⟩ := h
    refine pw_cV (z := mX4_caughtThen) (av := [Iq x1]) (st := []) eX4_forbid_134 lk_RX4_167 rfl (by decide) (by decide) sh34 rfl rfl (Nat.le_of_ble_eq_true rfl) rfl hc4 ?_
    show PW S mX4_forbid Q 137 [some (Aq 34), some (Iq x1), some (Iq x2), some (Iq x3), some (Iq x4), some (Iq x5), none] [Iq v2] m3
    refine pw_iload_n eX4_forbid_137 rfl rfl ?_
    refine pw_icmp_ne eX4_forbid_138 (fun c5 => ?_) (fun c5 => ?_)
    · have h := h.2 c5
      refine pw_iload_n eX4_forbid_146 rfl rfl ?_
      refine pw_istore_n (ls2 := [some (Aq 34), some (Iq x1), some (Iq x2), some (Iq x3), some (Iq x4), some (Iq x5), none]) eX4_forbid_147 rfl (by decide) rfl ?_
      refine pw_aload_n eX4_forbid_148 rfl rfl ?_
      refine gf_RX4_19 rfl eX4_forbid_149 sh34 ?_
      refine pw_aload_n eX4_forbid_152 rfl rfl ?_
      refine gf_RX4_7 rfl eX4_forbid_153 sh34 ?_
      refine pw_cS (z := mX4_copyRow) (av := [Aq 38, Aq 35]) (st := []) eX4_forbid_156 lk_RX4_150 rfl (by decide) (by decide) (Nat.le_of_ble_eq_true rfl) rfl (ct_X4_copyRow (mem := m3) sh38 sh35 (by decide)) ?_
      show PW S mX4_forbid Q 159 [some (Aq 34), some (Iq x1), some (Iq x2), some (Iq x3), some (Iq x4), some (Iq x5), none] [] (cprow m3 38 35)
      obtain ⟨ob6, h⟩ := h
      refine pw_iinc (ls2 := [some (Aq 34), some (Iq x1), some (Iq x2), some (Iq x3), some (Iq (x4 + 1)), some (Iq x5), none]) eX4_forbid_159 rfl ob6 rfl ?_
      refine pw_goto eX4_forbid_162 ?_
      exact pw_drop (bs := [true, true, true, true, true, false, false]) h
    · have h := h.1 (Classical.not_not.mp c5)
      refine pw_iload eX4_forbid_141 rfl ?_
      refine pw_goto eX4_forbid_143 ?_
      refine pw_istore_n (ls2 := [some (Aq 34), some (Iq x1), some (Iq x2), some (Iq x4), some (Iq x4), some (Iq x5), none]) eX4_forbid_147 rfl (by decide) rfl ?_
      refine pw_aload_n eX4_forbid_148 rfl rfl ?_
      refine gf_RX4_19 rfl eX4_forbid_149 sh34 ?_
      refine pw_aload_n eX4_forbid_152 rfl rfl ?_
      refine gf_RX4_7 rfl eX4_forbid_153 sh34 ?_
      refine pw_cS (z := mX4_copyRow) (av := [Aq 38, Aq 35]) (st := []) eX4_forbid_156 lk_RX4_150 rfl (by decide) (by decide) (Nat.le_of_ble_eq_true rfl) rfl (ct_X4_copyRow (mem := m3) sh38 sh35 (by decide)) ?_
      show PW S mX4_forbid Q 159 [some (Aq 34), some (Iq x1), some (Iq x2), some (Iq x4), some (Iq x4), some (Iq x5), none] [] (cprow m3 38 35)
      obtain ⟨ob7, h⟩ := h
      refine pw_iinc (ls2 := [some (Aq 34), some (Iq x1), some (Iq x2), some (Iq x4), some (Iq (x4 + 1)), some (Iq x5), none]) eX4_forbid_159 rfl ob7 rfl ?_
      refine pw_goto eX4_forbid_162 ?_
      exact pw_drop (bs := [true, true, true, true, true, false, false]) h
  · have h := h.2 c1
    refine pw_aload_n eX4_forbid_84 rfl rfl ?_
    refine pw_iload eX4_forbid_85 rfl ?_
    refine pw_iconst eX4_forbid_87 ⟨by decide, by decide⟩ ?_
    obtain ⟨ob8, h⟩ := h
    refine pw_cV (z := mX4_its) (av := [Iq x5, Iq 2]) (st := []) eX4_forbid_88 lk_RX4_71 rfl (by decide) (by decide) sh34 rfl rfl (Nat.le_of_ble_eq_true rfl) rfl (ct_X4_its (mem := mem) ⟨ob8.1, ob8.2, by decide, by decide⟩) ?_
    show PW S mX4_forbid Q 91 [some (Aq 34), some (Iq x1), some (Iq x2), some (Iq x3), some (Iq x4), some (Iq x5), none] [Iq (mem 35 (12 + 14 * (x5).toNat + 2))] mem
    refine pw_istore (ls2 := [some (Aq 34), some (Iq x1), some (Iq x2), some (Iq x3), some (Iq x4), some (Iq x5), some (Iq (mem 35 (12 + 14 * (x5).toNat + 2)))]) eX4_forbid_91 (by decide) rfl ?_
    refine pw_aload_n eX4_forbid_93 rfl rfl ?_
    refine gf_RX4_7 rfl eX4_forbid_94 sh34 ?_
    refine pw_iload eX4_forbid_97 rfl ?_
    refine pw_iconst eX4_forbid_99 ⟨by decide, by decide⟩ ?_
    obtain ⟨ob9, h⟩ := h
    refine pw_cS (z := mX4_at) (av := [Iq x5, Iq 2]) (st := [Aq 35]) eX4_forbid_100 lk_RX4_59 rfl (by decide) (by decide) (Nat.le_of_ble_eq_true rfl) rfl (ct_X4_at (mem := mem) ⟨ob9.1, ob9.2, by decide, by decide⟩) ?_
    show PW S mX4_forbid Q 103 [some (Aq 34), some (Iq x1), some (Iq x2), some (Iq x3), some (Iq x4), some (Iq x5), some (Iq (mem 35 (12 + 14 * (x5).toNat + 2)))] [Iq (12 + 14 * x5 + 2), Aq 35] mem
    refine pw_iload eX4_forbid_103 rfl ?_
    refine pw_if_lt eX4_forbid_105 (fun c10 => ?_) (fun c10 => ?_)
    · have h := h.1 c10
      refine pw_iload eX4_forbid_123 rfl ?_
      obtain ⟨ob11, h⟩ := h
      refine pw_iast eX4_forbid_125 sh35 ob11 ?_
      obtain ⟨ob12, h⟩ := h
      refine pw_iinc (ls2 := [some (Aq 34), some (Iq x1), some (Iq x2), some (Iq x3), some (Iq x4), some (Iq (x5 + 1)), some (Iq (mem 35 (12 + 14 * (x5).toNat + 2)))]) eX4_forbid_126 rfl ob12 rfl ?_
      refine pw_goto eX4_forbid_129 ?_
      exact pw_drop (bs := [true, true, true, true, true, true, false]) h
    · have h := h.2 c10
      refine pw_iload eX4_forbid_108 rfl ?_
      refine pw_iload eX4_forbid_110 rfl ?_
      refine pw_ishr eX4_forbid_112 ?_
      refine pw_iconst eX4_forbid_113 ⟨by decide, by decide⟩ ?_
      refine pw_iand eX4_forbid_114 ?_
      refine pw_iconst eX4_forbid_115 ⟨by decide, by decide⟩ ?_
      refine pw_icmp_ne eX4_forbid_116 (fun c13 => ?_) (fun c13 => ?_)
      · have h := h.2 c13
        refine pw_iload eX4_forbid_123 rfl ?_
        obtain ⟨ob14, h⟩ := h
        refine pw_iast eX4_forbid_125 sh35 ob14 ?_
        obtain ⟨ob15, h⟩ := h
        refine pw_iinc (ls2 := [some (Aq 34), some (Iq x1), some (Iq x2), some (Iq x3), some (Iq x4), some (Iq (x5 + 1)), some (Iq (mem 35 (12 + 14 * (x5).toNat + 2)))]) eX4_forbid_126 rfl ob15 rfl ?_
        refine pw_goto eX4_forbid_129 ?_
        exact pw_drop (bs := [true, true, true, true, true, true, false]) h
      · have h := h.1 (Classical.not_not.mp c13)
        refine pw_iconst eX4_forbid_119 ⟨by decide, by decide⟩ ?_
        refine pw_goto eX4_forbid_120 ?_
        obtain ⟨ob16, h⟩ := h
        refine pw_iast eX4_forbid_125 sh35 ob16 ?_
        obtain ⟨ob17, h⟩ := h
        refine pw_iinc (ls2 := [some (Aq 34), some (Iq x1), some (Iq x2), some (Iq x3), some (Iq x4), some (Iq (x5 + 1)), some (Iq (mem 35 (12 + 14 * (x5).toNat + 2)))]) eX4_forbid_126 rfl ob17 rfl ?_
        refine pw_goto eX4_forbid_129 ?_
        exact pw_drop (bs := [true, true, true, true, true, true, false]) h
set_option maxRecDepth 100000 in
theorem rg_X4_biscuitsFor_0 {S : Sx} {Q : Option PV → Zm → Prop} {mem : Zm}   {x1 x2 : Int} 
    (h : ((((0 ≤ x1 ∧ x1 < mem 35 0) ∧ (0 ≤ x2 ∧ x2 ≤ 20)) → ((0 ≤ x1 ∧ x1 < 8) ∧ (0 ≤ 12 + 14 * x1 + 4 ∧ 12 + 14 * x1 + 4 < 134) ∧ (0 ≤ x1 ∧ x1 < 8) ∧ (∃ (v5 : Int) (m6 : Zm), Ct1 S mX4_thenAt [Aq 34, Iq (12 + 14 * x1 + 3), Iq x2] (mup mem 35 (12 + 14 * x1 + 4).toNat 99) (some (Iq v5)) m6 ∧ (PW S mX4_biscuitsFor Q 46 [some (Aq 34), some (Iq x1), some (Iq x2), some (Iq (mem 35 (12 + 14 * x1 + 4).toNat)), some (Iq v5), some (Iq (-1)), some (Iq 0)] [] m6)))) ∧ (¬ ((0 ≤ x1 ∧ x1 < mem 35 0) ∧ (0 ≤ x2 ∧ x2 ≤ 20)) → ((fOK mem (-1000001)) ∧ Q (some (Iq (-1000001))) (fnds mem (-1000001)))))) :
    PW S mX4_biscuitsFor Q 0 [some (Aq 34), some (Iq x1), some (Iq x2), none, none, none, none] [] mem := by
  refine pw_aload_n eX4_biscuitsFor_0 rfl rfl ?_
  refine pw_iload_n eX4_biscuitsFor_1 rfl rfl ?_
  refine pw_iload_n eX4_biscuitsFor_2 rfl rfl ?_
  refine pw_cV (z := mX4_isAsked) (av := [Iq x1, Iq x2]) (st := []) eX4_biscuitsFor_3 lk_RX4_163 rfl (by decide) (by decide) sh34 rfl rfl (Nat.le_of_ble_eq_true rfl) rfl (ct_X4_isAsked (mem := mem)) ?_
  show PW S mX4_biscuitsFor Q 6 [some (Aq 34), some (Iq x1), some (Iq x2), none, none, none, none] [Iq (bI ((0 ≤ x1 ∧ x1 < mem 35 0) ∧ (0 ≤ x2 ∧ x2 ≤ 20)))] mem
  refine pw_if_ne eX4_biscuitsFor_6 (fun c1 => ?_) (fun c1 => ?_)
  · have h := h.1 (bI1.mp c1)
    refine pw_aload_n eX4_biscuitsFor_16 rfl rfl ?_
    refine pw_iload_n eX4_biscuitsFor_17 rfl rfl ?_
    refine pw_iconst eX4_biscuitsFor_18 ⟨by decide, by decide⟩ ?_
    obtain ⟨ob2, h⟩ := h
    refine pw_cS (z := mX4_at) (av := [Iq x1, Iq 4]) (st := [Aq 34]) eX4_biscuitsFor_19 lk_RX4_59 rfl (by decide) (by decide) (Nat.le_of_ble_eq_true rfl) rfl (ct_X4_at (mem := mem) ⟨ob2.1, ob2.2, by decide, by decide⟩) ?_
    show PW S mX4_biscuitsFor Q 22 [some (Aq 34), some (Iq x1), some (Iq x2), none, none, none, none] [Iq (12 + 14 * x1 + 4), Aq 34] mem
    refine pw_bipush eX4_biscuitsFor_22 ⟨by decide, by decide⟩ (by decide) ?_
    obtain ⟨ob3, h⟩ := h
    refine pw_cV (z := mX4_becomes) (av := [Iq (12 + 14 * x1 + 4), Iq 99]) (st := []) eX4_biscuitsFor_24 lk_RX4_53 rfl (by decide) (by decide) sh34 rfl rfl (Nat.le_of_ble_eq_true rfl) rfl (ct_X4_becomes (mem := mem) ob3) ?_
    show PW S mX4_biscuitsFor Q 27 [some (Aq 34), some (Iq x1), some (Iq x2), none, none, none, none] [Iq (mem 35 (12 + 14 * x1 + 4).toNat)] (mup mem 35 (12 + 14 * x1 + 4).toNat 99)
    refine pw_istore_n (ls2 := [some (Aq 34), some (Iq x1), some (Iq x2), some (Iq (mem 35 (12 + 14 * x1 + 4).toNat)), none, none, none]) eX4_biscuitsFor_27 rfl (by decide) rfl ?_
    refine pw_aload_n eX4_biscuitsFor_28 rfl rfl ?_
    refine pw_iload_n eX4_biscuitsFor_29 rfl rfl ?_
    refine pw_iconst eX4_biscuitsFor_30 ⟨by decide, by decide⟩ ?_
    obtain ⟨ob4, h⟩ := h
    refine pw_cS (z := mX4_at) (av := [Iq x1, Iq 3]) (st := [Aq 34]) eX4_biscuitsFor_31 lk_RX4_59 rfl (by decide) (by decide) (Nat.le_of_ble_eq_true rfl) rfl (ct_X4_at (mem := mup mem 35 (12 + 14 * x1 + 4).toNat 99) ⟨ob4.1, ob4.2, by decide, by decide⟩) ?_
    show PW S mX4_biscuitsFor Q 34 [some (Aq 34), some (Iq x1), some (Iq x2), some (Iq (mem 35 (12 + 14 * x1 + 4).toNat)), none, none, none] [Iq (12 + 14 * x1 + 3), Aq 34] (mup mem 35 (12 + 14 * x1 + 4).toNat 99)
    refine pw_iload_n eX4_biscuitsFor_34 rfl rfl ?_
    obtain ⟨v5, m6, hc7, h⟩ := h
    refine pw_cV (z := mX4_thenAt) (av := [Iq (12 + 14 * x1 + 3), Iq x2]) (st := []) eX4_biscuitsFor_35 lk_RX4_158 rfl (by decide) (by decide) sh34 rfl rfl (Nat.le_of_ble_eq_true rfl) rfl hc7 ?_
    show PW S mX4_biscuitsFor Q 38 [some (Aq 34), some (Iq x1), some (Iq x2), some (Iq (mem 35 (12 + 14 * x1 + 4).toNat)), none, none, none] [Iq v5] m6
    refine pw_istore (ls2 := [some (Aq 34), some (Iq x1), some (Iq x2), some (Iq (mem 35 (12 + 14 * x1 + 4).toNat)), some (Iq v5), none, none]) eX4_biscuitsFor_38 (by decide) rfl ?_
    refine pw_iconst eX4_biscuitsFor_40 ⟨by decide, by decide⟩ ?_
    refine pw_istore (ls2 := [some (Aq 34), some (Iq x1), some (Iq x2), some (Iq (mem 35 (12 + 14 * x1 + 4).toNat)), some (Iq v5), some (Iq (-1)), none]) eX4_biscuitsFor_41 (by decide) rfl ?_
    refine pw_iconst eX4_biscuitsFor_43 ⟨by decide, by decide⟩ ?_
    refine pw_istore (ls2 := [some (Aq 34), some (Iq x1), some (Iq x2), some (Iq (mem 35 (12 + 14 * x1 + 4).toNat)), some (Iq v5), some (Iq (-1)), some (Iq 0)]) eX4_biscuitsFor_44 (by decide) rfl ?_
    exact h
  · have h := h.2 (bI0.mp (Classical.not_not.mp c1))
    refine pw_aload_n eX4_biscuitsFor_9 rfl rfl ?_
    refine pw_ldc (n := (-1000001)) eX4_biscuitsFor_10 ⟨by decide, by decide⟩ kc_RX4_37 ?_
    obtain ⟨ob8, h⟩ := h
    refine pw_cV (z := mX4_finds) (av := [Iq (-1000001)]) (st := []) eX4_biscuitsFor_12 lk_RX4_39 rfl (by decide) (by decide) sh34 rfl rfl (Nat.le_of_ble_eq_true rfl) rfl (ct_X4_finds' (mem := mem) ob8) ?_
    show PW S mX4_biscuitsFor Q 15 [some (Aq 34), some (Iq x1), some (Iq x2), none, none, none, none] [Iq (-1000001)] (fnds mem (-1000001))
    exact pw_iret eX4_biscuitsFor_15 h

set_option maxRecDepth 100000 in
theorem rg_X4_biscuitsFor_46 {S : Sx} {Q : Option PV → Zm → Prop} {mem : Zm}   {x1 x2 x3 x4 x5 x6 : Int} 
    (h : (((99 < x6) → ((0 ≤ x1 ∧ x1 < 8) ∧ (0 ≤ 12 + 14 * x1 + 4 ∧ 12 + 14 * x1 + 4 < 134) ∧ Q (some (Iq x5)) (mup mem 35 (12 + 14 * x1 + 4).toNat x3))) ∧ (¬ (99 < x6) → ((((0 ≤ x5) → ((0 ≤ x1 ∧ x1 < 8) ∧ (0 ≤ 12 + 14 * x1 + 4 ∧ 12 + 14 * x1 + 4 < 134) ∧ Q (some (Iq x5)) (mup mem 35 (12 + 14 * x1 + 4).toNat x3))) ∧ (¬ (0 ≤ x5) → ((0 ≤ x1 ∧ x1 < 8) ∧ (0 ≤ 12 + 14 * x1 + 4 ∧ 12 + 14 * x1 + 4 < 134) ∧ (0 ≤ x1 ∧ x1 < 8) ∧ (∃ (v10 : Int) (m11 : Zm), Ct1 S mX4_thenAt [Aq 34, Iq (12 + 14 * x1 + 3), Iq x2] (mup mem 35 (12 + 14 * x1 + 4).toNat x6) (some (Iq v10)) m11 ∧ ((((v10 = x4) → ((in32 (x6 + 1)) ∧ PW S mX4_biscuitsFor Q 46 [some (Aq 34), some (Iq x1), some (Iq x2), some (Iq x3), some (Iq x4), some (Iq x6), some (Iq (x6 + 1))] [] m11)) ∧ (¬ (v10 = x4) → ((in32 (x6 + 1)) ∧ PW S mX4_biscuitsFor Q 46 [some (Aq 34), some (Iq x1), some (Iq x2), some (Iq x3), some (Iq x4), some (Iq (-1)), some (Iq (x6 + 1))] [] m11)))))))))))) :
    PW S mX4_biscuitsFor Q 46 [some (Aq 34), some (Iq x1), some (Iq x2), some (Iq x3), some (Iq x4), some (Iq x5), some (Iq x6)] [] mem := by
  refine pw_iload eX4_biscuitsFor_46 rfl ?_
  refine pw_bipush eX4_biscuitsFor_48 ⟨by decide, by decide⟩ (by decide) ?_
  refine pw_icmp_gt eX4_biscuitsFor_50 (fun c1 => ?_) (fun c1 => ?_)
  · have h := h.1 c1
    refine pw_aload_n eX4_biscuitsFor_99 rfl rfl ?_
    refine gf_RX4_7 rfl eX4_biscuitsFor_100 sh34 ?_
    refine pw_iload_n eX4_biscuitsFor_103 rfl rfl ?_
    refine pw_iconst eX4_biscuitsFor_104 ⟨by decide, by decide⟩ ?_
    obtain ⟨ob2, h⟩ := h
    refine pw_cS (z := mX4_at) (av := [Iq x1, Iq 4]) (st := [Aq 35]) eX4_biscuitsFor_105 lk_RX4_59 rfl (by decide) (by decide) (Nat.le_of_ble_eq_true rfl) rfl (ct_X4_at (mem := mem) ⟨ob2.1, ob2.2, by decide, by decide⟩) ?_
    show PW S mX4_biscuitsFor Q 108 [some (Aq 34), some (Iq x1), some (Iq x2), some (Iq x3), some (Iq x4), some (Iq x5), some (Iq x6)] [Iq (12 + 14 * x1 + 4), Aq 35] mem
    refine pw_iload_n eX4_biscuitsFor_108 rfl rfl ?_
    obtain ⟨ob3, h⟩ := h
    refine pw_iast eX4_biscuitsFor_109 sh35 ob3 ?_
    refine pw_iload eX4_biscuitsFor_110 rfl ?_
    exact pw_iret eX4_biscuitsFor_112 h
  · have h := h.2 c1
    refine pw_iload eX4_biscuitsFor_53 rfl ?_
    refine pw_if_ge eX4_biscuitsFor_55 (fun c4 => ?_) (fun c4 => ?_)
    · have h := h.1 c4
      refine pw_aload_n eX4_biscuitsFor_99 rfl rfl ?_
      refine gf_RX4_7 rfl eX4_biscuitsFor_100 sh34 ?_
      refine pw_iload_n eX4_biscuitsFor_103 rfl rfl ?_
      refine pw_iconst eX4_biscuitsFor_104 ⟨by decide, by decide⟩ ?_
      obtain ⟨ob5, h⟩ := h
      refine pw_cS (z := mX4_at) (av := [Iq x1, Iq 4]) (st := [Aq 35]) eX4_biscuitsFor_105 lk_RX4_59 rfl (by decide) (by decide) (Nat.le_of_ble_eq_true rfl) rfl (ct_X4_at (mem := mem) ⟨ob5.1, ob5.2, by decide, by decide⟩) ?_
      show PW S mX4_biscuitsFor Q 108 [some (Aq 34), some (Iq x1), some (Iq x2), some (Iq x3), some (Iq x4), some (Iq x5), some (Iq x6)] [Iq (12 + 14 * x1 + 4), Aq 35] mem
      refine pw_iload_n eX4_biscuitsFor_108 rfl rfl ?_
      obtain ⟨ob6, h⟩ := h
      refine pw_iast eX4_biscuitsFor_109 sh35 ob6 ?_
      refine pw_iload eX4_biscuitsFor_110 rfl ?_
      exact pw_iret eX4_biscuitsFor_112 h
    · have h := h.2 c4
      refine pw_aload_n eX4_biscuitsFor_58 rfl rfl ?_
      refine gf_RX4_7 rfl eX4_biscuitsFor_59 sh34 ?_
      refine pw_iload_n eX4_biscuitsFor_62 rfl rfl ?_
      refine pw_iconst eX4_biscuitsFor_63 ⟨by decide, by decide⟩ ?_
      obtain ⟨ob7, h⟩ := h
      refine pw_cS (z := mX4_at) (av := [Iq x1, Iq 4]) (st := [Aq 35]) eX4_biscuitsFor_64 lk_RX4_59 rfl (by decide) (by decide) (Nat.le_of_ble_eq_true rfl) rfl (ct_X4_at (mem := mem) ⟨ob7.1, ob7.2, by decide, by decide⟩) ?_
      show PW S mX4_biscuitsFor Q 67 [some (Aq 34), some (Iq x1), some (Iq x2), some (Iq x3), some (Iq x4), some (Iq x5), some (Iq x6)] [Iq (12 + 14 * x1 + 4), Aq 35] mem
      refine pw_iload eX4_biscuitsFor_67 rfl ?_
      obtain ⟨ob8, h⟩ := h
      refine pw_iast eX4_biscuitsFor_69 sh35 ob8 ?_
      refine pw_aload_n eX4_biscuitsFor_70 rfl rfl ?_
      refine pw_iload_n eX4_biscuitsFor_71 rfl rfl ?_
      refine pw_iconst eX4_biscuitsFor_72 ⟨by decide, by decide⟩ ?_
      obtain ⟨ob9, h⟩ := h
      refine pw_cS (z := mX4_at) (av := [Iq x1, Iq 3]) (st := [Aq 34]) eX4_biscuitsFor_73 lk_RX4_59 rfl (by decide) (by decide) (Nat.le_of_ble_eq_true rfl) rfl (ct_X4_at (mem := mup mem 35 (12 + 14 * x1 + 4).toNat x6) ⟨ob9.1, ob9.2, by decide, by decide⟩) ?_
      show PW S mX4_biscuitsFor Q 76 [some (Aq 34), some (Iq x1), some (Iq x2), some (Iq x3), some (Iq x4), some (Iq x5), some (Iq x6)] [Iq (12 + 14 * x1 + 3), Aq 34] (mup mem 35 (12 + 14 * x1 + 4).toNat x6)
      refine pw_iload_n eX4_biscuitsFor_76 rfl rfl ?_
      obtain ⟨v10, m11, hc12, h⟩ := h
      refine pw_cV (z := mX4_thenAt) (av := [Iq (12 + 14 * x1 + 3), Iq x2]) (st := []) eX4_biscuitsFor_77 lk_RX4_158 rfl (by decide) (by decide) sh34 rfl rfl (Nat.le_of_ble_eq_true rfl) rfl hc12 ?_
      show PW S mX4_biscuitsFor Q 80 [some (Aq 34), some (Iq x1), some (Iq x2), some (Iq x3), some (Iq x4), some (Iq x5), some (Iq x6)] [Iq v10] m11
      refine pw_iload eX4_biscuitsFor_80 rfl ?_
      refine pw_icmp_ne eX4_biscuitsFor_82 (fun c13 => ?_) (fun c13 => ?_)
      · have h := h.2 c13
        refine pw_iconst eX4_biscuitsFor_90 ⟨by decide, by decide⟩ ?_
        refine pw_istore (ls2 := [some (Aq 34), some (Iq x1), some (Iq x2), some (Iq x3), some (Iq x4), some (Iq (-1)), some (Iq x6)]) eX4_biscuitsFor_91 (by decide) rfl ?_
        obtain ⟨ob14, h⟩ := h
        refine pw_iinc (ls2 := [some (Aq 34), some (Iq x1), some (Iq x2), some (Iq x3), some (Iq x4), some (Iq (-1)), some (Iq (x6 + 1))]) eX4_biscuitsFor_93 rfl ob14 rfl ?_
        refine pw_goto eX4_biscuitsFor_96 ?_
        exact h
      · have h := h.1 (Classical.not_not.mp c13)
        refine pw_iload eX4_biscuitsFor_85 rfl ?_
        refine pw_goto eX4_biscuitsFor_87 ?_
        refine pw_istore (ls2 := [some (Aq 34), some (Iq x1), some (Iq x2), some (Iq x3), some (Iq x4), some (Iq x6), some (Iq x6)]) eX4_biscuitsFor_91 (by decide) rfl ?_
        obtain ⟨ob15, h⟩ := h
        refine pw_iinc (ls2 := [some (Aq 34), some (Iq x1), some (Iq x2), some (Iq x3), some (Iq x4), some (Iq x6), some (Iq (x6 + 1))]) eX4_biscuitsFor_93 rfl ob15 rfl ?_
        refine pw_goto eX4_biscuitsFor_96 ?_
        exact h
set_option maxRecDepth 100000 in
theorem rg_X4_fits_0 {S : Sx} {Q : Option PV → Zm → Prop} {mem : Zm}   {x1 x2 : Int} 
    (h : (∃ (v1 : Int) (m2 : Zm), Ct1 S mX4_wantsFor [Aq 34, Iq x1, Iq x2] mem (some (Iq v1)) m2 ∧ ((((v1 = 0) → ((∃ (m6 : Zm), Ct1 S mX4_findsFits [Aq 34, Iq x1, Iq x2] m2 none m6 ∧ (Q (some (Iq (m6 34 11))) m6)))) ∧ (¬ (v1 = 0) → ((fOK m2 v1) ∧ Q (some (Iq v1)) (fnds m2 v1))))))) :
    PW S mX4_fits Q 0 [some (Aq 34), some (Iq x1), some (Iq x2), none] [] mem := by
  refine pw_aload_n eX4_fits_0 rfl rfl ?_
  refine pw_iload_n eX4_fits_1 rfl rfl ?_
  refine pw_iload_n eX4_fits_2 rfl rfl ?_
  obtain ⟨v1, m2, hc3, h⟩ := h
  refine pw_cV (z := mX4_wantsFor) (av := [Iq x1, Iq x2]) (st := []) eX4_fits_3 lk_RX4_178 rfl (by decide) (by decide) sh34 rfl rfl (Nat.le_of_ble_eq_true rfl) rfl hc3 ?_
  show PW S mX4_fits Q 6 [some (Aq 34), some (Iq x1), some (Iq x2), none] [Iq v1] m2
  refine pw_istore_n (ls2 := [some (Aq 34), some (Iq x1), some (Iq x2), some (Iq v1)]) eX4_fits_6 rfl (by decide) rfl ?_
  refine pw_iload_n eX4_fits_7 rfl rfl ?_
  refine pw_if_eq eX4_fits_8 (fun c4 => ?_) (fun c4 => ?_)
  · have h := h.1 c4
    refine pw_aload_n eX4_fits_17 rfl rfl ?_
    refine pw_iload_n eX4_fits_18 rfl rfl ?_
    refine pw_iload_n eX4_fits_19 rfl rfl ?_
    obtain ⟨m6, hc7, h⟩ := h
    refine pw_cV (z := mX4_findsFits) (av := [Iq x1, Iq x2]) (st := []) eX4_fits_20 lk_RX4_191 rfl (by decide) (by decide) sh34 rfl rfl (Nat.le_of_ble_eq_true rfl) rfl hc7 ?_
    show PW S mX4_fits Q 23 [some (Aq 34), some (Iq x1), some (Iq x2), some (Iq v1)] [] m6
    refine pw_aload_n eX4_fits_23 rfl rfl ?_
    refine gf_RX4_184 rfl eX4_fits_24 sh34 ?_
    exact pw_iret eX4_fits_27 h
  · have h := h.2 c4
    refine pw_aload_n eX4_fits_11 rfl rfl ?_
    refine pw_iload_n eX4_fits_12 rfl rfl ?_
    obtain ⟨ob8, h⟩ := h
    refine pw_cV (z := mX4_finds) (av := [Iq v1]) (st := []) eX4_fits_13 lk_RX4_39 rfl (by decide) (by decide) sh34 rfl rfl (Nat.le_of_ble_eq_true rfl) rfl (ct_X4_finds' (mem := m2) ob8) ?_
    show PW S mX4_fits Q 16 [some (Aq 34), some (Iq x1), some (Iq x2), some (Iq v1)] [Iq v1] (fnds m2 v1)
    exact pw_iret eX4_fits_16 h
set_option maxRecDepth 100000 in
theorem rg_X4_knew_0 {S : Sx} {Q : Option PV → Zm → Prop} {mem : Zm}   {x1 x2 : Int} 
    (h : (∃ (v1 : Int) (m2 : Zm), Ct1 S mX4_wantsFor [Aq 34, Iq x1, Iq x2] mem (some (Iq v1)) m2 ∧ ((((v1 = 0) → ((∃ (m6 : Zm), Ct1 S mX4_findsFits [Aq 34, Iq x1, Iq x2] m2 none m6 ∧ ((((m6 34 11 ≤ 0) → ((fOK m6 (-1000004)) ∧ Q (some (Iq (-1000004))) (fnds m6 (-1000004)))) ∧ (¬ (m6 34 11 ≤ 0) → (Q (some (Iq (m6 34 12))) m6))))))) ∧ (¬ (v1 = 0) → ((fOK m2 v1) ∧ Q (some (Iq v1)) (fnds m2 v1))))))) :
    PW S mX4_knew Q 0 [some (Aq 34), some (Iq x1), some (Iq x2), none] [] mem := by
  refine pw_aload_n eX4_knew_0 rfl rfl ?_
  refine pw_iload_n eX4_knew_1 rfl rfl ?_
  refine pw_iload_n eX4_knew_2 rfl rfl ?_
  obtain ⟨v1, m2, hc3, h⟩ := h
  refine pw_cV (z := mX4_wantsFor) (av := [Iq x1, Iq x2]) (st := []) eX4_knew_3 lk_RX4_178 rfl (by decide) (by decide) sh34 rfl rfl (Nat.le_of_ble_eq_true rfl) rfl hc3 ?_
  show PW S mX4_knew Q 6 [some (Aq 34), some (Iq x1), some (Iq x2), none] [Iq v1] m2
  refine pw_istore_n (ls2 := [some (Aq 34), some (Iq x1), some (Iq x2), some (Iq v1)]) eX4_knew_6 rfl (by decide) rfl ?_
  refine pw_iload_n eX4_knew_7 rfl rfl ?_
  refine pw_if_eq eX4_knew_8 (fun c4 => ?_) (fun c4 => ?_)
  · have h := h.1 c4
    refine pw_aload_n eX4_knew_17 rfl rfl ?_
    refine pw_iload_n eX4_knew_18 rfl rfl ?_
    refine pw_iload_n eX4_knew_19 rfl rfl ?_
    obtain ⟨m6, hc7, h⟩ := h
    refine pw_cV (z := mX4_findsFits) (av := [Iq x1, Iq x2]) (st := []) eX4_knew_20 lk_RX4_191 rfl (by decide) (by decide) sh34 rfl rfl (Nat.le_of_ble_eq_true rfl) rfl hc7 ?_
    show PW S mX4_knew Q 23 [some (Aq 34), some (Iq x1), some (Iq x2), some (Iq v1)] [] m6
    refine pw_aload_n eX4_knew_23 rfl rfl ?_
    refine gf_RX4_184 rfl eX4_knew_24 sh34 ?_
    refine pw_if_le eX4_knew_27 (fun c8 => ?_) (fun c8 => ?_)
    · have h := h.1 c8
      refine pw_aload_n eX4_knew_37 rfl rfl ?_
      refine pw_ldc (n := (-1000004)) eX4_knew_38 ⟨by decide, by decide⟩ kc_RX4_38 ?_
      obtain ⟨ob9, h⟩ := h
      refine pw_cV (z := mX4_finds) (av := [Iq (-1000004)]) (st := []) eX4_knew_40 lk_RX4_39 rfl (by decide) (by decide) sh34 rfl rfl (Nat.le_of_ble_eq_true rfl) rfl (ct_X4_finds' (mem := m6) ob9) ?_
      show PW S mX4_knew Q 43 [some (Aq 34), some (Iq x1), some (Iq x2), some (Iq v1)] [Iq (-1000004)] (fnds m6 (-1000004))
      exact pw_iret eX4_knew_43 h
    · have h := h.2 c8
      refine pw_aload_n eX4_knew_30 rfl rfl ?_
      refine gf_RX4_188 rfl eX4_knew_31 sh34 ?_
      refine pw_goto eX4_knew_34 ?_
      exact pw_iret eX4_knew_43 h
  · have h := h.2 c4
    refine pw_aload_n eX4_knew_11 rfl rfl ?_
    refine pw_iload_n eX4_knew_12 rfl rfl ?_
    obtain ⟨ob10, h⟩ := h
    refine pw_cV (z := mX4_finds) (av := [Iq v1]) (st := []) eX4_knew_13 lk_RX4_39 rfl (by decide) (by decide) sh34 rfl rfl (Nat.le_of_ble_eq_true rfl) rfl (ct_X4_finds' (mem := m2) ob10) ?_
    show PW S mX4_knew Q 16 [some (Aq 34), some (Iq x1), some (Iq x2), some (Iq v1)] [Iq v1] (fnds m2 v1)
    exact pw_iret eX4_knew_16 h
end RG

section RG
set_option maxRecDepth 100000 in
theorem rg_X0_writeAnswers_0 {S : Sx} {Q : Option PV → Zm → Prop} {mem : Zm}  {r0 : Nat} {x1 : Int} (hr0 : isRoom r0)
    (h : (∃ (v1 : Int) (m2 : Zm), Ct1 S mX0_sourceToday [Aq r0, Iq x1] mem (some (Iq v1)) m2 ∧ ((0 ≤ x1 ∧ x1 < 8) ∧ PW S mX0_writeAnswers Q 22 [some (Aq r0), some (Iq x1), some (Iq v1), some (Iq (m2 (r0 + 2) (6 * (x1).toNat + 1))), some (Iq 0), some (Iq 0), some (Iq 0), none] [] m2))) :
    PW S mX0_writeAnswers Q 0 [some (Aq r0), some (Iq x1), none, none, none, none, none, none] [] mem := by
  refine pw_aload_n eX0_writeAnswers_0 rfl rfl ?_
  refine pw_iload_n eX0_writeAnswers_1 rfl rfl ?_
  obtain ⟨v1, m2, hc3, h⟩ := h
  refine pw_cV (z := mX0_sourceToday) (av := [Iq x1]) (st := []) eX0_writeAnswers_2 lk_RX0_83 rfl (by decide) (by decide) (shR hr0) rfl rfl (Nat.le_of_ble_eq_true rfl) rfl hc3 ?_
  show PW S mX0_writeAnswers Q 5 [some (Aq r0), some (Iq x1), none, none, none, none, none, none] [Iq v1] m2
  refine pw_istore_n (ls2 := [some (Aq r0), some (Iq x1), some (Iq v1), none, none, none, none, none]) eX0_writeAnswers_5 rfl (by decide) rfl ?_
  refine pw_aload_n eX0_writeAnswers_6 rfl rfl ?_
  refine pw_iload_n eX0_writeAnswers_7 rfl rfl ?_
  refine pw_iconst eX0_writeAnswers_8 ⟨by decide, by decide⟩ ?_
  obtain ⟨ob4, h⟩ := h
  refine pw_cV (z := mX0_fact) (av := [Iq x1, Iq 1]) (st := []) eX0_writeAnswers_9 lk_RX0_59 rfl (by decide) (by decide) (shR hr0) rfl rfl (Nat.le_of_ble_eq_true rfl) rfl (ct_X0_fact (mem := m2) hr0 ⟨ob4.1, ob4.2, by decide, by decide⟩) ?_
  show PW S mX0_writeAnswers Q 12 [some (Aq r0), some (Iq x1), some (Iq v1), none, none, none, none, none] [Iq (m2 (r0 + 2) (6 * (x1).toNat + 1))] m2
  refine pw_istore_n (ls2 := [some (Aq r0), some (Iq x1), some (Iq v1), some (Iq (m2 (r0 + 2) (6 * (x1).toNat + 1))), none, none, none, none]) eX0_writeAnswers_12 rfl (by decide) rfl ?_
  refine pw_iconst eX0_writeAnswers_13 ⟨by decide, by decide⟩ ?_
  refine pw_istore (ls2 := [some (Aq r0), some (Iq x1), some (Iq v1), some (Iq (m2 (r0 + 2) (6 * (x1).toNat + 1))), some (Iq 0), none, none, none]) eX0_writeAnswers_14 (by decide) rfl ?_
  refine pw_iconst eX0_writeAnswers_16 ⟨by decide, by decide⟩ ?_
  refine pw_istore (ls2 := [some (Aq r0), some (Iq x1), some (Iq v1), some (Iq (m2 (r0 + 2) (6 * (x1).toNat + 1))), some (Iq 0), some (Iq 0), none, none]) eX0_writeAnswers_17 (by decide) rfl ?_
  refine pw_iconst eX0_writeAnswers_19 ⟨by decide, by decide⟩ ?_
  refine pw_istore (ls2 := [some (Aq r0), some (Iq x1), some (Iq v1), some (Iq (m2 (r0 + 2) (6 * (x1).toNat + 1))), some (Iq 0), some (Iq 0), some (Iq 0), none]) eX0_writeAnswers_20 (by decide) rfl ?_
  exact h

set_option maxRecDepth 100000 in
theorem rg_X0_writeAnswers_22 {S : Sx} {Q : Option PV → Zm → Prop} {mem : Zm}  {r0 : Nat} {x1 x2 x3 x4 x5 x6 : Int} (hr0 : isRoom r0)
    (h : (((8 ≤ x6) → ((0 ≤ x1 ∧ x1 < 8) ∧ (0 ≤ x1 ∧ x1 < 8) ∧ (((x2 = -1) → (Q none (mup (mup mem (r0 + 5) (x1).toNat x4) (r0 + 6) (x1).toNat x5))) ∧ (¬ (x2 = -1) → ((∃ (m6 : Zm), Ct1 S mX0_payFor [Aq r0, Iq x1, Iq x2] (mup (mup mem (r0 + 5) (x1).toNat x4) (r0 + 6) (x1).toNat x5) none m6 ∧ (Q none m6))))))) ∧ (¬ (8 ≤ x6) → ((((bAnd (bShr x3 x6) 1 = 1) → ((0 ≤ x6 ∧ x6 < 8) ∧ (in32 (x1 * 8)) ∧ (in32 ((x1 * 8) + x6)) ∧ (0 ≤ (x1 * 8) + x6 ∧ (x1 * 8) + x6 < 64) ∧ (0 ≤ x6 ∧ x6 < 8) ∧ (((mem (r0 + 1) (x6).toNat = (mup mem (r0 + 3) ((x1 * 8) + x6).toNat (mem (r0 + 1) (x6).toNat)) (r0 + 1) (x6).toNat) → ((in32 (x5 + 1)) ∧ (in32 (x6 + 1)) ∧ PW S mX0_writeAnswers Q 22 [some (Aq r0), some (Iq x1), some (Iq x2), some (Iq x3), some (Iq x4), some (Iq (x5 + 1)), some (Iq (x6 + 1)), none] [] (mup mem (r0 + 3) ((x1 * 8) + x6).toNat (mem (r0 + 1) (x6).toNat)))) ∧ (¬ (mem (r0 + 1) (x6).toNat = (mup mem (r0 + 3) ((x1 * 8) + x6).toNat (mem (r0 + 1) (x6).toNat)) (r0 + 1) (x6).toNat) → ((((mem (r0 + 1) (x6).toNat = -1) → ((in32 (x6 + 1)) ∧ PW S mX0_writeAnswers Q 22 [some (Aq r0), some (Iq x1), some (Iq x2), some (Iq x3), some (Iq x4), some (Iq x5), some (Iq (x6 + 1)), none] [] (mup mem (r0 + 3) ((x1 * 8) + x6).toNat (mem (r0 + 1) (x6).toNat)))) ∧ (¬ (mem (r0 + 1) (x6).toNat = -1) → ((in32 (x6 + 1)) ∧ PW S mX0_writeAnswers Q 22 [some (Aq r0), some (Iq x1), some (Iq x2), some (Iq x3), some (Iq (bOr x4 (bShl 1 x6))), some (Iq x5), some (Iq (x6 + 1)), none] [] (mup mem (r0 + 3) ((x1 * 8) + x6).toNat (mem (r0 + 1) (x6).toNat)))))))))) ∧ (¬ (bAnd (bShr x3 x6) 1 = 1) → ((((x2 = -1) → ((in32 (x1 * 8)) ∧ (in32 ((x1 * 8) + x6)) ∧ (0 ≤ (x1 * 8) + x6 ∧ (x1 * 8) + x6 < 64) ∧ (0 ≤ x6 ∧ x6 < 8) ∧ (((-1 = (mup mem (r0 + 3) ((x1 * 8) + x6).toNat (-1)) (r0 + 1) (x6).toNat) → ((in32 (x5 + 1)) ∧ (in32 (x6 + 1)) ∧ PW S mX0_writeAnswers Q 22 [some (Aq r0), some (Iq x1), some (Iq x2), some (Iq x3), some (Iq x4), some (Iq (x5 + 1)), some (Iq (x6 + 1)), none] [] (mup mem (r0 + 3) ((x1 * 8) + x6).toNat (-1)))) ∧ (¬ (-1 = (mup mem (r0 + 3) ((x1 * 8) + x6).toNat (-1)) (r0 + 1) (x6).toNat) → ((in32 (x6 + 1)) ∧ PW S mX0_writeAnswers Q 22 [some (Aq r0), some (Iq x1), some (Iq x2), some (Iq x3), some (Iq x4), some (Iq x5), some (Iq (x6 + 1)), none] [] (mup mem (r0 + 3) ((x1 * 8) + x6).toNat (-1))))))) ∧ (¬ (x2 = -1) → ((0 ≤ x2 ∧ x2 < 8 ∧ 0 ≤ x6 ∧ x6 < 8) ∧ (0 ≤ x1 ∧ x1 < 8 ∧ 0 ≤ x6 ∧ -1 ≤ mem (r0 + 3) (8 * (x2).toNat + (x6).toNat) ∧ mem (r0 + 3) (8 * (x2).toNat + (x6).toNat) < 100 ∧ 0 ≤ mem r0 8 ∧ 0 ≤ mem (r0 + 2) (6 * (x1).toNat) ∧ mem (r0 + 2) (6 * (x1).toNat) ≤ 6) ∧ (in32 (x1 * 8)) ∧ (in32 ((x1 * 8) + x6)) ∧ (0 ≤ (x1 * 8) + x6 ∧ (x1 * 8) + x6 < 64) ∧ (0 ≤ x6 ∧ x6 < 8) ∧ (((slipV (mem (r0 + 2) (6 * (x1).toNat)) (mem r0 8) x6 (mem (r0 + 3) (8 * (x2).toNat + (x6).toNat)) = (mup mem (r0 + 3) ((x1 * 8) + x6).toNat (slipV (mem (r0 + 2) (6 * (x1).toNat)) (mem r0 8) x6 (mem (r0 + 3) (8 * (x2).toNat + (x6).toNat)))) (r0 + 1) (x6).toNat) → ((in32 (x5 + 1)) ∧ (in32 (x6 + 1)) ∧ PW S mX0_writeAnswers Q 22 [some (Aq r0), some (Iq x1), some (Iq x2), some (Iq x3), some (Iq x4), some (Iq (x5 + 1)), some (Iq (x6 + 1)), none] [] (mup mem (r0 + 3) ((x1 * 8) + x6).toNat (slipV (mem (r0 + 2) (6 * (x1).toNat)) (mem r0 8) x6 (mem (r0 + 3) (8 * (x2).toNat + (x6).toNat)))))) ∧ (¬ (slipV (mem (r0 + 2) (6 * (x1).toNat)) (mem r0 8) x6 (mem (r0 + 3) (8 * (x2).toNat + (x6).toNat)) = (mup mem (r0 + 3) ((x1 * 8) + x6).toNat (slipV (mem (r0 + 2) (6 * (x1).toNat)) (mem r0 8) x6 (mem (r0 + 3) (8 * (x2).toNat + (x6).toNat)))) (r0 + 1) (x6).toNat) → ((((slipV (mem (r0 + 2) (6 * (x1).toNat)) (mem r0 8) x6 (mem (r0 + 3) (8 * (x2).toNat + (x6).toNat)) = -1) → ((in32 (x6 + 1)) ∧ PW S mX0_writeAnswers Q 22 [some (Aq r0), some (Iq x1), some (Iq x2), some (Iq x3), some (Iq x4), some (Iq x5), some (Iq (x6 + 1)), none] [] (mup mem (r0 + 3) ((x1 * 8) + x6).toNat (slipV (mem (r0 + 2) (6 * (x1).toNat)) (mem r0 8) x6 (mem (r0 + 3) (8 * (x2).toNat + (x6).toNat)))))) ∧ (¬ (slipV (mem (r0 + 2) (6 * (x1).toNat)) (mem r0 8) x6 (mem (r0 + 3) (8 * (x2).toNat + (x6).toNat)) = -1) → ((in32 (x6 + 1)) ∧ PW S mX0_writeAnswers Q 22 [some (Aq r0), some (Iq x1), some (Iq x2), some (Iq x3), some (Iq (bOr x4 (bShl 1 x6))), some (Iq x5), some (Iq (x6 + 1)), none] [] (mup mem (r0 + 3) ((x1 * 8) + x6).toNat (slipV (mem (r0 + 2) (6 * (x1).toNat)) (mem r0 8) x6 (mem (r0 + 3) (8 * (x2).toNat + (x6).toNat)))))))))))))))))))) :
    PW S mX0_writeAnswers Q 22 [some (Aq r0), some (Iq x1), some (Iq x2), some (Iq x3), some (Iq x4), some (Iq x5), some (Iq x6), none] [] mem := by
  refine pw_iload eX0_writeAnswers_22 rfl ?_
  refine pw_bipush eX0_writeAnswers_24 ⟨by decide, by decide⟩ (by decide) ?_
  refine pw_icmp_ge eX0_writeAnswers_26 (fun c1 => ?_) (fun c1 => ?_)
  · have h := h.1 c1
    refine pw_aload_n eX0_writeAnswers_128 rfl rfl ?_
    refine gf_RX0_24 rfl eX0_writeAnswers_129 (shR hr0) ?_
    refine pw_iload_n eX0_writeAnswers_132 rfl rfl ?_
    refine pw_iload eX0_writeAnswers_133 rfl ?_
    obtain ⟨ob2, h⟩ := h
    refine pw_iast eX0_writeAnswers_135 (shR5 hr0) ob2 ?_
    refine pw_aload_n eX0_writeAnswers_136 rfl rfl ?_
    refine gf_RX0_27 rfl eX0_writeAnswers_137 (shR hr0) ?_
    refine pw_iload_n eX0_writeAnswers_140 rfl rfl ?_
    refine pw_iload eX0_writeAnswers_141 rfl ?_
    obtain ⟨ob3, h⟩ := h
    refine pw_iast eX0_writeAnswers_143 (shR6 hr0) ob3 ?_
    refine pw_iload_n eX0_writeAnswers_144 rfl rfl ?_
    refine pw_iconst eX0_writeAnswers_145 ⟨by decide, by decide⟩ ?_
    refine pw_icmp_eq eX0_writeAnswers_146 (fun c4 => ?_) (fun c4 => ?_)
    · have h := h.1 c4
      exact pw_vret eX0_writeAnswers_155 h
    · have h := h.2 c4
      refine pw_aload_n eX0_writeAnswers_149 rfl rfl ?_
      refine pw_iload_n eX0_writeAnswers_150 rfl rfl ?_
      refine pw_iload_n eX0_writeAnswers_151 rfl rfl ?_
      obtain ⟨m6, hc7, h⟩ := h
      refine pw_cV (z := mX0_payFor) (av := [Iq x1, Iq x2]) (st := []) eX0_writeAnswers_152 lk_RX0_93 rfl (by decide) (by decide) (shR hr0) rfl rfl (Nat.le_of_ble_eq_true rfl) rfl hc7 ?_
      show PW S mX0_writeAnswers Q 155 [some (Aq r0), some (Iq x1), some (Iq x2), some (Iq x3), some (Iq x4), some (Iq x5), some (Iq x6), none] [] m6
      exact pw_vret eX0_writeAnswers_155 h
  · have h := h.2 c1
    refine pw_iconst eX0_writeAnswers_29 ⟨by decide, by decide⟩ ?_
    refine pw_istore (ls2 := [some (Aq r0), some (Iq x1), some (Iq x2), some (Iq x3), some (Iq x4), some (Iq x5), some (Iq x6), some (Iq (-1))]) eX0_writeAnswers_30 (by decide) rfl ?_
    refine pw_iload_n eX0_writeAnswers_32 rfl rfl ?_
    refine pw_iload eX0_writeAnswers_33 rfl ?_
    refine pw_ishr eX0_writeAnswers_35 ?_
    refine pw_iconst eX0_writeAnswers_36 ⟨by decide, by decide⟩ ?_
    refine pw_iand eX0_writeAnswers_37 ?_
    refine pw_iconst eX0_writeAnswers_38 ⟨by decide, by decide⟩ ?_
    refine pw_icmp_ne eX0_writeAnswers_39 (fun c8 => ?_) (fun c8 => ?_)
    · have h := h.2 c8
      refine pw_iload_n eX0_writeAnswers_54 rfl rfl ?_
      refine pw_iconst eX0_writeAnswers_55 ⟨by decide, by decide⟩ ?_
      refine pw_icmp_eq eX0_writeAnswers_56 (fun c9 => ?_) (fun c9 => ?_)
      · have h := h.1 c9
        refine pw_aload_n eX0_writeAnswers_75 rfl rfl ?_
        refine gf_RX0_18 rfl eX0_writeAnswers_76 (shR hr0) ?_
        refine pw_iload_n eX0_writeAnswers_79 rfl rfl ?_
        refine pw_bipush eX0_writeAnswers_80 ⟨by decide, by decide⟩ (by decide) ?_
        obtain ⟨ob10, h⟩ := h
        refine pw_imul eX0_writeAnswers_82 ob10 ?_
        refine pw_iload eX0_writeAnswers_83 rfl ?_
        obtain ⟨ob11, h⟩ := h
        refine pw_iadd eX0_writeAnswers_85 ob11 ?_
        refine pw_iload eX0_writeAnswers_86 rfl ?_
        obtain ⟨ob12, h⟩ := h
        refine pw_iast eX0_writeAnswers_88 (shR3 hr0) ob12 ?_
        refine pw_iload eX0_writeAnswers_89 rfl ?_
        refine pw_aload_n eX0_writeAnswers_91 rfl rfl ?_
        refine gf_RX0_9 rfl eX0_writeAnswers_92 (shR hr0) ?_
        refine pw_iload eX0_writeAnswers_95 rfl ?_
        obtain ⟨ob13, h⟩ := h
        refine pw_iald eX0_writeAnswers_97 (shR1 hr0) ob13 ?_
        refine pw_icmp_ne eX0_writeAnswers_98 (fun c14 => ?_) (fun c14 => ?_)
        · have h := h.2 c14
          refine pw_iload eX0_writeAnswers_107 rfl ?_
          refine pw_iconst eX0_writeAnswers_109 ⟨by decide, by decide⟩ ?_
          refine pw_icmp_eq eX0_writeAnswers_110 (fun c15 => ?_) (fun c15 => ?_)
          · skip
            obtain ⟨ob16, h⟩ := h
            refine pw_iinc (ls2 := [some (Aq r0), some (Iq x1), some (Iq x2), some (Iq x3), some (Iq x4), some (Iq x5), some (Iq (x6 + 1)), some (Iq (-1))]) eX0_writeAnswers_122 rfl ob16 rfl ?_
            refine pw_goto eX0_writeAnswers_125 ?_
            exact pw_drop (bs := [true, true, true, true, true, true, true, false]) h
          · exact absurd (by decide) c15
        · have h := h.1 (Classical.not_not.mp c14)
          obtain ⟨ob17, h⟩ := h
          refine pw_iinc (ls2 := [some (Aq r0), some (Iq x1), some (Iq x2), some (Iq x3), some (Iq x4), some (Iq (x5 + 1)), some (Iq x6), some (Iq (-1))]) eX0_writeAnswers_101 rfl ob17 rfl ?_
          refine pw_goto eX0_writeAnswers_104 ?_
          obtain ⟨ob18, h⟩ := h
          refine pw_iinc (ls2 := [some (Aq r0), some (Iq x1), some (Iq x2), some (Iq x3), some (Iq x4), some (Iq (x5 + 1)), some (Iq (x6 + 1)), some (Iq (-1))]) eX0_writeAnswers_122 rfl ob18 rfl ?_
          refine pw_goto eX0_writeAnswers_125 ?_
          exact pw_drop (bs := [true, true, true, true, true, true, true, false]) h
      · have h := h.2 c9
        refine pw_aload_n eX0_writeAnswers_59 rfl rfl ?_
        refine pw_iload_n eX0_writeAnswers_60 rfl rfl ?_
        refine pw_iload eX0_writeAnswers_61 rfl ?_
        refine pw_aload_n eX0_writeAnswers_63 rfl rfl ?_
        refine pw_iload_n eX0_writeAnswers_64 rfl rfl ?_
        refine pw_iload eX0_writeAnswers_65 rfl ?_
        obtain ⟨ob19, h⟩ := h
        refine pw_cV (z := mX0_answerOf) (av := [Iq x2, Iq x6]) (st := [Iq x6, Iq x1, Aq r0]) eX0_writeAnswers_67 lk_RX0_86 rfl (by decide) (by decide) (shR hr0) rfl rfl (Nat.le_of_ble_eq_true rfl) rfl (ct_X0_answerOf (mem := mem) hr0 ob19) ?_
        show PW S mX0_writeAnswers Q 70 [some (Aq r0), some (Iq x1), some (Iq x2), some (Iq x3), some (Iq x4), some (Iq x5), some (Iq x6), some (Iq (-1))] [Iq (mem (r0 + 3) (8 * (x2).toNat + (x6).toNat)), Iq x6, Iq x1, Aq r0] mem
        obtain ⟨ob20, h⟩ := h
        refine pw_cV (z := mX0_slipOf) (av := [Iq x1, Iq x6, Iq (mem (r0 + 3) (8 * (x2).toNat + (x6).toNat))]) (st := []) eX0_writeAnswers_70 lk_RX0_89 rfl (by decide) (by decide) (shR hr0) rfl rfl (Nat.le_of_ble_eq_true rfl) rfl (ct_X0_slipOf (mem := mem) hr0 ob20) ?_
        show PW S mX0_writeAnswers Q 73 [some (Aq r0), some (Iq x1), some (Iq x2), some (Iq x3), some (Iq x4), some (Iq x5), some (Iq x6), some (Iq (-1))] [Iq (slipV (mem (r0 + 2) (6 * (x1).toNat)) (mem r0 8) x6 (mem (r0 + 3) (8 * (x2).toNat + (x6).toNat)))] mem
        refine pw_istore (ls2 := [some (Aq r0), some (Iq x1), some (Iq x2), some (Iq x3), some (Iq x4), some (Iq x5), some (Iq x6), some (Iq (slipV (mem (r0 + 2) (6 * (x1).toNat)) (mem r0 8) x6 (mem (r0 + 3) (8 * (x2).toNat + (x6).toNat))))]) eX0_writeAnswers_73 (by decide) rfl ?_
        refine pw_aload_n eX0_writeAnswers_75 rfl rfl ?_
        refine gf_RX0_18 rfl eX0_writeAnswers_76 (shR hr0) ?_
        refine pw_iload_n eX0_writeAnswers_79 rfl rfl ?_
        refine pw_bipush eX0_writeAnswers_80 ⟨by decide, by decide⟩ (by decide) ?_
        obtain ⟨ob21, h⟩ := h
        refine pw_imul eX0_writeAnswers_82 ob21 ?_
        refine pw_iload eX0_writeAnswers_83 rfl ?_
        obtain ⟨ob22, h⟩ := h
        refine pw_iadd eX0_writeAnswers_85 ob22 ?_
        refine pw_iload eX0_writeAnswers_86 rfl ?_
        obtain ⟨ob23, h⟩ := h
        refine pw_iast eX0_writeAnswers_88 (shR3 hr0) ob23 ?_
        refine pw_iload eX0_writeAnswers_89 rfl ?_
        refine pw_aload_n eX0_writeAnswers_91 rfl rfl ?_
        refine gf_RX0_9 rfl eX0_writeAnswers_92 (shR hr0) ?_
        refine pw_iload eX0_writeAnswers_95 rfl ?_
        obtain ⟨ob24, h⟩ := h
        refine pw_iald eX0_writeAnswers_97 (shR1 hr0) ob24 ?_
        refine pw_icmp_ne eX0_writeAnswers_98 (fun c25 => ?_) (fun c25 => ?_)
        · have h := h.2 c25
          refine pw_iload eX0_writeAnswers_107 rfl ?_
          refine pw_iconst eX0_writeAnswers_109 ⟨by decide, by decide⟩ ?_
          refine pw_icmp_eq eX0_writeAnswers_110 (fun c26 => ?_) (fun c26 => ?_)
          · have h := h.1 c26
            obtain ⟨ob27, h⟩ := h
            refine pw_iinc (ls2 := [some (Aq r0), some (Iq x1), some (Iq x2), some (Iq x3), some (Iq x4), some (Iq x5), some (Iq (x6 + 1)), some (Iq (slipV (mem (r0 + 2) (6 * (x1).toNat)) (mem r0 8) x6 (mem (r0 + 3) (8 * (x2).toNat + (x6).toNat))))]) eX0_writeAnswers_122 rfl ob27 rfl ?_
            refine pw_goto eX0_writeAnswers_125 ?_
            exact pw_drop (bs := [true, true, true, true, true, true, true, false]) h
          · have h := h.2 c26
            refine pw_iload eX0_writeAnswers_113 rfl ?_
            refine pw_iconst eX0_writeAnswers_115 ⟨by decide, by decide⟩ ?_
            refine pw_iload eX0_writeAnswers_116 rfl ?_
            refine pw_ishl eX0_writeAnswers_118 ?_
            refine pw_ior eX0_writeAnswers_119 ?_
            refine pw_istore (ls2 := [some (Aq r0), some (Iq x1), some (Iq x2), some (Iq x3), some (Iq (bOr x4 (bShl 1 x6))), some (Iq x5), some (Iq x6), some (Iq (slipV (mem (r0 + 2) (6 * (x1).toNat)) (mem r0 8) x6 (mem (r0 + 3) (8 * (x2).toNat + (x6).toNat))))]) eX0_writeAnswers_120 (by decide) rfl ?_
            obtain ⟨ob28, h⟩ := h
            refine pw_iinc (ls2 := [some (Aq r0), some (Iq x1), some (Iq x2), some (Iq x3), some (Iq (bOr x4 (bShl 1 x6))), some (Iq x5), some (Iq (x6 + 1)), some (Iq (slipV (mem (r0 + 2) (6 * (x1).toNat)) (mem r0 8) x6 (mem (r0 + 3) (8 * (x2).toNat + (x6).toNat))))]) eX0_writeAnswers_122 rfl ob28 rfl ?_
            refine pw_goto eX0_writeAnswers_125 ?_
            exact pw_drop (bs := [true, true, true, true, true, true, true, false]) h
        · have h := h.1 (Classical.not_not.mp c25)
          obtain ⟨ob29, h⟩ := h
          refine pw_iinc (ls2 := [some (Aq r0), some (Iq x1), some (Iq x2), some (Iq x3), some (Iq x4), some (Iq (x5 + 1)), some (Iq x6), some (Iq (slipV (mem (r0 + 2) (6 * (x1).toNat)) (mem r0 8) x6 (mem (r0 + 3) (8 * (x2).toNat + (x6).toNat))))]) eX0_writeAnswers_101 rfl ob29 rfl ?_
          refine pw_goto eX0_writeAnswers_104 ?_
          obtain ⟨ob30, h⟩ := h
          refine pw_iinc (ls2 := [some (Aq r0), some (Iq x1), some (Iq x2), some (Iq x3), some (Iq x4), some (Iq (x5 + 1)), some (Iq (x6 + 1)), some (Iq (slipV (mem (r0 + 2) (6 * (x1).toNat)) (mem r0 8) x6 (mem (r0 + 3) (8 * (x2).toNat + (x6).toNat))))]) eX0_writeAnswers_122 rfl ob30 rfl ?_
          refine pw_goto eX0_writeAnswers_125 ?_
          exact pw_drop (bs := [true, true, true, true, true, true, true, false]) h
    · have h := h.1 (Classical.not_not.mp c8)
      refine pw_aload_n eX0_writeAnswers_42 rfl rfl ?_
      refine gf_RX0_9 rfl eX0_writeAnswers_43 (shR hr0) ?_
      refine pw_iload eX0_writeAnswers_46 rfl ?_
      obtain ⟨ob31, h⟩ := h
      refine pw_iald eX0_writeAnswers_48 (shR1 hr0) ob31 ?_
      refine pw_istore (ls2 := [some (Aq r0), some (Iq x1), some (Iq x2), some (Iq x3), some (Iq x4), some (Iq x5), some (Iq x6), some (Iq (mem (r0 + 1) (x6).toNat))]) eX0_writeAnswers_49 (by decide) rfl ?_
      refine pw_goto eX0_writeAnswers_51 ?_
      refine pw_aload_n eX0_writeAnswers_75 rfl rfl ?_
      refine gf_RX0_18 rfl eX0_writeAnswers_76 (shR hr0) ?_
      refine pw_iload_n eX0_writeAnswers_79 rfl rfl ?_
      refine pw_bipush eX0_writeAnswers_80 ⟨by decide, by decide⟩ (by decide) ?_
      obtain ⟨ob32, h⟩ := h
      refine pw_imul eX0_writeAnswers_82 ob32 ?_
      refine pw_iload eX0_writeAnswers_83 rfl ?_
      obtain ⟨ob33, h⟩ := h
      refine pw_iadd eX0_writeAnswers_85 ob33 ?_
      refine pw_iload eX0_writeAnswers_86 rfl ?_
      obtain ⟨ob34, h⟩ := h
      refine pw_iast eX0_writeAnswers_88 (shR3 hr0) ob34 ?_
      refine pw_iload eX0_writeAnswers_89 rfl ?_
      refine pw_aload_n eX0_writeAnswers_91 rfl rfl ?_
      refine gf_RX0_9 rfl eX0_writeAnswers_92 (shR hr0) ?_
      refine pw_iload eX0_writeAnswers_95 rfl ?_
      obtain ⟨ob35, h⟩ := h
      refine pw_iald eX0_writeAnswers_97 (shR1 hr0) ob35 ?_
      refine pw_icmp_ne eX0_writeAnswers_98 (fun c36 => ?_) (fun c36 => ?_)
      · have h := h.2 c36
        refine pw_iload eX0_writeAnswers_107 rfl ?_
        refine pw_iconst eX0_writeAnswers_109 ⟨by decide, by decide⟩ ?_
        refine pw_icmp_eq eX0_writeAnswers_110 (fun c37 => ?_) (fun c37 => ?_)
        · have h := h.1 c37
          obtain ⟨ob38, h⟩ := h
          refine pw_iinc (ls2 := [some (Aq r0), some (Iq x1), some (Iq x2), some (Iq x3), some (Iq x4), some (Iq x5), some (Iq (x6 + 1)), some (Iq (mem (r0 + 1) (x6).toNat))]) eX0_writeAnswers_122 rfl ob38 rfl ?_
          refine pw_goto eX0_writeAnswers_125 ?_
          exact pw_drop (bs := [true, true, true, true, true, true, true, false]) h
        · have h := h.2 c37
          refine pw_iload eX0_writeAnswers_113 rfl ?_
          refine pw_iconst eX0_writeAnswers_115 ⟨by decide, by decide⟩ ?_
          refine pw_iload eX0_writeAnswers_116 rfl ?_
          refine pw_ishl eX0_writeAnswers_118 ?_
          refine pw_ior eX0_writeAnswers_119 ?_
          refine pw_istore (ls2 := [some (Aq r0), some (Iq x1), some (Iq x2), some (Iq x3), some (Iq (bOr x4 (bShl 1 x6))), some (Iq x5), some (Iq x6), some (Iq (mem (r0 + 1) (x6).toNat))]) eX0_writeAnswers_120 (by decide) rfl ?_
          obtain ⟨ob39, h⟩ := h
          refine pw_iinc (ls2 := [some (Aq r0), some (Iq x1), some (Iq x2), some (Iq x3), some (Iq (bOr x4 (bShl 1 x6))), some (Iq x5), some (Iq (x6 + 1)), some (Iq (mem (r0 + 1) (x6).toNat))]) eX0_writeAnswers_122 rfl ob39 rfl ?_
          refine pw_goto eX0_writeAnswers_125 ?_
          exact pw_drop (bs := [true, true, true, true, true, true, true, false]) h
      · have h := h.1 (Classical.not_not.mp c36)
        obtain ⟨ob40, h⟩ := h
        refine pw_iinc (ls2 := [some (Aq r0), some (Iq x1), some (Iq x2), some (Iq x3), some (Iq x4), some (Iq (x5 + 1)), some (Iq x6), some (Iq (mem (r0 + 1) (x6).toNat))]) eX0_writeAnswers_101 rfl ob40 rfl ?_
        refine pw_goto eX0_writeAnswers_104 ?_
        obtain ⟨ob41, h⟩ := h
        refine pw_iinc (ls2 := [some (Aq r0), some (Iq x1), some (Iq x2), some (Iq x3), some (Iq x4), some (Iq (x5 + 1)), some (Iq (x6 + 1)), some (Iq (mem (r0 + 1) (x6).toNat))]) eX0_writeAnswers_122 rfl ob41 rfl ?_
        refine pw_goto eX0_writeAnswers_125 ?_
        exact pw_drop (bs := [true, true, true, true, true, true, true, false]) h
set_option maxRecDepth 100000 in
theorem rg_X0_markAnswers_0 {S : Sx} {Q : Option PV → Zm → Prop} {mem : Zm}  {r0 : Nat} (hr0 : isRoom r0)
    (h : (∃ (v1 : Int) (m2 : Zm), Ct1 S mX0_childrenAlike [Aq r0] mem (some (Iq v1)) m2 ∧ (PW S mX0_markAnswers Q 7 [some (Aq r0), some (Iq v1), some (Iq 0)] [] m2))) :
    PW S mX0_markAnswers Q 0 [some (Aq r0), none, none] [] mem := by
  refine pw_aload_n eX0_markAnswers_0 rfl rfl ?_
  obtain ⟨v1, m2, hc3, h⟩ := h
  refine pw_cV (z := mX0_childrenAlike) (av := []) (st := []) eX0_markAnswers_1 lk_RX0_112 rfl (by decide) (by decide) (shR hr0) rfl rfl (Nat.le_of_ble_eq_true rfl) rfl hc3 ?_
  show PW S mX0_markAnswers Q 4 [some (Aq r0), none, none] [Iq v1] m2
  refine pw_istore_n (ls2 := [some (Aq r0), some (Iq v1), none]) eX0_markAnswers_4 rfl (by decide) rfl ?_
  refine pw_iconst eX0_markAnswers_5 ⟨by decide, by decide⟩ ?_
  refine pw_istore_n (ls2 := [some (Aq r0), some (Iq v1), some (Iq 0)]) eX0_markAnswers_6 rfl (by decide) rfl ?_
  exact h

set_option maxRecDepth 100000 in
theorem rg_X0_markAnswers_7 {S : Sx} {Q : Option PV → Zm → Prop} {mem : Zm}  {r0 : Nat} {x1 x2 : Int} (hr0 : isRoom r0)
    (h : (((mem r0 7 ≤ x2) → (Q none mem)) ∧ (¬ (mem r0 7 ≤ x2) → ((((bAnd (bShr x1 x2) 1 = 1) → ((0 ≤ x2 ∧ x2 < 8) ∧ (in32 ((mem (r0 + 2) (6 * (x2).toNat + 5)) + 1)) ∧ (0 ≤ x2 ∧ x2 < 8) ∧ (0 ≤ x2 ∧ x2 < 8) ∧ (0 ≤ (mup mem (r0 + 2) (6 * (x2).toNat + 5) (min 9999 ((mem (r0 + 2) (6 * (x2).toNat + 5)) + 1))) r0 8) ∧ (0 ≤ x2 ∧ x2 < 8) ∧ (in32 (x2 + 1)) ∧ PW S mX0_markAnswers Q 7 [some (Aq r0), some (Iq x1), some (Iq (x2 + 1))] [] (mup (mup mem (r0 + 2) (6 * (x2).toNat + 5) (min 9999 ((mem (r0 + 2) (6 * (x2).toNat + 5)) + 1))) (r0 + 2) (6 * (x2).toNat + 1) (bOr ((mup mem (r0 + 2) (6 * (x2).toNat + 5) (min 9999 ((mem (r0 + 2) (6 * (x2).toNat + 5)) + 1))) (r0 + 2) (6 * (x2).toNat + 1)) (bShl 1 (((mup mem (r0 + 2) (6 * (x2).toNat + 5) (min 9999 ((mem (r0 + 2) (6 * (x2).toNat + 5)) + 1))) r0 8) % 8)))))) ∧ (¬ (bAnd (bShr x1 x2) 1 = 1) → ((0 ≤ x2 ∧ x2 < 8) ∧ (0 ≤ x2 ∧ x2 < 8) ∧ (in32 ((mem (r0 + 2) (6 * (x2).toNat + 3)) + (mem (r0 + 6) (x2).toNat))) ∧ (0 ≤ x2 ∧ x2 < 8) ∧ (in32 (x2 + 1)) ∧ PW S mX0_markAnswers Q 7 [some (Aq r0), some (Iq x1), some (Iq (x2 + 1))] [] (mup mem (r0 + 2) (6 * (x2).toNat + 3) (min 9999 ((mem (r0 + 2) (6 * (x2).toNat + 3)) + (mem (r0 + 6) (x2).toNat))))))))))) :
    PW S mX0_markAnswers Q 7 [some (Aq r0), some (Iq x1), some (Iq x2)] [] mem := by
  refine pw_iload_n eX0_markAnswers_7 rfl rfl ?_
  refine pw_aload_n eX0_markAnswers_8 rfl rfl ?_
  refine gf_RX0_34 rfl eX0_markAnswers_9 (shR hr0) ?_
  refine pw_icmp_ge eX0_markAnswers_12 (fun c1 => ?_) (fun c1 => ?_)
  · have h := h.1 c1
    exact pw_vret eX0_markAnswers_100 h
  · have h := h.2 c1
    refine pw_iload_n eX0_markAnswers_15 rfl rfl ?_
    refine pw_iload_n eX0_markAnswers_16 rfl rfl ?_
    refine pw_ishr eX0_markAnswers_17 ?_
    refine pw_iconst eX0_markAnswers_18 ⟨by decide, by decide⟩ ?_
    refine pw_iand eX0_markAnswers_19 ?_
    refine pw_iconst eX0_markAnswers_20 ⟨by decide, by decide⟩ ?_
    refine pw_icmp_ne eX0_markAnswers_21 (fun c2 => ?_) (fun c2 => ?_)
    · have h := h.2 c2
      refine pw_aload_n eX0_markAnswers_69 rfl rfl ?_
      refine pw_iload_n eX0_markAnswers_70 rfl rfl ?_
      refine pw_iconst eX0_markAnswers_71 ⟨by decide, by decide⟩ ?_
      refine pw_sipush eX0_markAnswers_72 ⟨by decide, by decide⟩ (by decide) ?_
      refine pw_aload_n eX0_markAnswers_75 rfl rfl ?_
      refine pw_iload_n eX0_markAnswers_76 rfl rfl ?_
      refine pw_iconst eX0_markAnswers_77 ⟨by decide, by decide⟩ ?_
      obtain ⟨ob3, h⟩ := h
      refine pw_cV (z := mX0_fact) (av := [Iq x2, Iq 3]) (st := [Iq 9999, Iq 3, Iq x2, Aq r0]) eX0_markAnswers_78 lk_RX0_59 rfl (by decide) (by decide) (shR hr0) rfl rfl (Nat.le_of_ble_eq_true rfl) rfl (ct_X0_fact (mem := mem) hr0 ⟨ob3.1, ob3.2, by decide, by decide⟩) ?_
      show PW S mX0_markAnswers Q 81 [some (Aq r0), some (Iq x1), some (Iq x2)] [Iq (mem (r0 + 2) (6 * (x2).toNat + 3)), Iq 9999, Iq 3, Iq x2, Aq r0] mem
      refine pw_aload_n eX0_markAnswers_81 rfl rfl ?_
      refine gf_RX0_27 rfl eX0_markAnswers_82 (shR hr0) ?_
      refine pw_iload_n eX0_markAnswers_85 rfl rfl ?_
      obtain ⟨ob4, h⟩ := h
      refine pw_iald eX0_markAnswers_86 (shR6 hr0) ob4 ?_
      obtain ⟨ob5, h⟩ := h
      refine pw_iadd eX0_markAnswers_87 ob5 ?_
      refine pw_min eX0_markAnswers_88 lk_RX0_107 (by decide) (Nat.le_of_ble_eq_true rfl) ?_
      obtain ⟨ob6, h⟩ := h
      refine pw_cV (z := mX0_setFact) (av := [Iq x2, Iq 3, Iq (min 9999 ((mem (r0 + 2) (6 * (x2).toNat + 3)) + (mem (r0 + 6) (x2).toNat)))]) (st := []) eX0_markAnswers_91 lk_RX0_55 rfl (by decide) (by decide) (shR hr0) rfl rfl (Nat.le_of_ble_eq_true rfl) rfl (ct_X0_setFact (mem := mem) hr0 ⟨ob6.1, ob6.2, by decide, by decide⟩) ?_
      show PW S mX0_markAnswers Q 94 [some (Aq r0), some (Iq x1), some (Iq x2)] [] (mup mem (r0 + 2) (6 * (x2).toNat + 3) (min 9999 ((mem (r0 + 2) (6 * (x2).toNat + 3)) + (mem (r0 + 6) (x2).toNat))))
      obtain ⟨ob7, h⟩ := h
      refine pw_iinc (ls2 := [some (Aq r0), some (Iq x1), some (Iq (x2 + 1))]) eX0_markAnswers_94 rfl ob7 rfl ?_
      refine pw_goto eX0_markAnswers_97 ?_
      exact h
    · have h := h.1 (Classical.not_not.mp c2)
      refine pw_aload_n eX0_markAnswers_24 rfl rfl ?_
      refine pw_iload_n eX0_markAnswers_25 rfl rfl ?_
      refine pw_iconst eX0_markAnswers_26 ⟨by decide, by decide⟩ ?_
      refine pw_sipush eX0_markAnswers_27 ⟨by decide, by decide⟩ (by decide) ?_
      refine pw_aload_n eX0_markAnswers_30 rfl rfl ?_
      refine pw_iload_n eX0_markAnswers_31 rfl rfl ?_
      refine pw_iconst eX0_markAnswers_32 ⟨by decide, by decide⟩ ?_
      obtain ⟨ob8, h⟩ := h
      refine pw_cV (z := mX0_fact) (av := [Iq x2, Iq 5]) (st := [Iq 9999, Iq 5, Iq x2, Aq r0]) eX0_markAnswers_33 lk_RX0_59 rfl (by decide) (by decide) (shR hr0) rfl rfl (Nat.le_of_ble_eq_true rfl) rfl (ct_X0_fact (mem := mem) hr0 ⟨ob8.1, ob8.2, by decide, by decide⟩) ?_
      show PW S mX0_markAnswers Q 36 [some (Aq r0), some (Iq x1), some (Iq x2)] [Iq (mem (r0 + 2) (6 * (x2).toNat + 5)), Iq 9999, Iq 5, Iq x2, Aq r0] mem
      refine pw_iconst eX0_markAnswers_36 ⟨by decide, by decide⟩ ?_
      obtain ⟨ob9, h⟩ := h
      refine pw_iadd eX0_markAnswers_37 ob9 ?_
      refine pw_min eX0_markAnswers_38 lk_RX0_107 (by decide) (Nat.le_of_ble_eq_true rfl) ?_
      obtain ⟨ob10, h⟩ := h
      refine pw_cV (z := mX0_setFact) (av := [Iq x2, Iq 5, Iq (min 9999 ((mem (r0 + 2) (6 * (x2).toNat + 5)) + 1))]) (st := []) eX0_markAnswers_41 lk_RX0_55 rfl (by decide) (by decide) (shR hr0) rfl rfl (Nat.le_of_ble_eq_true rfl) rfl (ct_X0_setFact (mem := mem) hr0 ⟨ob10.1, ob10.2, by decide, by decide⟩) ?_
      show PW S mX0_markAnswers Q 44 [some (Aq r0), some (Iq x1), some (Iq x2)] [] (mup mem (r0 + 2) (6 * (x2).toNat + 5) (min 9999 ((mem (r0 + 2) (6 * (x2).toNat + 5)) + 1)))
      refine pw_aload_n eX0_markAnswers_44 rfl rfl ?_
      refine pw_iload_n eX0_markAnswers_45 rfl rfl ?_
      refine pw_iconst eX0_markAnswers_46 ⟨by decide, by decide⟩ ?_
      refine pw_aload_n eX0_markAnswers_47 rfl rfl ?_
      refine pw_iload_n eX0_markAnswers_48 rfl rfl ?_
      refine pw_iconst eX0_markAnswers_49 ⟨by decide, by decide⟩ ?_
      obtain ⟨ob11, h⟩ := h
      refine pw_cV (z := mX0_fact) (av := [Iq x2, Iq 1]) (st := [Iq 1, Iq x2, Aq r0]) eX0_markAnswers_50 lk_RX0_59 rfl (by decide) (by decide) (shR hr0) rfl rfl (Nat.le_of_ble_eq_true rfl) rfl (ct_X0_fact (mem := mup mem (r0 + 2) (6 * (x2).toNat + 5) (min 9999 ((mem (r0 + 2) (6 * (x2).toNat + 5)) + 1))) hr0 ⟨ob11.1, ob11.2, by decide, by decide⟩) ?_
      show PW S mX0_markAnswers Q 53 [some (Aq r0), some (Iq x1), some (Iq x2)] [Iq ((mup mem (r0 + 2) (6 * (x2).toNat + 5) (min 9999 ((mem (r0 + 2) (6 * (x2).toNat + 5)) + 1))) (r0 + 2) (6 * (x2).toNat + 1)), Iq 1, Iq x2, Aq r0] (mup mem (r0 + 2) (6 * (x2).toNat + 5) (min 9999 ((mem (r0 + 2) (6 * (x2).toNat + 5)) + 1)))
      refine pw_iconst eX0_markAnswers_53 ⟨by decide, by decide⟩ ?_
      refine pw_aload_n eX0_markAnswers_54 rfl rfl ?_
      refine gf_RX0_37 rfl eX0_markAnswers_55 (shR hr0) ?_
      refine pw_bipush eX0_markAnswers_58 ⟨by decide, by decide⟩ (by decide) ?_
      obtain ⟨ob12, h⟩ := h
      refine pw_irem eX0_markAnswers_60 ob12 (by decide) ?_
      refine pw_ishl eX0_markAnswers_61 ?_
      refine pw_ior eX0_markAnswers_62 ?_
      obtain ⟨ob13, h⟩ := h
      refine pw_cV (z := mX0_setFact) (av := [Iq x2, Iq 1, Iq (bOr ((mup mem (r0 + 2) (6 * (x2).toNat + 5) (min 9999 ((mem (r0 + 2) (6 * (x2).toNat + 5)) + 1))) (r0 + 2) (6 * (x2).toNat + 1)) (bShl 1 (((mup mem (r0 + 2) (6 * (x2).toNat + 5) (min 9999 ((mem (r0 + 2) (6 * (x2).toNat + 5)) + 1))) r0 8) % 8)))]) (st := []) eX0_markAnswers_63 lk_RX0_55 rfl (by decide) (by decide) (shR hr0) rfl rfl (Nat.le_of_ble_eq_true rfl) rfl (ct_X0_setFact (mem := mup mem (r0 + 2) (6 * (x2).toNat + 5) (min 9999 ((mem (r0 + 2) (6 * (x2).toNat + 5)) + 1))) hr0 ⟨ob13.1, ob13.2, by decide, by decide⟩) ?_
      show PW S mX0_markAnswers Q 66 [some (Aq r0), some (Iq x1), some (Iq x2)] [] (mup (mup mem (r0 + 2) (6 * (x2).toNat + 5) (min 9999 ((mem (r0 + 2) (6 * (x2).toNat + 5)) + 1))) (r0 + 2) (6 * (x2).toNat + 1) (bOr ((mup mem (r0 + 2) (6 * (x2).toNat + 5) (min 9999 ((mem (r0 + 2) (6 * (x2).toNat + 5)) + 1))) (r0 + 2) (6 * (x2).toNat + 1)) (bShl 1 (((mup mem (r0 + 2) (6 * (x2).toNat + 5) (min 9999 ((mem (r0 + 2) (6 * (x2).toNat + 5)) + 1))) r0 8) % 8))))
      refine pw_goto eX0_markAnswers_66 ?_
      obtain ⟨ob14, h⟩ := h
      refine pw_iinc (ls2 := [some (Aq r0), some (Iq x1), some (Iq (x2 + 1))]) eX0_markAnswers_94 rfl ob14 rfl ?_
      refine pw_goto eX0_markAnswers_97 ?_
      exact h
set_option maxRecDepth 100000 in
theorem rg_X2_readChild_0 {S : Sx} {Q : Option PV → Zm → Prop} {mem : Zm}  {r1 : Nat} {x2 : Int} (hr1 : isRoom r1)
    (h : (((mem r1 7 < 8) → ((∃ (v2 : Int) (m3 : Zm), Ct1 S mX0_addChild [Aq r1, Iq x2, Iq 0] mem (some (Iq v2)) m3 ∧ ((∃ (m6 : Zm), Ct1 S mX2_nextToken [Aq 22] m3 none m6 ∧ ((∃ (v8 : Int) (m9 : Zm), Ct1 S mX2_readPerhaps [Aq 22, Aq r1, Iq v2, Jq 461414299507, Iq 1, Iq 255] m6 (some (Iq v8)) m9 ∧ ((((v8 = 0) → (Q (some (Iq 0)) m9)) ∧ (¬ (v8 = 0) → ((in32 (v2 - 1)) ∧ (∃ (v13 : Int) (m14 : Zm), Ct1 S mX2_readPerhaps [Aq 22, Aq r1, Iq v2, Jq 1718775661, Iq 2, Iq (v2 - 1)] m9 (some (Iq v13)) m14 ∧ ((((v13 = 0) → (Q (some (Iq 0)) m14)) ∧ (¬ (v13 = 0) → ((∃ (v17 : Int) (m18 : Zm), Ct1 S mX2_readPerhaps [Aq 22, Aq r1, Iq v2, Jq 7091325959280358515, Iq 4, Iq 999] m14 (some (Iq v17)) m18 ∧ ((((v17 = 0) → (Q (some (Iq 0)) m18)) ∧ (¬ (v17 = 0) → (Q (some (Iq 1)) m18))))))))))))))))))))) ∧ (¬ (mem r1 7 < 8) → (Q (some (Iq 0)) mem)))) :
    PW S mX2_readChild Q 0 [some (Aq 22), some (Aq r1), some (Iq x2), none] [] mem := by
  refine pw_aload_n eX2_readChild_0 rfl rfl ?_
  refine gf_RX2_73 rfl eX2_readChild_1 (shR hr1) ?_
  refine pw_bipush eX2_readChild_4 ⟨by decide, by decide⟩ (by decide) ?_
  refine pw_icmp_lt eX2_readChild_6 (fun c1 => ?_) (fun c1 => ?_)
  · have h := h.1 c1
    refine pw_aload_n eX2_readChild_11 rfl rfl ?_
    refine pw_iload_n eX2_readChild_12 rfl rfl ?_
    refine pw_iconst eX2_readChild_13 ⟨by decide, by decide⟩ ?_
    obtain ⟨v2, m3, hc4, h⟩ := h
    refine pw_cV (z := mX0_addChild) (av := [Iq x2, Iq 0]) (st := []) eX2_readChild_14 lk_RX2_76 rfl (by decide) (by decide) (shR hr1) rfl rfl (Nat.le_of_ble_eq_true rfl) rfl hc4 ?_
    show PW S mX2_readChild Q 17 [some (Aq 22), some (Aq r1), some (Iq x2), none] [Iq v2] m3
    refine pw_istore_n (ls2 := [some (Aq 22), some (Aq r1), some (Iq x2), some (Iq v2)]) eX2_readChild_17 rfl (by decide) rfl ?_
    refine pw_aload_n eX2_readChild_18 rfl rfl ?_
    obtain ⟨m6, hc7, h⟩ := h
    refine pw_cV (z := mX2_nextToken) (av := []) (st := []) eX2_readChild_19 lk_RX2_35 rfl (by decide) (by decide) sh22 rfl rfl (Nat.le_of_ble_eq_true rfl) rfl hc7 ?_
    show PW S mX2_readChild Q 22 [some (Aq 22), some (Aq r1), some (Iq x2), some (Iq v2)] [] m6
    refine pw_aload_n eX2_readChild_22 rfl rfl ?_
    refine pw_aload_n eX2_readChild_23 rfl rfl ?_
    refine pw_iload_n eX2_readChild_24 rfl rfl ?_
    refine pw_ldc2 (n := 461414299507) eX2_readChild_25 ⟨by decide, by decide⟩ kc_RX2_80 ?_
    refine pw_iconst eX2_readChild_28 ⟨by decide, by decide⟩ ?_
    refine pw_sipush eX2_readChild_29 ⟨by decide, by decide⟩ (by decide) ?_
    obtain ⟨v8, m9, hc10, h⟩ := h
    refine pw_cV (z := mX2_readPerhaps) (av := [Aq r1, Iq v2, Jq 461414299507, Iq 1, Iq 255]) (st := []) eX2_readChild_32 lk_RX2_82 rfl (by decide) (by decide) sh22 rfl rfl (Nat.le_of_ble_eq_true rfl) rfl hc10 ?_
    show PW S mX2_readChild Q 35 [some (Aq 22), some (Aq r1), some (Iq x2), some (Iq v2)] [Iq v8] m9
    refine pw_if_eq eX2_readChild_35 (fun c11 => ?_) (fun c11 => ?_)
    · have h := h.1 c11
      refine pw_iconst eX2_readChild_74 ⟨by decide, by decide⟩ ?_
      exact pw_iret eX2_readChild_75 h
    · have h := h.2 c11
      refine pw_aload_n eX2_readChild_38 rfl rfl ?_
      refine pw_aload_n eX2_readChild_39 rfl rfl ?_
      refine pw_iload_n eX2_readChild_40 rfl rfl ?_
      refine pw_ldc2 (n := 1718775661) eX2_readChild_41 ⟨by decide, by decide⟩ kc_RX2_86 ?_
      refine pw_iconst eX2_readChild_44 ⟨by decide, by decide⟩ ?_
      refine pw_iload_n eX2_readChild_45 rfl rfl ?_
      refine pw_iconst eX2_readChild_46 ⟨by decide, by decide⟩ ?_
      obtain ⟨ob12, h⟩ := h
      refine pw_isub eX2_readChild_47 ob12 ?_
      obtain ⟨v13, m14, hc15, h⟩ := h
      refine pw_cV (z := mX2_readPerhaps) (av := [Aq r1, Iq v2, Jq 1718775661, Iq 2, Iq (v2 - 1)]) (st := []) eX2_readChild_48 lk_RX2_82 rfl (by decide) (by decide) sh22 rfl rfl (Nat.le_of_ble_eq_true rfl) rfl hc15 ?_
      show PW S mX2_readChild Q 51 [some (Aq 22), some (Aq r1), some (Iq x2), some (Iq v2)] [Iq v13] m14
      refine pw_if_eq eX2_readChild_51 (fun c16 => ?_) (fun c16 => ?_)
      · have h := h.1 c16
        refine pw_iconst eX2_readChild_74 ⟨by decide, by decide⟩ ?_
        exact pw_iret eX2_readChild_75 h
      · have h := h.2 c16
        refine pw_aload_n eX2_readChild_54 rfl rfl ?_
        refine pw_aload_n eX2_readChild_55 rfl rfl ?_
        refine pw_iload_n eX2_readChild_56 rfl rfl ?_
        refine pw_ldc2 (n := 7091325959280358515) eX2_readChild_57 ⟨by decide, by decide⟩ kc_RX2_88 ?_
        refine pw_iconst eX2_readChild_60 ⟨by decide, by decide⟩ ?_
        refine pw_sipush eX2_readChild_61 ⟨by decide, by decide⟩ (by decide) ?_
        obtain ⟨v17, m18, hc19, h⟩ := h
        refine pw_cV (z := mX2_readPerhaps) (av := [Aq r1, Iq v2, Jq 7091325959280358515, Iq 4, Iq 999]) (st := []) eX2_readChild_64 lk_RX2_82 rfl (by decide) (by decide) sh22 rfl rfl (Nat.le_of_ble_eq_true rfl) rfl hc19 ?_
        show PW S mX2_readChild Q 67 [some (Aq 22), some (Aq r1), some (Iq x2), some (Iq v2)] [Iq v17] m18
        refine pw_if_eq eX2_readChild_67 (fun c20 => ?_) (fun c20 => ?_)
        · have h := h.1 c20
          refine pw_iconst eX2_readChild_74 ⟨by decide, by decide⟩ ?_
          exact pw_iret eX2_readChild_75 h
        · have h := h.2 c20
          refine pw_iconst eX2_readChild_70 ⟨by decide, by decide⟩ ?_
          refine pw_goto eX2_readChild_71 ?_
          exact pw_iret eX2_readChild_75 h
  · have h := h.2 c1
    refine pw_iconst eX2_readChild_9 ⟨by decide, by decide⟩ ?_
    exact pw_iret eX2_readChild_10 h
set_option maxRecDepth 100000 in
theorem rg_X3_alike_0 {S : Sx} {Q : Option PV → Zm → Prop} {mem : Zm}   {x1 x2 : Int} 
    (h : (((0 ≤ x1 ∧ x1 < mem 1 7) → ((((0 ≤ x2 ∧ x2 < mem 1 7) → ((((x1 = x2) → ((fOX mem (-1000001)) ∧ Q (some (Iq (-1000001))) (fndx mem (-1000001)))) ∧ (¬ (x1 = x2) → ((∃ (v6 : Int) (m7 : Zm), Ct1 S mX0_alikeSums [Aq 1, Iq x1, Iq x2] mem (some (Iq v6)) m7 ∧ (Q (some (Iq v6)) m7))))))) ∧ (¬ (0 ≤ x2 ∧ x2 < mem 1 7) → ((fOX mem (-1000001)) ∧ Q (some (Iq (-1000001))) (fndx mem (-1000001))))))) ∧ (¬ (0 ≤ x1 ∧ x1 < mem 1 7) → ((fOX mem (-1000001)) ∧ Q (some (Iq (-1000001))) (fndx mem (-1000001)))))) :
    PW S mX3_alike Q 0 [some (Aq 0), some (Iq x1), some (Iq x2)] [] mem := by
  refine pw_aload_n eX3_alike_0 rfl rfl ?_
  refine gf_RX3_10 rfl eX3_alike_1 sh0 ?_
  refine pw_iload_n eX3_alike_4 rfl rfl ?_
  refine pw_cV (z := mX0_has) (av := [Iq x1]) (st := []) eX3_alike_5 lk_RX3_68 rfl (by decide) (by decide) (shR isR1) rfl rfl (Nat.le_of_ble_eq_true rfl) rfl (ct_X0_has (mem := mem) isR1) ?_
  show PW S mX3_alike Q 8 [some (Aq 0), some (Iq x1), some (Iq x2)] [Iq (bI (0 ≤ x1 ∧ x1 < mem 1 7))] mem
  refine pw_if_eq eX3_alike_8 (fun c1 => ?_) (fun c1 => ?_)
  · have h := h.2 (bI0.mp c1)
    refine pw_aload_n eX3_alike_27 rfl rfl ?_
    refine pw_ldc (n := (-1000001)) eX3_alike_28 ⟨by decide, by decide⟩ kc_RX3_48 ?_
    obtain ⟨ob2, h⟩ := h
    refine pw_cV (z := mX3_finding) (av := [Iq (-1000001)]) (st := []) eX3_alike_30 lk_RX3_49 rfl (by decide) (by decide) sh0 rfl rfl (Nat.le_of_ble_eq_true rfl) rfl (ct_X3_finding (mem := mem) ob2) ?_
    show PW S mX3_alike Q 33 [some (Aq 0), some (Iq x1), some (Iq x2)] [Iq (-1000001)] (fndx mem (-1000001))
    exact pw_iret eX3_alike_33 h
  · have h := h.1 (bI1.mp c1)
    refine pw_aload_n eX3_alike_11 rfl rfl ?_
    refine gf_RX3_10 rfl eX3_alike_12 sh0 ?_
    refine pw_iload_n eX3_alike_15 rfl rfl ?_
    refine pw_cV (z := mX0_has) (av := [Iq x2]) (st := []) eX3_alike_16 lk_RX3_68 rfl (by decide) (by decide) (shR isR1) rfl rfl (Nat.le_of_ble_eq_true rfl) rfl (ct_X0_has (mem := mem) isR1) ?_
    show PW S mX3_alike Q 19 [some (Aq 0), some (Iq x1), some (Iq x2)] [Iq (bI (0 ≤ x2 ∧ x2 < mem 1 7))] mem
    refine pw_if_eq eX3_alike_19 (fun c3 => ?_) (fun c3 => ?_)
    · have h := h.2 (bI0.mp c3)
      refine pw_aload_n eX3_alike_27 rfl rfl ?_
      refine pw_ldc (n := (-1000001)) eX3_alike_28 ⟨by decide, by decide⟩ kc_RX3_48 ?_
      obtain ⟨ob4, h⟩ := h
      refine pw_cV (z := mX3_finding) (av := [Iq (-1000001)]) (st := []) eX3_alike_30 lk_RX3_49 rfl (by decide) (by decide) sh0 rfl rfl (Nat.le_of_ble_eq_true rfl) rfl (ct_X3_finding (mem := mem) ob4) ?_
      show PW S mX3_alike Q 33 [some (Aq 0), some (Iq x1), some (Iq x2)] [Iq (-1000001)] (fndx mem (-1000001))
      exact pw_iret eX3_alike_33 h
    · have h := h.1 (bI1.mp c3)
      refine pw_iload_n eX3_alike_22 rfl rfl ?_
      refine pw_iload_n eX3_alike_23 rfl rfl ?_
      refine pw_icmp_ne eX3_alike_24 (fun c5 => ?_) (fun c5 => ?_)
      · have h := h.2 c5
        refine pw_aload_n eX3_alike_34 rfl rfl ?_
        refine gf_RX3_10 rfl eX3_alike_35 sh0 ?_
        refine pw_iload_n eX3_alike_38 rfl rfl ?_
        refine pw_iload_n eX3_alike_39 rfl rfl ?_
        obtain ⟨v6, m7, hc8, h⟩ := h
        refine pw_cV (z := mX0_alikeSums) (av := [Iq x1, Iq x2]) (st := []) eX3_alike_40 lk_RX3_98 rfl (by decide) (by decide) (shR isR1) rfl rfl (Nat.le_of_ble_eq_true rfl) rfl hc8 ?_
        show PW S mX3_alike Q 43 [some (Aq 0), some (Iq x1), some (Iq x2)] [Iq v6] m7
        exact pw_iret eX3_alike_43 h
      · have h := h.1 (Classical.not_not.mp c5)
        refine pw_aload_n eX3_alike_27 rfl rfl ?_
        refine pw_ldc (n := (-1000001)) eX3_alike_28 ⟨by decide, by decide⟩ kc_RX3_48 ?_
        obtain ⟨ob9, h⟩ := h
        refine pw_cV (z := mX3_finding) (av := [Iq (-1000001)]) (st := []) eX3_alike_30 lk_RX3_49 rfl (by decide) (by decide) sh0 rfl rfl (Nat.le_of_ble_eq_true rfl) rfl (ct_X3_finding (mem := mem) ob9) ?_
        show PW S mX3_alike Q 33 [some (Aq 0), some (Iq x1), some (Iq x2)] [Iq (-1000001)] (fndx mem (-1000001))
        exact pw_iret eX3_alike_33 h
set_option maxRecDepth 100000 in
theorem rg_X4_marks_0 {S : Sx} {Q : Option PV → Zm → Prop} {mem : Zm}   {x1 : Int} 
    (h : (OKA (mem 35) ∧ 0 ≤ x1 ∧ x1 < mem 35 0) ∧ (((fndN (mem 35) ((x1).toNat) (nA (mem 35)) = true) → ((0 ≤ x1 ∧ x1 < 8) ∧ (0 ≤ x1 ∧ x1 < 8) ∧ (in32 ((mem 35 (12 + 14 * (x1).toNat + 5)) + 1)) ∧ (0 ≤ 12 + 14 * x1 + 5 ∧ 12 + 14 * x1 + 5 < 134) ∧ (0 ≤ x1 ∧ x1 < 8) ∧ (0 ≤ 12 + 14 * x1 + 1 ∧ 12 + 14 * x1 + 1 < 134) ∧ (0 ≤ (mup mem 35 (12 + 14 * x1 + 5).toNat (min 9999 ((mem 35 (12 + 14 * (x1).toNat + 5)) + 1))) 35 1) ∧ (0 ≤ 12 + 14 * x1 + 1 ∧ 12 + 14 * x1 + 1 < 134) ∧ Q none (mup (mup mem 35 (12 + 14 * x1 + 5).toNat (min 9999 ((mem 35 (12 + 14 * (x1).toNat + 5)) + 1))) 35 (12 + 14 * x1 + 1).toNat (bOr ((mup mem 35 (12 + 14 * x1 + 5).toNat (min 9999 ((mem 35 (12 + 14 * (x1).toNat + 5)) + 1))) 35 (12 + 14 * x1 + 1).toNat) (bShl 1 (((mup mem 35 (12 + 14 * x1 + 5).toNat (min 9999 ((mem 35 (12 + 14 * (x1).toNat + 5)) + 1))) 35 1) % 8)))))) ∧ (¬ (fndN (mem 35) ((x1).toNat) (nA (mem 35)) = true) → (PW S mX4_marks Q 61 [some (Aq 34), some (Iq x1), some (Iq 0), some (Iq 0)] [] mem)))) :
    PW S mX4_marks Q 0 [some (Aq 34), some (Iq x1), none, none] [] mem := by
  refine pw_aload_n eX4_marks_0 rfl rfl ?_
  refine pw_iload_n eX4_marks_1 rfl rfl ?_
  obtain ⟨ob1, h⟩ := h
  refine pw_cV (z := mX4_isFound) (av := [Iq x1]) (st := []) eX4_marks_2 lk_RX4_114 rfl (by decide) (by decide) sh34 rfl rfl (Nat.le_of_ble_eq_true rfl) rfl (ct_X4_isFound (mem := mem) ob1) ?_
  show PW S mX4_marks Q 5 [some (Aq 34), some (Iq x1), none, none] [Iq (bI (fndN (mem 35) ((x1).toNat) (nA (mem 35)) = true))] mem
  refine pw_if_eq eX4_marks_5 (fun c2 => ?_) (fun c2 => ?_)
  · have h := h.2 (bI0.mp c2)
    refine pw_iconst eX4_marks_57 ⟨by decide, by decide⟩ ?_
    refine pw_istore_n (ls2 := [some (Aq 34), some (Iq x1), some (Iq 0), none]) eX4_marks_58 rfl (by decide) rfl ?_
    refine pw_iconst eX4_marks_59 ⟨by decide, by decide⟩ ?_
    refine pw_istore_n (ls2 := [some (Aq 34), some (Iq x1), some (Iq 0), some (Iq 0)]) eX4_marks_60 rfl (by decide) rfl ?_
    exact h
  · have h := h.1 (bI1.mp c2)
    refine pw_aload_n eX4_marks_8 rfl rfl ?_
    refine gf_RX4_7 rfl eX4_marks_9 sh34 ?_
    refine pw_iload_n eX4_marks_12 rfl rfl ?_
    refine pw_iconst eX4_marks_13 ⟨by decide, by decide⟩ ?_
    obtain ⟨ob3, h⟩ := h
    refine pw_cS (z := mX4_at) (av := [Iq x1, Iq 5]) (st := [Aq 35]) eX4_marks_14 lk_RX4_59 rfl (by decide) (by decide) (Nat.le_of_ble_eq_true rfl) rfl (ct_X4_at (mem := mem) ⟨ob3.1, ob3.2, by decide, by decide⟩) ?_
    show PW S mX4_marks Q 17 [some (Aq 34), some (Iq x1), none, none] [Iq (12 + 14 * x1 + 5), Aq 35] mem
    refine pw_sipush eX4_marks_17 ⟨by decide, by decide⟩ (by decide) ?_
    refine pw_aload_n eX4_marks_20 rfl rfl ?_
    refine pw_iload_n eX4_marks_21 rfl rfl ?_
    refine pw_iconst eX4_marks_22 ⟨by decide, by decide⟩ ?_
    obtain ⟨ob4, h⟩ := h
    refine pw_cV (z := mX4_its) (av := [Iq x1, Iq 5]) (st := [Iq 9999, Iq (12 + 14 * x1 + 5), Aq 35]) eX4_marks_23 lk_RX4_71 rfl (by decide) (by decide) sh34 rfl rfl (Nat.le_of_ble_eq_true rfl) rfl (ct_X4_its (mem := mem) ⟨ob4.1, ob4.2, by decide, by decide⟩) ?_
    show PW S mX4_marks Q 26 [some (Aq 34), some (Iq x1), none, none] [Iq (mem 35 (12 + 14 * (x1).toNat + 5)), Iq 9999, Iq (12 + 14 * x1 + 5), Aq 35] mem
    refine pw_iconst eX4_marks_26 ⟨by decide, by decide⟩ ?_
    obtain ⟨ob5, h⟩ := h
    refine pw_iadd eX4_marks_27 ob5 ?_
    refine pw_cS (z := mX4_least) (av := [Iq 9999, Iq ((mem 35 (12 + 14 * (x1).toNat + 5)) + 1)]) (st := [Iq (12 + 14 * x1 + 5), Aq 35]) eX4_marks_28 lk_RX4_108 rfl (by decide) (by decide) (Nat.le_of_ble_eq_true rfl) rfl (ct_X4_least (mem := mem)) ?_
    show PW S mX4_marks Q 31 [some (Aq 34), some (Iq x1), none, none] [Iq (min 9999 ((mem 35 (12 + 14 * (x1).toNat + 5)) + 1)), Iq (12 + 14 * x1 + 5), Aq 35] mem
    obtain ⟨ob6, h⟩ := h
    refine pw_iast eX4_marks_31 sh35 ob6 ?_
    refine pw_aload_n eX4_marks_32 rfl rfl ?_
    refine gf_RX4_7 rfl eX4_marks_33 sh34 ?_
    refine pw_iload_n eX4_marks_36 rfl rfl ?_
    refine pw_iconst eX4_marks_37 ⟨by decide, by decide⟩ ?_
    obtain ⟨ob7, h⟩ := h
    refine pw_cS (z := mX4_at) (av := [Iq x1, Iq 1]) (st := [Aq 35]) eX4_marks_38 lk_RX4_59 rfl (by decide) (by decide) (Nat.le_of_ble_eq_true rfl) rfl (ct_X4_at (mem := mup mem 35 (12 + 14 * x1 + 5).toNat (min 9999 ((mem 35 (12 + 14 * (x1).toNat + 5)) + 1))) ⟨ob7.1, ob7.2, by decide, by decide⟩) ?_
    show PW S mX4_marks Q 41 [some (Aq 34), some (Iq x1), none, none] [Iq (12 + 14 * x1 + 1), Aq 35] (mup mem 35 (12 + 14 * x1 + 5).toNat (min 9999 ((mem 35 (12 + 14 * (x1).toNat + 5)) + 1)))
    refine pw_dup2 eX4_marks_41 rfl rfl ?_
    obtain ⟨ob8, h⟩ := h
    refine pw_iald eX4_marks_42 sh35 ob8 ?_
    refine pw_iconst eX4_marks_43 ⟨by decide, by decide⟩ ?_
    refine pw_aload_n eX4_marks_44 rfl rfl ?_
    refine gf_RX4_7 rfl eX4_marks_45 sh34 ?_
    refine pw_iconst eX4_marks_48 ⟨by decide, by decide⟩ ?_
    refine pw_iald eX4_marks_49 sh35 (by decide) ?_
    refine pw_bipush eX4_marks_50 ⟨by decide, by decide⟩ (by decide) ?_
    obtain ⟨ob9, h⟩ := h
    refine pw_irem eX4_marks_52 ob9 (by decide) ?_
    refine pw_ishl eX4_marks_53 ?_
    refine pw_ior eX4_marks_54 ?_
    obtain ⟨ob10, h⟩ := h
    refine pw_iast eX4_marks_55 sh35 ob10 ?_
    exact pw_vret eX4_marks_56 h

set_option maxRecDepth 100000 in
theorem rg_X4_marks_61 {S : Sx} {Q : Option PV → Zm → Prop} {mem : Zm}   {x1 x2 x3 : Int} 
    (h : (((8 ≤ x3) → ((0 ≤ x1 ∧ x1 < 8) ∧ (0 ≤ x1 ∧ x1 < 8) ∧ (in32 ((mem 35 (12 + 14 * (x1).toNat + 3)) + x2)) ∧ (0 ≤ 12 + 14 * x1 + 3 ∧ 12 + 14 * x1 + 3 < 134) ∧ Q none (mup mem 35 (12 + 14 * x1 + 3).toNat (min 9999 ((mem 35 (12 + 14 * (x1).toNat + 3)) + x2))))) ∧ (¬ (8 ≤ x3) → ((in32 (6 + x3)) ∧ (0 ≤ x1 ∧ x1 < 8 ∧ 0 ≤ 6 + x3 ∧ 6 + x3 < 14) ∧ (in32 (4 + x3)) ∧ (0 ≤ 4 + x3 ∧ 4 + x3 < 134) ∧ (((mem 35 (12 + 14 * (x1).toNat + (6 + x3).toNat) = mem 35 (4 + x3).toNat) → ((in32 (x2 + 1)) ∧ (in32 (x3 + 1)) ∧ PW S mX4_marks Q 61 [some (Aq 34), some (Iq x1), some (Iq (x2 + 1)), some (Iq (x3 + 1))] [] mem)) ∧ (¬ (mem 35 (12 + 14 * (x1).toNat + (6 + x3).toNat) = mem 35 (4 + x3).toNat) → ((in32 (x2 + 0)) ∧ (in32 (x3 + 1)) ∧ PW S mX4_marks Q 61 [some (Aq 34), some (Iq x1), some (Iq (x2 + 0)), some (Iq (x3 + 1))] [] mem))))))) :
    PW S mX4_marks Q 61 [some (Aq 34), some (Iq x1), some (Iq x2), some (Iq x3)] [] mem := by
  refine pw_iload_n eX4_marks_61 rfl rfl ?_
  refine pw_bipush eX4_marks_62 ⟨by decide, by decide⟩ (by decide) ?_
  refine pw_icmp_ge eX4_marks_64 (fun c1 => ?_) (fun c1 => ?_)
  · have h := h.1 c1
    refine pw_aload_n eX4_marks_101 rfl rfl ?_
    refine gf_RX4_7 rfl eX4_marks_102 sh34 ?_
    refine pw_iload_n eX4_marks_105 rfl rfl ?_
    refine pw_iconst eX4_marks_106 ⟨by decide, by decide⟩ ?_
    obtain ⟨ob2, h⟩ := h
    refine pw_cS (z := mX4_at) (av := [Iq x1, Iq 3]) (st := [Aq 35]) eX4_marks_107 lk_RX4_59 rfl (by decide) (by decide) (Nat.le_of_ble_eq_true rfl) rfl (ct_X4_at (mem := mem) ⟨ob2.1, ob2.2, by decide, by decide⟩) ?_
    show PW S mX4_marks Q 110 [some (Aq 34), some (Iq x1), some (Iq x2), some (Iq x3)] [Iq (12 + 14 * x1 + 3), Aq 35] mem
    refine pw_sipush eX4_marks_110 ⟨by decide, by decide⟩ (by decide) ?_
    refine pw_aload_n eX4_marks_113 rfl rfl ?_
    refine pw_iload_n eX4_marks_114 rfl rfl ?_
    refine pw_iconst eX4_marks_115 ⟨by decide, by decide⟩ ?_
    obtain ⟨ob3, h⟩ := h
    refine pw_cV (z := mX4_its) (av := [Iq x1, Iq 3]) (st := [Iq 9999, Iq (12 + 14 * x1 + 3), Aq 35]) eX4_marks_116 lk_RX4_71 rfl (by decide) (by decide) sh34 rfl rfl (Nat.le_of_ble_eq_true rfl) rfl (ct_X4_its (mem := mem) ⟨ob3.1, ob3.2, by decide, by decide⟩) ?_
    show PW S mX4_marks Q 119 [some (Aq 34), some (Iq x1), some (Iq x2), some (Iq x3)] [Iq (mem 35 (12 + 14 * (x1).toNat + 3)), Iq 9999, Iq (12 + 14 * x1 + 3), Aq 35] mem
    refine pw_iload_n eX4_marks_119 rfl rfl ?_
    obtain ⟨ob4, h⟩ := h
    refine pw_iadd eX4_marks_120 ob4 ?_
    refine pw_cS (z := mX4_least) (av := [Iq 9999, Iq ((mem 35 (12 + 14 * (x1).toNat + 3)) + x2)]) (st := [Iq (12 + 14 * x1 + 3), Aq 35]) eX4_marks_121 lk_RX4_108 rfl (by decide) (by decide) (Nat.le_of_ble_eq_true rfl) rfl (ct_X4_least (mem := mem)) ?_
    show PW S mX4_marks Q 124 [some (Aq 34), some (Iq x1), some (Iq x2), some (Iq x3)] [Iq (min 9999 ((mem 35 (12 + 14 * (x1).toNat + 3)) + x2)), Iq (12 + 14 * x1 + 3), Aq 35] mem
    obtain ⟨ob5, h⟩ := h
    refine pw_iast eX4_marks_124 sh35 ob5 ?_
    exact pw_vret eX4_marks_125 h
  · have h := h.2 c1
    refine pw_iload_n eX4_marks_67 rfl rfl ?_
    refine pw_aload_n eX4_marks_68 rfl rfl ?_
    refine pw_iload_n eX4_marks_69 rfl rfl ?_
    refine pw_bipush eX4_marks_70 ⟨by decide, by decide⟩ (by decide) ?_
    refine pw_iload_n eX4_marks_72 rfl rfl ?_
    obtain ⟨ob6, h⟩ := h
    refine pw_iadd eX4_marks_73 ob6 ?_
    obtain ⟨ob7, h⟩ := h
    refine pw_cV (z := mX4_its) (av := [Iq x1, Iq (6 + x3)]) (st := [Iq x2]) eX4_marks_74 lk_RX4_71 rfl (by decide) (by decide) sh34 rfl rfl (Nat.le_of_ble_eq_true rfl) rfl (ct_X4_its (mem := mem) ob7) ?_
    show PW S mX4_marks Q 77 [some (Aq 34), some (Iq x1), some (Iq x2), some (Iq x3)] [Iq (mem 35 (12 + 14 * (x1).toNat + (6 + x3).toNat)), Iq x2] mem
    refine pw_aload_n eX4_marks_77 rfl rfl ?_
    refine gf_RX4_7 rfl eX4_marks_78 sh34 ?_
    refine pw_iconst eX4_marks_81 ⟨by decide, by decide⟩ ?_
    refine pw_iload_n eX4_marks_82 rfl rfl ?_
    obtain ⟨ob8, h⟩ := h
    refine pw_iadd eX4_marks_83 ob8 ?_
    obtain ⟨ob9, h⟩ := h
    refine pw_iald eX4_marks_84 sh35 ob9 ?_
    refine pw_icmp_ne eX4_marks_85 (fun c10 => ?_) (fun c10 => ?_)
    · have h := h.2 c10
      refine pw_iconst eX4_marks_92 ⟨by decide, by decide⟩ ?_
      obtain ⟨ob11, h⟩ := h
      refine pw_iadd eX4_marks_93 ob11 ?_
      refine pw_istore_n (ls2 := [some (Aq 34), some (Iq x1), some (Iq (x2 + 0)), some (Iq x3)]) eX4_marks_94 rfl (by decide) rfl ?_
      obtain ⟨ob12, h⟩ := h
      refine pw_iinc (ls2 := [some (Aq 34), some (Iq x1), some (Iq (x2 + 0)), some (Iq (x3 + 1))]) eX4_marks_95 rfl ob12 rfl ?_
      refine pw_goto eX4_marks_98 ?_
      exact h
    · have h := h.1 (Classical.not_not.mp c10)
      refine pw_iconst eX4_marks_88 ⟨by decide, by decide⟩ ?_
      refine pw_goto eX4_marks_89 ?_
      obtain ⟨ob13, h⟩ := h
      refine pw_iadd eX4_marks_93 ob13 ?_
      refine pw_istore_n (ls2 := [some (Aq 34), some (Iq x1), some (Iq (x2 + 1)), some (Iq x3)]) eX4_marks_94 rfl (by decide) rfl ?_
      obtain ⟨ob14, h⟩ := h
      refine pw_iinc (ls2 := [some (Aq 34), some (Iq x1), some (Iq (x2 + 1)), some (Iq (x3 + 1))]) eX4_marks_95 rfl ob14 rfl ?_
      refine pw_goto eX4_marks_98 ?_
      exact h
set_option maxRecDepth 100000 in
theorem rg_X4_kindHere_0 {S : Sx} {Q : Option PV → Zm → Prop} {mem : Zm}   
    (h : (∃ (v1 : Int) (m2 : Zm), Ct1 S mX4_isFive [Aq 34, Iq 99, Iq 104, Iq 105, Iq 108, Iq 100] mem (some (Iq v1)) m2 ∧ ((((v1 = 0) → ((in32 (m2 34 15 - m2 34 14)) ∧ (((m2 34 13 = 1 ∧ m2 34 15 - m2 34 14 = 3) → ((∃ (v27 : Int) (m28 : Zm), Ct1 S mX4_has3 [Aq 34, Iq 0, Iq 115, Iq 108, Iq 121] m2 (some (Iq v27)) m28 ∧ ((((v27 = 0) → ((∃ (v31 : Int) (m32 : Zm), Ct1 S mX4_isSix [Aq 34, Iq 115, Iq 108, Iq 111, Iq 112, Iq 112, Iq 121] m28 (some (Iq v31)) m32 ∧ ((((v31 = 0) → ((∃ (v35 : Int) (m36 : Zm), Ct1 S mX4_isFive [Aq 34, Iq 115, Iq 101, Iq 118, Iq 101, Iq 110] m32 (some (Iq v35)) m36 ∧ ((((v35 = 0) → ((∃ (v39 : Int) (m40 : Zm), Ct1 S mX4_isFour [Aq 34, Iq 108, Iq 97, Iq 122, Iq 121] m36 (some (Iq v39)) m40 ∧ ((((v39 = 0) → ((∃ (v43 : Int) (m44 : Zm), Ct1 S mX4_isSix [Aq 34, Iq 104, Iq 111, Iq 110, Iq 101, Iq 115, Iq 116] m40 (some (Iq v43)) m44 ∧ ((((v43 = 0) → ((∃ (v47 : Int) (m48 : Zm), Ct1 S mX4_isSix [Aq 34, Iq 115, Iq 101, Iq 108, Iq 108, Iq 101, Iq 114] m44 (some (Iq v47)) m48 ∧ ((((v47 = 0) → (Q (some (Iq (-1))) m48)) ∧ (¬ (v47 = 0) → (Q (some (Iq 6)) m48))))))) ∧ (¬ (v43 = 0) → (Q (some (Iq 5)) m44))))))) ∧ (¬ (v39 = 0) → (Q (some (Iq 4)) m40))))))) ∧ (¬ (v35 = 0) → (Q (some (Iq 3)) m36))))))) ∧ (¬ (v31 = 0) → (Q (some (Iq 2)) m32))))))) ∧ (¬ (v27 = 0) → (Q (some (Iq 1)) m28))))))) ∧ (¬ (m2 34 13 = 1 ∧ m2 34 15 - m2 34 14 = 3) → ((∃ (v7 : Int) (m8 : Zm), Ct1 S mX4_isSix [Aq 34, Iq 115, Iq 108, Iq 111, Iq 112, Iq 112, Iq 121] m2 (some (Iq v7)) m8 ∧ ((((v7 = 0) → ((∃ (v11 : Int) (m12 : Zm), Ct1 S mX4_isFive [Aq 34, Iq 115, Iq 101, Iq 118, Iq 101, Iq 110] m8 (some (Iq v11)) m12 ∧ ((((v11 = 0) → ((∃ (v15 : Int) (m16 : Zm), Ct1 S mX4_isFour [Aq 34, Iq 108, Iq 97, Iq 122, Iq 121] m12 (some (Iq v15)) m16 ∧ ((((v15 = 0) → ((∃ (v19 : Int) (m20 : Zm), Ct1 S mX4_isSix [Aq 34, Iq 104, Iq 111, Iq 110, Iq 101, Iq 115, Iq 116] m16 (some (Iq v19)) m20 ∧ ((((v19 = 0) → ((∃ (v23 : Int) (m24 : Zm), Ct1 S mX4_isSix [Aq 34, Iq 115, Iq 101, Iq 108, Iq 108, Iq 101, Iq 114] m20 (some (Iq v23)) m24 ∧ ((((v23 = 0) → (Q (some (Iq (-1))) m24)) ∧ (¬ (v23 = 0) → (Q (some (Iq 6)) m24))))))) ∧ (¬ (v19 = 0) → (Q (some (Iq 5)) m20))))))) ∧ (¬ (v15 = 0) → (Q (some (Iq 4)) m16))))))) ∧ (¬ (v11 = 0) → (Q (some (Iq 3)) m12))))))) ∧ (¬ (v7 = 0) → (Q (some (Iq 2)) m8)))))))))) ∧ (¬ (v1 = 0) → (Q (some (Iq 0)) m2)))))) :
    PW S mX4_kindHere Q 0 [some (Aq 34)] [] mem := by
  refine pw_aload_n eX4_kindHere_0 rfl rfl ?_
  refine pw_bipush eX4_kindHere_1 ⟨by decide, by decide⟩ (by decide) ?_
  refine pw_bipush eX4_kindHere_3 ⟨by decide, by decide⟩ (by decide) ?_
  refine pw_bipush eX4_kindHere_5 ⟨by decide, by decide⟩ (by decide) ?_
  refine pw_bipush eX4_kindHere_7 ⟨by decide, by decide⟩ (by decide) ?_
  refine pw_bipush eX4_kindHere_9 ⟨by decide, by decide⟩ (by decide) ?_
  obtain ⟨v1, m2, hc3, h⟩ := h
  refine pw_cV (z := mX4_isFive) (av := [Iq 99, Iq 104, Iq 105, Iq 108, Iq 100]) (st := []) eX4_kindHere_11 lk_RX4_240 rfl (by decide) (by decide) sh34 rfl rfl (Nat.le_of_ble_eq_true rfl) rfl hc3 ?_
  show PW S mX4_kindHere Q 14 [some (Aq 34)] [Iq v1] m2
  refine pw_if_eq eX4_kindHere_14 (fun c4 => ?_) (fun c4 => ?_)
  · have h := h.1 c4
    refine pw_aload_n eX4_kindHere_19 rfl rfl ?_
    refine pw_iconst eX4_kindHere_20 ⟨by decide, by decide⟩ ?_
    obtain ⟨ob5, h⟩ := h
    refine pw_cV (z := mX4_isWord) (av := [Iq 3]) (st := []) eX4_kindHere_21 lk_RX4_229 rfl (by decide) (by decide) sh34 rfl rfl (Nat.le_of_ble_eq_true rfl) rfl (ct_X4_isWord (mem := m2) ob5) ?_
    show PW S mX4_kindHere Q 24 [some (Aq 34)] [Iq (bI (m2 34 13 = 1 ∧ m2 34 15 - m2 34 14 = 3))] m2
    refine pw_if_eq eX4_kindHere_24 (fun c6 => ?_) (fun c6 => ?_)
    · have h := h.2 (bI0.mp c6)
      refine pw_aload_n eX4_kindHere_43 rfl rfl ?_
      refine pw_bipush eX4_kindHere_44 ⟨by decide, by decide⟩ (by decide) ?_
      refine pw_bipush eX4_kindHere_46 ⟨by decide, by decide⟩ (by decide) ?_
      refine pw_bipush eX4_kindHere_48 ⟨by decide, by decide⟩ (by decide) ?_
      refine pw_bipush eX4_kindHere_50 ⟨by decide, by decide⟩ (by decide) ?_
      refine pw_bipush eX4_kindHere_52 ⟨by decide, by decide⟩ (by decide) ?_
      refine pw_bipush eX4_kindHere_54 ⟨by decide, by decide⟩ (by decide) ?_
      obtain ⟨v7, m8, hc9, h⟩ := h
      refine pw_cV (z := mX4_isSix) (av := [Iq 115, Iq 108, Iq 111, Iq 112, Iq 112, Iq 121]) (st := []) eX4_kindHere_56 lk_RX4_244 rfl (by decide) (by decide) sh34 rfl rfl (Nat.le_of_ble_eq_true rfl) rfl hc9 ?_
      show PW S mX4_kindHere Q 59 [some (Aq 34)] [Iq v7] m8
      refine pw_if_eq eX4_kindHere_59 (fun c10 => ?_) (fun c10 => ?_)
      · have h := h.1 c10
        refine pw_aload_n eX4_kindHere_64 rfl rfl ?_
        refine pw_bipush eX4_kindHere_65 ⟨by decide, by decide⟩ (by decide) ?_
        refine pw_bipush eX4_kindHere_67 ⟨by decide, by decide⟩ (by decide) ?_
        refine pw_bipush eX4_kindHere_69 ⟨by decide, by decide⟩ (by decide) ?_
        refine pw_bipush eX4_kindHere_71 ⟨by decide, by decide⟩ (by decide) ?_
        refine pw_bipush eX4_kindHere_73 ⟨by decide, by decide⟩ (by decide) ?_
        obtain ⟨v11, m12, hc13, h⟩ := h
        refine pw_cV (z := mX4_isFive) (av := [Iq 115, Iq 101, Iq 118, Iq 101, Iq 110]) (st := []) eX4_kindHere_75 lk_RX4_240 rfl (by decide) (by decide) sh34 rfl rfl (Nat.le_of_ble_eq_true rfl) rfl hc13 ?_
        show PW S mX4_kindHere Q 78 [some (Aq 34)] [Iq v11] m12
        refine pw_if_eq eX4_kindHere_78 (fun c14 => ?_) (fun c14 => ?_)
        · have h := h.1 c14
          refine pw_aload_n eX4_kindHere_83 rfl rfl ?_
          refine pw_bipush eX4_kindHere_84 ⟨by decide, by decide⟩ (by decide) ?_
          refine pw_bipush eX4_kindHere_86 ⟨by decide, by decide⟩ (by decide) ?_
          refine pw_bipush eX4_kindHere_88 ⟨by decide, by decide⟩ (by decide) ?_
          refine pw_bipush eX4_kindHere_90 ⟨by decide, by decide⟩ (by decide) ?_
          obtain ⟨v15, m16, hc17, h⟩ := h
          refine pw_cV (z := mX4_isFour) (av := [Iq 108, Iq 97, Iq 122, Iq 121]) (st := []) eX4_kindHere_92 lk_RX4_248 rfl (by decide) (by decide) sh34 rfl rfl (Nat.le_of_ble_eq_true rfl) rfl hc17 ?_
          show PW S mX4_kindHere Q 95 [some (Aq 34)] [Iq v15] m16
          refine pw_if_eq eX4_kindHere_95 (fun c18 => ?_) (fun c18 => ?_)
          · have h := h.1 c18
            refine pw_aload_n eX4_kindHere_100 rfl rfl ?_
            refine pw_bipush eX4_kindHere_101 ⟨by decide, by decide⟩ (by decide) ?_
            refine pw_bipush eX4_kindHere_103 ⟨by decide, by decide⟩ (by decide) ?_
            refine pw_bipush eX4_kindHere_105 ⟨by decide, by decide⟩ (by decide) ?_
            refine pw_bipush eX4_kindHere_107 ⟨by decide, by decide⟩ (by decide) ?_
            refine pw_bipush eX4_kindHere_109 ⟨by decide, by decide⟩ (by decide) ?_
            refine pw_bipush eX4_kindHere_111 ⟨by decide, by decide⟩ (by decide) ?_
            obtain ⟨v19, m20, hc21, h⟩ := h
            refine pw_cV (z := mX4_isSix) (av := [Iq 104, Iq 111, Iq 110, Iq 101, Iq 115, Iq 116]) (st := []) eX4_kindHere_113 lk_RX4_244 rfl (by decide) (by decide) sh34 rfl rfl (Nat.le_of_ble_eq_true rfl) rfl hc21 ?_
            show PW S mX4_kindHere Q 116 [some (Aq 34)] [Iq v19] m20
            refine pw_if_eq eX4_kindHere_116 (fun c22 => ?_) (fun c22 => ?_)
            · have h := h.1 c22
              refine pw_aload_n eX4_kindHere_121 rfl rfl ?_
              refine pw_bipush eX4_kindHere_122 ⟨by decide, by decide⟩ (by decide) ?_
              refine pw_bipush eX4_kindHere_124 ⟨by decide, by decide⟩ (by decide) ?_
              refine pw_bipush eX4_kindHere_126 ⟨by decide, by decide⟩ (by decide) ?_
              refine pw_bipush eX4_kindHere_128 ⟨by decide, by decide⟩ (by decide) ?_
              refine pw_bipush eX4_kindHere_130 ⟨by decide, by decide⟩ (by decide) ?_
              refine pw_bipush eX4_kindHere_132 ⟨by decide, by decide⟩ (by decide) ?_
              obtain ⟨v23, m24, hc25, h⟩ := h
              refine pw_cV (z := mX4_isSix) (av := [Iq 115, Iq 101, Iq 108, Iq 108, Iq 101, Iq 114]) (st := []) eX4_kindHere_134 lk_RX4_244 rfl (by decide) (by decide) sh34 rfl rfl (Nat.le_of_ble_eq_true rfl) rfl hc25 ?_
              show PW S mX4_kindHere Q 137 [some (Aq 34)] [Iq v23] m24
              refine pw_if_eq eX4_kindHere_137 (fun c26 => ?_) (fun c26 => ?_)
              · have h := h.1 c26
                refine pw_iconst eX4_kindHere_145 ⟨by decide, by decide⟩ ?_
                exact pw_iret eX4_kindHere_146 h
              · have h := h.2 c26
                refine pw_bipush eX4_kindHere_140 ⟨by decide, by decide⟩ (by decide) ?_
                refine pw_goto eX4_kindHere_142 ?_
                exact pw_iret eX4_kindHere_146 h
            · have h := h.2 c22
              refine pw_iconst eX4_kindHere_119 ⟨by decide, by decide⟩ ?_
              exact pw_iret eX4_kindHere_120 h
          · have h := h.2 c18
            refine pw_iconst eX4_kindHere_98 ⟨by decide, by decide⟩ ?_
            exact pw_iret eX4_kindHere_99 h
        · have h := h.2 c14
          refine pw_iconst eX4_kindHere_81 ⟨by decide, by decide⟩ ?_
          exact pw_iret eX4_kindHere_82 h
      · have h := h.2 c10
        refine pw_iconst eX4_kindHere_62 ⟨by decide, by decide⟩ ?_
        exact pw_iret eX4_kindHere_63 h
    · have h := h.1 (bI1.mp c6)
      refine pw_aload_n eX4_kindHere_27 rfl rfl ?_
      refine pw_iconst eX4_kindHere_28 ⟨by decide, by decide⟩ ?_
      refine pw_bipush eX4_kindHere_29 ⟨by decide, by decide⟩ (by decide) ?_
      refine pw_bipush eX4_kindHere_31 ⟨by decide, by decide⟩ (by decide) ?_
      refine pw_bipush eX4_kindHere_33 ⟨by decide, by decide⟩ (by decide) ?_
      obtain ⟨v27, m28, hc29, h⟩ := h
      refine pw_cV (z := mX4_has3) (av := [Iq 0, Iq 115, Iq 108, Iq 121]) (st := []) eX4_kindHere_35 lk_RX4_232 rfl (by decide) (by decide) sh34 rfl rfl (Nat.le_of_ble_eq_true rfl) rfl hc29 ?_
      show PW S mX4_kindHere Q 38 [some (Aq 34)] [Iq v27] m28
      refine pw_if_eq eX4_kindHere_38 (fun c30 => ?_) (fun c30 => ?_)
      · have h := h.1 c30
        refine pw_aload_n eX4_kindHere_43 rfl rfl ?_
        refine pw_bipush eX4_kindHere_44 ⟨by decide, by decide⟩ (by decide) ?_
        refine pw_bipush eX4_kindHere_46 ⟨by decide, by decide⟩ (by decide) ?_
        refine pw_bipush eX4_kindHere_48 ⟨by decide, by decide⟩ (by decide) ?_
        refine pw_bipush eX4_kindHere_50 ⟨by decide, by decide⟩ (by decide) ?_
        refine pw_bipush eX4_kindHere_52 ⟨by decide, by decide⟩ (by decide) ?_
        refine pw_bipush eX4_kindHere_54 ⟨by decide, by decide⟩ (by decide) ?_
        obtain ⟨v31, m32, hc33, h⟩ := h
        refine pw_cV (z := mX4_isSix) (av := [Iq 115, Iq 108, Iq 111, Iq 112, Iq 112, Iq 121]) (st := []) eX4_kindHere_56 lk_RX4_244 rfl (by decide) (by decide) sh34 rfl rfl (Nat.le_of_ble_eq_true rfl) rfl hc33 ?_
        show PW S mX4_kindHere Q 59 [some (Aq 34)] [Iq v31] m32
        refine pw_if_eq eX4_kindHere_59 (fun c34 => ?_) (fun c34 => ?_)
        · have h := h.1 c34
          refine pw_aload_n eX4_kindHere_64 rfl rfl ?_
          refine pw_bipush eX4_kindHere_65 ⟨by decide, by decide⟩ (by decide) ?_
          refine pw_bipush eX4_kindHere_67 ⟨by decide, by decide⟩ (by decide) ?_
          refine pw_bipush eX4_kindHere_69 ⟨by decide, by decide⟩ (by decide) ?_
          refine pw_bipush eX4_kindHere_71 ⟨by decide, by decide⟩ (by decide) ?_
          refine pw_bipush eX4_kindHere_73 ⟨by decide, by decide⟩ (by decide) ?_
          obtain ⟨v35, m36, hc37, h⟩ := h
          refine pw_cV (z := mX4_isFive) (av := [Iq 115, Iq 101, Iq 118, Iq 101, Iq 110]) (st := []) eX4_kindHere_75 lk_RX4_240 rfl (by decide) (by decide) sh34 rfl rfl (Nat.le_of_ble_eq_true rfl) rfl hc37 ?_
          show PW S mX4_kindHere Q 78 [some (Aq 34)] [Iq v35] m36
          refine pw_if_eq eX4_kindHere_78 (fun c38 => ?_) (fun c38 => ?_)
          · have h := h.1 c38
            refine pw_aload_n eX4_kindHere_83 rfl rfl ?_
            refine pw_bipush eX4_kindHere_84 ⟨by decide, by decide⟩ (by decide) ?_
            refine pw_bipush eX4_kindHere_86 ⟨by decide, by decide⟩ (by decide) ?_
            refine pw_bipush eX4_kindHere_88 ⟨by decide, by decide⟩ (by decide) ?_
            refine pw_bipush eX4_kindHere_90 ⟨by decide, by decide⟩ (by decide) ?_
            obtain ⟨v39, m40, hc41, h⟩ := h
            refine pw_cV (z := mX4_isFour) (av := [Iq 108, Iq 97, Iq 122, Iq 121]) (st := []) eX4_kindHere_92 lk_RX4_248 rfl (by decide) (by decide) sh34 rfl rfl (Nat.le_of_ble_eq_true rfl) rfl hc41 ?_
            show PW S mX4_kindHere Q 95 [some (Aq 34)] [Iq v39] m40
            refine pw_if_eq eX4_kindHere_95 (fun c42 => ?_) (fun c42 => ?_)
            · have h := h.1 c42
              refine pw_aload_n eX4_kindHere_100 rfl rfl ?_
              refine pw_bipush eX4_kindHere_101 ⟨by decide, by decide⟩ (by decide) ?_
              refine pw_bipush eX4_kindHere_103 ⟨by decide, by decide⟩ (by decide) ?_
              refine pw_bipush eX4_kindHere_105 ⟨by decide, by decide⟩ (by decide) ?_
              refine pw_bipush eX4_kindHere_107 ⟨by decide, by decide⟩ (by decide) ?_
              refine pw_bipush eX4_kindHere_109 ⟨by decide, by decide⟩ (by decide) ?_
              refine pw_bipush eX4_kindHere_111 ⟨by decide, by decide⟩ (by decide) ?_
              obtain ⟨v43, m44, hc45, h⟩ := h
              refine pw_cV (z := mX4_isSix) (av := [Iq 104, Iq 111, Iq 110, Iq 101, Iq 115, Iq 116]) (st := []) eX4_kindHere_113 lk_RX4_244 rfl (by decide) (by decide) sh34 rfl rfl (Nat.le_of_ble_eq_true rfl) rfl hc45 ?_
              show PW S mX4_kindHere Q 116 [some (Aq 34)] [Iq v43] m44
              refine pw_if_eq eX4_kindHere_116 (fun c46 => ?_) (fun c46 => ?_)
              · have h := h.1 c46
                refine pw_aload_n eX4_kindHere_121 rfl rfl ?_
                refine pw_bipush eX4_kindHere_122 ⟨by decide, by decide⟩ (by decide) ?_
                refine pw_bipush eX4_kindHere_124 ⟨by decide, by decide⟩ (by decide) ?_
                refine pw_bipush eX4_kindHere_126 ⟨by decide, by decide⟩ (by decide) ?_
                refine pw_bipush eX4_kindHere_128 ⟨by decide, by decide⟩ (by decide) ?_
                refine pw_bipush eX4_kindHere_130 ⟨by decide, by decide⟩ (by decide) ?_
                refine pw_bipush eX4_kindHere_132 ⟨by decide, by decide⟩ (by decide) ?_
                obtain ⟨v47, m48, hc49, h⟩ := h
                refine pw_cV (z := mX4_isSix) (av := [Iq 115, Iq 101, Iq 108, Iq 108, Iq 101, Iq 114]) (st := []) eX4_kindHere_134 lk_RX4_244 rfl (by decide) (by decide) sh34 rfl rfl (Nat.le_of_ble_eq_true rfl) rfl hc49 ?_
                show PW S mX4_kindHere Q 137 [some (Aq 34)] [Iq v47] m48
                refine pw_if_eq eX4_kindHere_137 (fun c50 => ?_) (fun c50 => ?_)
                · have h := h.1 c50
                  refine pw_iconst eX4_kindHere_145 ⟨by decide, by decide⟩ ?_
                  exact pw_iret eX4_kindHere_146 h
                · have h := h.2 c50
                  refine pw_bipush eX4_kindHere_140 ⟨by decide, by decide⟩ (by decide) ?_
                  refine pw_goto eX4_kindHere_142 ?_
                  exact pw_iret eX4_kindHere_146 h
              · have h := h.2 c46
                refine pw_iconst eX4_kindHere_119 ⟨by decide, by decide⟩ ?_
                exact pw_iret eX4_kindHere_120 h
            · have h := h.2 c42
              refine pw_iconst eX4_kindHere_98 ⟨by decide, by decide⟩ ?_
              exact pw_iret eX4_kindHere_99 h
          · have h := h.2 c38
            refine pw_iconst eX4_kindHere_81 ⟨by decide, by decide⟩ ?_
            exact pw_iret eX4_kindHere_82 h
        · have h := h.2 c34
          refine pw_iconst eX4_kindHere_62 ⟨by decide, by decide⟩ ?_
          exact pw_iret eX4_kindHere_63 h
      · have h := h.2 c30
        refine pw_iconst eX4_kindHere_41 ⟨by decide, by decide⟩ ?_
        exact pw_iret eX4_kindHere_42 h
  · have h := h.2 c4
    refine pw_iconst eX4_kindHere_17 ⟨by decide, by decide⟩ ?_
    exact pw_iret eX4_kindHere_18 h
set_option maxRecDepth 100000 in
theorem rg_X4_childHere_0 {S : Sx} {Q : Option PV → Zm → Prop} {mem : Zm}   {x1 : Int} 
    (h : (((mem 35 0 = 8) → (Q (some (Iq 0)) (mup mem 34 17 (mem 34 14)))) ∧ (¬ (mem 35 0 = 8) → ((OKA (mem 35) ∧ mem 35 0 < 8) ∧ (in32 (((setR mem 35 (addA (mem 35) x1 0)) 35 0) - 1)) ∧ (∃ (m5 : Zm), Ct1 S mX4_nextToken [Aq 34] (setR mem 35 (addA (mem 35) x1 0)) none m5 ∧ ((∃ (v7 : Int) (m8 : Zm), Ct1 S mX4_isFive [Aq 34, Iq 107, Iq 110, Iq 111, Iq 119, Iq 115] m5 (some (Iq v7)) m8 ∧ ((0 ≤ ((setR mem 35 (addA (mem 35) x1 0)) 35 0) - 1 ∧ ((setR mem 35 (addA (mem 35) x1 0)) 35 0) - 1 < 8) ∧ (∃ (v11 : Int) (m12 : Zm), Ct1 S mX4_perhaps [Aq 34, Iq v7, Iq (12 + 14 * (((setR mem 35 (addA (mem 35) x1 0)) 35 0) - 1) + 1), Iq 0, Iq 255] m8 (some (Iq v11)) m12 ∧ ((((v11 = 0) → (Q (some (Iq 0)) m12)) ∧ (¬ (v11 = 0) → ((∃ (v15 : Int) (m16 : Zm), Ct1 S mX4_isFour [Aq 34, Iq 102, Iq 114, Iq 111, Iq 109] m12 (some (Iq v15)) m16 ∧ ((0 ≤ ((setR mem 35 (addA (mem 35) x1 0)) 35 0) - 1 ∧ ((setR mem 35 (addA (mem 35) x1 0)) 35 0) - 1 < 8) ∧ (in32 ((((setR mem 35 (addA (mem 35) x1 0)) 35 0) - 1) - 1)) ∧ (∃ (v20 : Int) (m21 : Zm), Ct1 S mX4_perhaps [Aq 34, Iq v15, Iq (12 + 14 * (((setR mem 35 (addA (mem 35) x1 0)) 35 0) - 1) + 2), Iq 0, Iq ((((setR mem 35 (addA (mem 35) x1 0)) 35 0) - 1) - 1)] m16 (some (Iq v20)) m21 ∧ ((((v20 = 0) → (Q (some (Iq 0)) m21)) ∧ (¬ (v20 = 0) → ((in32 (m21 34 15 - m21 34 14)) ∧ (((m21 34 13 = 1 ∧ m21 34 15 - m21 34 14 = 8) → ((∃ (v31 : Int) (m32 : Zm), Ct1 S mX4_has3 [Aq 34, Iq 0, Iq 98, Iq 105, Iq 115] m21 (some (Iq v31)) m32 ∧ ((((v31 = 0) → ((0 ≤ ((setR mem 35 (addA (mem 35) x1 0)) 35 0) - 1 ∧ ((setR mem 35 (addA (mem 35) x1 0)) 35 0) - 1 < 8) ∧ (∃ (v36 : Int) (m37 : Zm), Ct1 S mX4_perhaps [Aq 34, Iq 0, Iq (12 + 14 * (((setR mem 35 (addA (mem 35) x1 0)) 35 0) - 1) + 4), Iq 0, Iq 999] m32 (some (Iq v36)) m37 ∧ ((((v36 = 0) → (Q (some (Iq 0)) m37)) ∧ (¬ (v36 = 0) → (Q (some (Iq 1)) m37))))))) ∧ (¬ (v31 = 0) → ((∃ (v40 : Int) (m41 : Zm), Ct1 S mX4_has3 [Aq 34, Iq 3, Iq 99, Iq 117, Iq 105] m32 (some (Iq v40)) m41 ∧ ((((v40 = 0) → ((0 ≤ ((setR mem 35 (addA (mem 35) x1 0)) 35 0) - 1 ∧ ((setR mem 35 (addA (mem 35) x1 0)) 35 0) - 1 < 8) ∧ (∃ (v45 : Int) (m46 : Zm), Ct1 S mX4_perhaps [Aq 34, Iq 0, Iq (12 + 14 * (((setR mem 35 (addA (mem 35) x1 0)) 35 0) - 1) + 4), Iq 0, Iq 999] m41 (some (Iq v45)) m46 ∧ ((((v45 = 0) → (Q (some (Iq 0)) m46)) ∧ (¬ (v45 = 0) → (Q (some (Iq 1)) m46))))))) ∧ (¬ (v40 = 0) → ((∃ (v49 : Int) (m50 : Zm), Ct1 S mX4_has3 [Aq 34, Iq 5, Iq 105, Iq 116, Iq 115] m41 (some (Iq v49)) m50 ∧ ((((v49 = 0) → ((0 ≤ ((setR mem 35 (addA (mem 35) x1 0)) 35 0) - 1 ∧ ((setR mem 35 (addA (mem 35) x1 0)) 35 0) - 1 < 8) ∧ (∃ (v54 : Int) (m55 : Zm), Ct1 S mX4_perhaps [Aq 34, Iq 0, Iq (12 + 14 * (((setR mem 35 (addA (mem 35) x1 0)) 35 0) - 1) + 4), Iq 0, Iq 999] m50 (some (Iq v54)) m55 ∧ ((((v54 = 0) → (Q (some (Iq 0)) m55)) ∧ (¬ (v54 = 0) → (Q (some (Iq 1)) m55))))))) ∧ (¬ (v49 = 0) → ((0 ≤ ((setR mem 35 (addA (mem 35) x1 0)) 35 0) - 1 ∧ ((setR mem 35 (addA (mem 35) x1 0)) 35 0) - 1 < 8) ∧ (∃ (v59 : Int) (m60 : Zm), Ct1 S mX4_perhaps [Aq 34, Iq 1, Iq (12 + 14 * (((setR mem 35 (addA (mem 35) x1 0)) 35 0) - 1) + 4), Iq 0, Iq 999] m50 (some (Iq v59)) m60 ∧ ((((v59 = 0) → (Q (some (Iq 0)) m60)) ∧ (¬ (v59 = 0) → (Q (some (Iq 1)) m60)))))))))))))))))))))) ∧ (¬ (m21 34 13 = 1 ∧ m21 34 15 - m21 34 14 = 8) → ((0 ≤ ((setR mem 35 (addA (mem 35) x1 0)) 35 0) - 1 ∧ ((setR mem 35 (addA (mem 35) x1 0)) 35 0) - 1 < 8) ∧ (∃ (v27 : Int) (m28 : Zm), Ct1 S mX4_perhaps [Aq 34, Iq 0, Iq (12 + 14 * (((setR mem 35 (addA (mem 35) x1 0)) 35 0) - 1) + 4), Iq 0, Iq 999] m21 (some (Iq v27)) m28 ∧ ((((v27 = 0) → (Q (some (Iq 0)) m28)) ∧ (¬ (v27 = 0) → (Q (some (Iq 1)) m28)))))))))))))))))))))))))))) :
    PW S mX4_childHere Q 0 [some (Aq 34), some (Iq x1), none] [] mem := by
  refine pw_aload_n eX4_childHere_0 rfl rfl ?_
  refine gf_RX4_7 rfl eX4_childHere_1 sh34 ?_
  refine pw_iconst eX4_childHere_4 ⟨by decide, by decide⟩ ?_
  refine pw_iald eX4_childHere_5 sh35 (by decide) ?_
  refine pw_bipush eX4_childHere_6 ⟨by decide, by decide⟩ (by decide) ?_
  refine pw_icmp_ne eX4_childHere_8 (fun c1 => ?_) (fun c1 => ?_)
  · have h := h.2 c1
    refine pw_aload_n eX4_childHere_16 rfl rfl ?_
    refine pw_iload_n eX4_childHere_17 rfl rfl ?_
    refine pw_iconst eX4_childHere_18 ⟨by decide, by decide⟩ ?_
    obtain ⟨ob2, h⟩ := h
    refine pw_cV (z := mX4_comes) (av := [Iq x1, Iq 0]) (st := []) eX4_childHere_19 lk_RX4_67 rfl (by decide) (by decide) sh34 rfl rfl (Nat.le_of_ble_eq_true rfl) rfl (ct_X4_comes (mem := mem) ob2) ?_
    show PW S mX4_childHere Q 22 [some (Aq 34), some (Iq x1), none] [] (setR mem 35 (addA (mem 35) x1 0))
    refine pw_aload_n eX4_childHere_22 rfl rfl ?_
    refine gf_RX4_7 rfl eX4_childHere_23 sh34 ?_
    refine pw_iconst eX4_childHere_26 ⟨by decide, by decide⟩ ?_
    refine pw_iald eX4_childHere_27 sh35 (by decide) ?_
    refine pw_iconst eX4_childHere_28 ⟨by decide, by decide⟩ ?_
    obtain ⟨ob3, h⟩ := h
    refine pw_isub eX4_childHere_29 ob3 ?_
    refine pw_istore_n (ls2 := [some (Aq 34), some (Iq x1), some (Iq (((setR mem 35 (addA (mem 35) x1 0)) 35 0) - 1))]) eX4_childHere_30 rfl (by decide) rfl ?_
    refine pw_aload_n eX4_childHere_31 rfl rfl ?_
    obtain ⟨m5, hc6, h⟩ := h
    refine pw_cV (z := mX4_nextToken) (av := []) (st := []) eX4_childHere_32 lk_RX4_251 rfl (by decide) (by decide) sh34 rfl rfl (Nat.le_of_ble_eq_true rfl) rfl hc6 ?_
    show PW S mX4_childHere Q 35 [some (Aq 34), some (Iq x1), some (Iq (((setR mem 35 (addA (mem 35) x1 0)) 35 0) - 1))] [] m5
    refine pw_aload_n eX4_childHere_35 rfl rfl ?_
    refine pw_aload_n eX4_childHere_36 rfl rfl ?_
    refine pw_bipush eX4_childHere_37 ⟨by decide, by decide⟩ (by decide) ?_
    refine pw_bipush eX4_childHere_39 ⟨by decide, by decide⟩ (by decide) ?_
    refine pw_bipush eX4_childHere_41 ⟨by decide, by decide⟩ (by decide) ?_
    refine pw_bipush eX4_childHere_43 ⟨by decide, by decide⟩ (by decide) ?_
    refine pw_bipush eX4_childHere_45 ⟨by decide, by decide⟩ (by decide) ?_
    obtain ⟨v7, m8, hc9, h⟩ := h
    refine pw_cV (z := mX4_isFive) (av := [Iq 107, Iq 110, Iq 111, Iq 119, Iq 115]) (st := [Aq 34]) eX4_childHere_47 lk_RX4_240 rfl (by decide) (by decide) sh34 rfl rfl (Nat.le_of_ble_eq_true rfl) rfl hc9 ?_
    show PW S mX4_childHere Q 50 [some (Aq 34), some (Iq x1), some (Iq (((setR mem 35 (addA (mem 35) x1 0)) 35 0) - 1))] [Iq v7, Aq 34] m8
    refine pw_iload_n eX4_childHere_50 rfl rfl ?_
    refine pw_iconst eX4_childHere_51 ⟨by decide, by decide⟩ ?_
    obtain ⟨ob10, h⟩ := h
    refine pw_cS (z := mX4_at) (av := [Iq (((setR mem 35 (addA (mem 35) x1 0)) 35 0) - 1), Iq 1]) (st := [Iq v7, Aq 34]) eX4_childHere_52 lk_RX4_59 rfl (by decide) (by decide) (Nat.le_of_ble_eq_true rfl) rfl (ct_X4_at (mem := m8) ⟨ob10.1, ob10.2, by decide, by decide⟩) ?_
    show PW S mX4_childHere Q 55 [some (Aq 34), some (Iq x1), some (Iq (((setR mem 35 (addA (mem 35) x1 0)) 35 0) - 1))] [Iq (12 + 14 * (((setR mem 35 (addA (mem 35) x1 0)) 35 0) - 1) + 1), Iq v7, Aq 34] m8
    refine pw_iconst eX4_childHere_55 ⟨by decide, by decide⟩ ?_
    refine pw_sipush eX4_childHere_56 ⟨by decide, by decide⟩ (by decide) ?_
    obtain ⟨v11, m12, hc13, h⟩ := h
    refine pw_cV (z := mX4_perhaps) (av := [Iq v7, Iq (12 + 14 * (((setR mem 35 (addA (mem 35) x1 0)) 35 0) - 1) + 1), Iq 0, Iq 255]) (st := []) eX4_childHere_59 lk_RX4_257 rfl (by decide) (by decide) sh34 rfl rfl (Nat.le_of_ble_eq_true rfl) rfl hc13 ?_
    show PW S mX4_childHere Q 62 [some (Aq 34), some (Iq x1), some (Iq (((setR mem 35 (addA (mem 35) x1 0)) 35 0) - 1))] [Iq v11] m12
    refine pw_if_eq eX4_childHere_62 (fun c14 => ?_) (fun c14 => ?_)
    · have h := h.1 c14
      refine pw_iconst eX4_childHere_169 ⟨by decide, by decide⟩ ?_
      exact pw_iret eX4_childHere_170 h
    · have h := h.2 c14
      refine pw_aload_n eX4_childHere_65 rfl rfl ?_
      refine pw_aload_n eX4_childHere_66 rfl rfl ?_
      refine pw_bipush eX4_childHere_67 ⟨by decide, by decide⟩ (by decide) ?_
      refine pw_bipush eX4_childHere_69 ⟨by decide, by decide⟩ (by decide) ?_
      refine pw_bipush eX4_childHere_71 ⟨by decide, by decide⟩ (by decide) ?_
      refine pw_bipush eX4_childHere_73 ⟨by decide, by decide⟩ (by decide) ?_
      obtain ⟨v15, m16, hc17, h⟩ := h
      refine pw_cV (z := mX4_isFour) (av := [Iq 102, Iq 114, Iq 111, Iq 109]) (st := [Aq 34]) eX4_childHere_75 lk_RX4_248 rfl (by decide) (by decide) sh34 rfl rfl (Nat.le_of_ble_eq_true rfl) rfl hc17 ?_
      show PW S mX4_childHere Q 78 [some (Aq 34), some (Iq x1), some (Iq (((setR mem 35 (addA (mem 35) x1 0)) 35 0) - 1))] [Iq v15, Aq 34] m16
      refine pw_iload_n eX4_childHere_78 rfl rfl ?_
      refine pw_iconst eX4_childHere_79 ⟨by decide, by decide⟩ ?_
      obtain ⟨ob18, h⟩ := h
      refine pw_cS (z := mX4_at) (av := [Iq (((setR mem 35 (addA (mem 35) x1 0)) 35 0) - 1), Iq 2]) (st := [Iq v15, Aq 34]) eX4_childHere_80 lk_RX4_59 rfl (by decide) (by decide) (Nat.le_of_ble_eq_true rfl) rfl (ct_X4_at (mem := m16) ⟨ob18.1, ob18.2, by decide, by decide⟩) ?_
      show PW S mX4_childHere Q 83 [some (Aq 34), some (Iq x1), some (Iq (((setR mem 35 (addA (mem 35) x1 0)) 35 0) - 1))] [Iq (12 + 14 * (((setR mem 35 (addA (mem 35) x1 0)) 35 0) - 1) + 2), Iq v15, Aq 34] m16
      refine pw_iconst eX4_childHere_83 ⟨by decide, by decide⟩ ?_
      refine pw_iload_n eX4_childHere_84 rfl rfl ?_
      refine pw_iconst eX4_childHere_85 ⟨by decide, by decide⟩ ?_
      obtain ⟨ob19, h⟩ := h
      refine pw_isub eX4_childHere_86 ob19 ?_
      obtain ⟨v20, m21, hc22, h⟩ := h
      refine pw_cV (z := mX4_perhaps) (av := [Iq v15, Iq (12 + 14 * (((setR mem 35 (addA (mem 35) x1 0)) 35 0) - 1) + 2), Iq 0, Iq ((((setR mem 35 (addA (mem 35) x1 0)) 35 0) - 1) - 1)]) (st := []) eX4_childHere_87 lk_RX4_257 rfl (by decide) (by decide) sh34 rfl rfl (Nat.le_of_ble_eq_true rfl) rfl hc22 ?_
      show PW S mX4_childHere Q 90 [some (Aq 34), some (Iq x1), some (Iq (((setR mem 35 (addA (mem 35) x1 0)) 35 0) - 1))] [Iq v20] m21
      refine pw_if_eq eX4_childHere_90 (fun c23 => ?_) (fun c23 => ?_)
      · have h := h.1 c23
        refine pw_iconst eX4_childHere_169 ⟨by decide, by decide⟩ ?_
        exact pw_iret eX4_childHere_170 h
      · have h := h.2 c23
        refine pw_aload_n eX4_childHere_93 rfl rfl ?_
        refine pw_aload_n eX4_childHere_94 rfl rfl ?_
        refine pw_bipush eX4_childHere_95 ⟨by decide, by decide⟩ (by decide) ?_
        obtain ⟨ob24, h⟩ := h
        refine pw_cV (z := mX4_isWord) (av := [Iq 8]) (st := [Aq 34]) eX4_childHere_97 lk_RX4_229 rfl (by decide) (by decide) sh34 rfl rfl (Nat.le_of_ble_eq_true rfl) rfl (ct_X4_isWord (mem := m21) ob24) ?_
        show PW S mX4_childHere Q 100 [some (Aq 34), some (Iq x1), some (Iq (((setR mem 35 (addA (mem 35) x1 0)) 35 0) - 1))] [Iq (bI (m21 34 13 = 1 ∧ m21 34 15 - m21 34 14 = 8)), Aq 34] m21
        refine pw_if_eq eX4_childHere_100 (fun c25 => ?_) (fun c25 => ?_)
        · have h := h.2 (bI0.mp c25)
          refine pw_iconst eX4_childHere_149 ⟨by decide, by decide⟩ ?_
          refine pw_iload_n eX4_childHere_150 rfl rfl ?_
          refine pw_iconst eX4_childHere_151 ⟨by decide, by decide⟩ ?_
          obtain ⟨ob26, h⟩ := h
          refine pw_cS (z := mX4_at) (av := [Iq (((setR mem 35 (addA (mem 35) x1 0)) 35 0) - 1), Iq 4]) (st := [Iq 0, Aq 34]) eX4_childHere_152 lk_RX4_59 rfl (by decide) (by decide) (Nat.le_of_ble_eq_true rfl) rfl (ct_X4_at (mem := m21) ⟨ob26.1, ob26.2, by decide, by decide⟩) ?_
          show PW S mX4_childHere Q 155 [some (Aq 34), some (Iq x1), some (Iq (((setR mem 35 (addA (mem 35) x1 0)) 35 0) - 1))] [Iq (12 + 14 * (((setR mem 35 (addA (mem 35) x1 0)) 35 0) - 1) + 4), Iq 0, Aq 34] m21
          refine pw_iconst eX4_childHere_155 ⟨by decide, by decide⟩ ?_
          refine pw_sipush eX4_childHere_156 ⟨by decide, by decide⟩ (by decide) ?_
          obtain ⟨v27, m28, hc29, h⟩ := h
          refine pw_cV (z := mX4_perhaps) (av := [Iq 0, Iq (12 + 14 * (((setR mem 35 (addA (mem 35) x1 0)) 35 0) - 1) + 4), Iq 0, Iq 999]) (st := []) eX4_childHere_159 lk_RX4_257 rfl (by decide) (by decide) sh34 rfl rfl (Nat.le_of_ble_eq_true rfl) rfl hc29 ?_
          show PW S mX4_childHere Q 162 [some (Aq 34), some (Iq x1), some (Iq (((setR mem 35 (addA (mem 35) x1 0)) 35 0) - 1))] [Iq v27] m28
          refine pw_if_eq eX4_childHere_162 (fun c30 => ?_) (fun c30 => ?_)
          · have h := h.1 c30
            refine pw_iconst eX4_childHere_169 ⟨by decide, by decide⟩ ?_
            exact pw_iret eX4_childHere_170 h
          · have h := h.2 c30
            refine pw_iconst eX4_childHere_165 ⟨by decide, by decide⟩ ?_
            refine pw_goto eX4_childHere_166 ?_
            exact pw_iret eX4_childHere_170 h
        · have h := h.1 (bI1.mp c25)
          refine pw_aload_n eX4_childHere_103 rfl rfl ?_
          refine pw_iconst eX4_childHere_104 ⟨by decide, by decide⟩ ?_
          refine pw_bipush eX4_childHere_105 ⟨by decide, by decide⟩ (by decide) ?_
          refine pw_bipush eX4_childHere_107 ⟨by decide, by decide⟩ (by decide) ?_
          refine pw_bipush eX4_childHere_109 ⟨by decide, by decide⟩ (by decide) ?_
          obtain ⟨v31, m32, hc33, h⟩ := h
          refine pw_cV (z := mX4_has3) (av := [Iq 0, Iq 98, Iq 105, Iq 115]) (st := [Aq 34]) eX4_childHere_111 lk_RX4_232 rfl (by decide) (by decide) sh34 rfl rfl (Nat.le_of_ble_eq_true rfl) rfl hc33 ?_
          show PW S mX4_childHere Q 114 [some (Aq 34), some (Iq x1), some (Iq (((setR mem 35 (addA (mem 35) x1 0)) 35 0) - 1))] [Iq v31, Aq 34] m32
          refine pw_if_eq eX4_childHere_114 (fun c34 => ?_) (fun c34 => ?_)
          · have h := h.1 c34
            refine pw_iconst eX4_childHere_149 ⟨by decide, by decide⟩ ?_
            refine pw_iload_n eX4_childHere_150 rfl rfl ?_
            refine pw_iconst eX4_childHere_151 ⟨by decide, by decide⟩ ?_
            obtain ⟨ob35, h⟩ := h
            refine pw_cS (z := mX4_at) (av := [Iq (((setR mem 35 (addA (mem 35) x1 0)) 35 0) - 1), Iq 4]) (st := [Iq 0, Aq 34]) eX4_childHere_152 lk_RX4_59 rfl (by decide) (by decide) (Nat.le_of_ble_eq_true rfl) rfl (ct_X4_at (mem := m32) ⟨ob35.1, ob35.2, by decide, by decide⟩) ?_
            show PW S mX4_childHere Q 155 [some (Aq 34), some (Iq x1), some (Iq (((setR mem 35 (addA (mem 35) x1 0)) 35 0) - 1))] [Iq (12 + 14 * (((setR mem 35 (addA (mem 35) x1 0)) 35 0) - 1) + 4), Iq 0, Aq 34] m32
            refine pw_iconst eX4_childHere_155 ⟨by decide, by decide⟩ ?_
            refine pw_sipush eX4_childHere_156 ⟨by decide, by decide⟩ (by decide) ?_
            obtain ⟨v36, m37, hc38, h⟩ := h
            refine pw_cV (z := mX4_perhaps) (av := [Iq 0, Iq (12 + 14 * (((setR mem 35 (addA (mem 35) x1 0)) 35 0) - 1) + 4), Iq 0, Iq 999]) (st := []) eX4_childHere_159 lk_RX4_257 rfl (by decide) (by decide) sh34 rfl rfl (Nat.le_of_ble_eq_true rfl) rfl hc38 ?_
            show PW S mX4_childHere Q 162 [some (Aq 34), some (Iq x1), some (Iq (((setR mem 35 (addA (mem 35) x1 0)) 35 0) - 1))] [Iq v36] m37
            refine pw_if_eq eX4_childHere_162 (fun c39 => ?_) (fun c39 => ?_)
            · have h := h.1 c39
              refine pw_iconst eX4_childHere_169 ⟨by decide, by decide⟩ ?_
              exact pw_iret eX4_childHere_170 h
            · have h := h.2 c39
              refine pw_iconst eX4_childHere_165 ⟨by decide, by decide⟩ ?_
              refine pw_goto eX4_childHere_166 ?_
              exact pw_iret eX4_childHere_170 h
          · have h := h.2 c34
            refine pw_aload_n eX4_childHere_117 rfl rfl ?_
            refine pw_iconst eX4_childHere_118 ⟨by decide, by decide⟩ ?_
            refine pw_bipush eX4_childHere_119 ⟨by decide, by decide⟩ (by decide) ?_
            refine pw_bipush eX4_childHere_121 ⟨by decide, by decide⟩ (by decide) ?_
            refine pw_bipush eX4_childHere_123 ⟨by decide, by decide⟩ (by decide) ?_
            obtain ⟨v40, m41, hc42, h⟩ := h
            refine pw_cV (z := mX4_has3) (av := [Iq 3, Iq 99, Iq 117, Iq 105]) (st := [Aq 34]) eX4_childHere_125 lk_RX4_232 rfl (by decide) (by decide) sh34 rfl rfl (Nat.le_of_ble_eq_true rfl) rfl hc42 ?_
            show PW S mX4_childHere Q 128 [some (Aq 34), some (Iq x1), some (Iq (((setR mem 35 (addA (mem 35) x1 0)) 35 0) - 1))] [Iq v40, Aq 34] m41
            refine pw_if_eq eX4_childHere_128 (fun c43 => ?_) (fun c43 => ?_)
            · have h := h.1 c43
              refine pw_iconst eX4_childHere_149 ⟨by decide, by decide⟩ ?_
              refine pw_iload_n eX4_childHere_150 rfl rfl ?_
              refine pw_iconst eX4_childHere_151 ⟨by decide, by decide⟩ ?_
              obtain ⟨ob44, h⟩ := h
              refine pw_cS (z := mX4_at) (av := [Iq (((setR mem 35 (addA (mem 35) x1 0)) 35 0) - 1), Iq 4]) (st := [Iq 0, Aq 34]) eX4_childHere_152 lk_RX4_59 rfl (by decide) (by decide) (Nat.le_of_ble_eq_true rfl) rfl (ct_X4_at (mem := m41) ⟨ob44.1, ob44.2, by decide, by decide⟩) ?_
              show PW S mX4_childHere Q 155 [some (Aq 34), some (Iq x1), some (Iq (((setR mem 35 (addA (mem 35) x1 0)) 35 0) - 1))] [Iq (12 + 14 * (((setR mem 35 (addA (mem 35) x1 0)) 35 0) - 1) + 4), Iq 0, Aq 34] m41
              refine pw_iconst eX4_childHere_155 ⟨by decide, by decide⟩ ?_
              refine pw_sipush eX4_childHere_156 ⟨by decide, by decide⟩ (by decide) ?_
              obtain ⟨v45, m46, hc47, h⟩ := h
              refine pw_cV (z := mX4_perhaps) (av := [Iq 0, Iq (12 + 14 * (((setR mem 35 (addA (mem 35) x1 0)) 35 0) - 1) + 4), Iq 0, Iq 999]) (st := []) eX4_childHere_159 lk_RX4_257 rfl (by decide) (by decide) sh34 rfl rfl (Nat.le_of_ble_eq_true rfl) rfl hc47 ?_
              show PW S mX4_childHere Q 162 [some (Aq 34), some (Iq x1), some (Iq (((setR mem 35 (addA (mem 35) x1 0)) 35 0) - 1))] [Iq v45] m46
              refine pw_if_eq eX4_childHere_162 (fun c48 => ?_) (fun c48 => ?_)
              · have h := h.1 c48
                refine pw_iconst eX4_childHere_169 ⟨by decide, by decide⟩ ?_
                exact pw_iret eX4_childHere_170 h
              · have h := h.2 c48
                refine pw_iconst eX4_childHere_165 ⟨by decide, by decide⟩ ?_
                refine pw_goto eX4_childHere_166 ?_
                exact pw_iret eX4_childHere_170 h
            · have h := h.2 c43
              refine pw_aload_n eX4_childHere_131 rfl rfl ?_
              refine pw_iconst eX4_childHere_132 ⟨by decide, by decide⟩ ?_
              refine pw_bipush eX4_childHere_133 ⟨by decide, by decide⟩ (by decide) ?_
              refine pw_bipush eX4_childHere_135 ⟨by decide, by decide⟩ (by decide) ?_
              refine pw_bipush eX4_childHere_137 ⟨by decide, by decide⟩ (by decide) ?_
              obtain ⟨v49, m50, hc51, h⟩ := h
              refine pw_cV (z := mX4_has3) (av := [Iq 5, Iq 105, Iq 116, Iq 115]) (st := [Aq 34]) eX4_childHere_139 lk_RX4_232 rfl (by decide) (by decide) sh34 rfl rfl (Nat.le_of_ble_eq_true rfl) rfl hc51 ?_
              show PW S mX4_childHere Q 142 [some (Aq 34), some (Iq x1), some (Iq (((setR mem 35 (addA (mem 35) x1 0)) 35 0) - 1))] [Iq v49, Aq 34] m50
              refine pw_if_eq eX4_childHere_142 (fun c52 => ?_) (fun c52 => ?_)
              · have h := h.1 c52
                refine pw_iconst eX4_childHere_149 ⟨by decide, by decide⟩ ?_
                refine pw_iload_n eX4_childHere_150 rfl rfl ?_
                refine pw_iconst eX4_childHere_151 ⟨by decide, by decide⟩ ?_
                obtain ⟨ob53, h⟩ := h
                refine pw_cS (z := mX4_at) (av := [Iq (((setR mem 35 (addA (mem 35) x1 0)) 35 0) - 1), Iq 4]) (st := [Iq 0, Aq 34]) eX4_childHere_152 lk_RX4_59 rfl (by decide) (by decide) (Nat.le_of_ble_eq_true rfl) rfl (ct_X4_at (mem := m50) ⟨ob53.1, ob53.2, by decide, by decide⟩) ?_
                show PW S mX4_childHere Q 155 [some (Aq 34), some (Iq x1), some (Iq (((setR mem 35 (addA (mem 35) x1 0)) 35 0) - 1))] [Iq (12 + 14 * (((setR mem 35 (addA (mem 35) x1 0)) 35 0) - 1) + 4), Iq 0, Aq 34] m50
                refine pw_iconst eX4_childHere_155 ⟨by decide, by decide⟩ ?_
                refine pw_sipush eX4_childHere_156 ⟨by decide, by decide⟩ (by decide) ?_
                obtain ⟨v54, m55, hc56, h⟩ := h
                refine pw_cV (z := mX4_perhaps) (av := [Iq 0, Iq (12 + 14 * (((setR mem 35 (addA (mem 35) x1 0)) 35 0) - 1) + 4), Iq 0, Iq 999]) (st := []) eX4_childHere_159 lk_RX4_257 rfl (by decide) (by decide) sh34 rfl rfl (Nat.le_of_ble_eq_true rfl) rfl hc56 ?_
                show PW S mX4_childHere Q 162 [some (Aq 34), some (Iq x1), some (Iq (((setR mem 35 (addA (mem 35) x1 0)) 35 0) - 1))] [Iq v54] m55
                refine pw_if_eq eX4_childHere_162 (fun c57 => ?_) (fun c57 => ?_)
                · have h := h.1 c57
                  refine pw_iconst eX4_childHere_169 ⟨by decide, by decide⟩ ?_
                  exact pw_iret eX4_childHere_170 h
                · have h := h.2 c57
                  refine pw_iconst eX4_childHere_165 ⟨by decide, by decide⟩ ?_
                  refine pw_goto eX4_childHere_166 ?_
                  exact pw_iret eX4_childHere_170 h
              · have h := h.2 c52
                refine pw_iconst eX4_childHere_145 ⟨by decide, by decide⟩ ?_
                refine pw_goto eX4_childHere_146 ?_
                refine pw_iload_n eX4_childHere_150 rfl rfl ?_
                refine pw_iconst eX4_childHere_151 ⟨by decide, by decide⟩ ?_
                obtain ⟨ob58, h⟩ := h
                refine pw_cS (z := mX4_at) (av := [Iq (((setR mem 35 (addA (mem 35) x1 0)) 35 0) - 1), Iq 4]) (st := [Iq 1, Aq 34]) eX4_childHere_152 lk_RX4_59 rfl (by decide) (by decide) (Nat.le_of_ble_eq_true rfl) rfl (ct_X4_at (mem := m50) ⟨ob58.1, ob58.2, by decide, by decide⟩) ?_
                show PW S mX4_childHere Q 155 [some (Aq 34), some (Iq x1), some (Iq (((setR mem 35 (addA (mem 35) x1 0)) 35 0) - 1))] [Iq (12 + 14 * (((setR mem 35 (addA (mem 35) x1 0)) 35 0) - 1) + 4), Iq 1, Aq 34] m50
                refine pw_iconst eX4_childHere_155 ⟨by decide, by decide⟩ ?_
                refine pw_sipush eX4_childHere_156 ⟨by decide, by decide⟩ (by decide) ?_
                obtain ⟨v59, m60, hc61, h⟩ := h
                refine pw_cV (z := mX4_perhaps) (av := [Iq 1, Iq (12 + 14 * (((setR mem 35 (addA (mem 35) x1 0)) 35 0) - 1) + 4), Iq 0, Iq 999]) (st := []) eX4_childHere_159 lk_RX4_257 rfl (by decide) (by decide) sh34 rfl rfl (Nat.le_of_ble_eq_true rfl) rfl hc61 ?_
                show PW S mX4_childHere Q 162 [some (Aq 34), some (Iq x1), some (Iq (((setR mem 35 (addA (mem 35) x1 0)) 35 0) - 1))] [Iq v59] m60
                refine pw_if_eq eX4_childHere_162 (fun c62 => ?_) (fun c62 => ?_)
                · have h := h.1 c62
                  refine pw_iconst eX4_childHere_169 ⟨by decide, by decide⟩ ?_
                  exact pw_iret eX4_childHere_170 h
                · have h := h.2 c62
                  refine pw_iconst eX4_childHere_165 ⟨by decide, by decide⟩ ?_
                  refine pw_goto eX4_childHere_166 ?_
                  exact pw_iret eX4_childHere_170 h
  · have h := h.1 (Classical.not_not.mp c1)
    refine pw_aload_n eX4_childHere_11 rfl rfl ?_
    refine pw_cV (z := mX4_fails) (av := []) (st := []) eX4_childHere_12 lk_RX4_236 rfl (by decide) (by decide) sh34 rfl rfl (Nat.le_of_ble_eq_true rfl) rfl (ct_X4_fails (mem := mem)) ?_
    show PW S mX4_childHere Q 15 [some (Aq 34), some (Iq x1), none] [Iq 0] (mup mem 34 17 (mem 34 14))
    exact pw_iret eX4_childHere_15 h
set_option maxRecDepth 100000 in
theorem rg_X4_rightHere_0 {S : Sx} {Q : Option PV → Zm → Prop} {mem : Zm}   
    (h : (∃ (m2 : Zm), Ct1 S mX4_nextToken [Aq 34] mem none m2 ∧ ((∃ (v4 : Int) (m5 : Zm), Ct1 S mX4_isNumber [Aq 34, Iq 0, Iq 7] m2 (some (Iq v4)) m5 ∧ ((((v4 = 0) → (Q (some (Iq 0)) m5)) ∧ (¬ (v4 = 0) → ((in32 (4 + (m5 34 16))) ∧ (∃ (v9 : Int) (m10 : Zm), Ct1 S mX4_perhaps [Aq 34, Iq 1, Iq (4 + (m5 34 16)), Iq 0, Iq 99] m5 (some (Iq v9)) m10 ∧ ((((v9 = 0) → (Q (some (Iq 0)) m10)) ∧ (¬ (v9 = 0) → (Q (some (Iq 1)) m10))))))))))))) :
    PW S mX4_rightHere Q 0 [some (Aq 34)] [] mem := by
  refine pw_aload_n eX4_rightHere_0 rfl rfl ?_
  obtain ⟨m2, hc3, h⟩ := h
  refine pw_cV (z := mX4_nextToken) (av := []) (st := []) eX4_rightHere_1 lk_RX4_251 rfl (by decide) (by decide) sh34 rfl rfl (Nat.le_of_ble_eq_true rfl) rfl hc3 ?_
  show PW S mX4_rightHere Q 4 [some (Aq 34)] [] m2
  refine pw_aload_n eX4_rightHere_4 rfl rfl ?_
  refine pw_iconst eX4_rightHere_5 ⟨by decide, by decide⟩ ?_
  refine pw_bipush eX4_rightHere_6 ⟨by decide, by decide⟩ (by decide) ?_
  obtain ⟨v4, m5, hc6, h⟩ := h
  refine pw_cV (z := mX4_isNumber) (av := [Iq 0, Iq 7]) (st := []) eX4_rightHere_8 lk_RX4_254 rfl (by decide) (by decide) sh34 rfl rfl (Nat.le_of_ble_eq_true rfl) rfl hc6 ?_
  show PW S mX4_rightHere Q 11 [some (Aq 34)] [Iq v4] m5
  refine pw_if_eq eX4_rightHere_11 (fun c7 => ?_) (fun c7 => ?_)
  · have h := h.1 c7
    refine pw_iconst eX4_rightHere_35 ⟨by decide, by decide⟩ ?_
    exact pw_iret eX4_rightHere_36 h
  · have h := h.2 c7
    refine pw_aload_n eX4_rightHere_14 rfl rfl ?_
    refine pw_iconst eX4_rightHere_15 ⟨by decide, by decide⟩ ?_
    refine pw_iconst eX4_rightHere_16 ⟨by decide, by decide⟩ ?_
    refine pw_aload_n eX4_rightHere_17 rfl rfl ?_
    refine gf_RX4_223 rfl eX4_rightHere_18 sh34 ?_
    obtain ⟨ob8, h⟩ := h
    refine pw_iadd eX4_rightHere_21 ob8 ?_
    refine pw_iconst eX4_rightHere_22 ⟨by decide, by decide⟩ ?_
    refine pw_bipush eX4_rightHere_23 ⟨by decide, by decide⟩ (by decide) ?_
    obtain ⟨v9, m10, hc11, h⟩ := h
    refine pw_cV (z := mX4_perhaps) (av := [Iq 1, Iq (4 + (m5 34 16)), Iq 0, Iq 99]) (st := []) eX4_rightHere_25 lk_RX4_257 rfl (by decide) (by decide) sh34 rfl rfl (Nat.le_of_ble_eq_true rfl) rfl hc11 ?_
    show PW S mX4_rightHere Q 28 [some (Aq 34)] [Iq v9] m10
    refine pw_if_eq eX4_rightHere_28 (fun c12 => ?_) (fun c12 => ?_)
    · have h := h.1 c12
      refine pw_iconst eX4_rightHere_35 ⟨by decide, by decide⟩ ?_
      exact pw_iret eX4_rightHere_36 h
    · have h := h.2 c12
      refine pw_iconst eX4_rightHere_31 ⟨by decide, by decide⟩ ?_
      refine pw_goto eX4_rightHere_32 ?_
      exact pw_iret eX4_rightHere_36 h
set_option maxRecDepth 100000 in
theorem rg_X0_passDays_0 {S : Sx} {Q : Option PV → Zm → Prop} {mem : Zm}  {r0 : Nat} {x1 : Int} (hr0 : isRoom r0)
    (h : PW S mX0_passDays Q 2 [some (Aq r0), some (Iq x1), some (Iq 0), none] [] mem) :
    PW S mX0_passDays Q 0 [some (Aq r0), some (Iq x1), none, none] [] mem := by
  refine pw_iconst eX0_passDays_0 ⟨by decide, by decide⟩ ?_
  refine pw_istore_n (ls2 := [some (Aq r0), some (Iq x1), some (Iq 0), none]) eX0_passDays_1 rfl (by decide) rfl ?_
  exact h

set_option maxRecDepth 100000 in
theorem rg_X0_passDays_2 {S : Sx} {Q : Option PV → Zm → Prop} {mem : Zm}  {r0 : Nat} {x1 x2 : Int} (hr0 : isRoom r0)
    (h : (((x1 ≤ x2) → (Q none mem)) ∧ (¬ (x1 ≤ x2) → (PW S mX0_passDays Q 9 [some (Aq r0), some (Iq x1), some (Iq x2), some (Iq 0)] [] mem)))) :
    PW S mX0_passDays Q 2 [some (Aq r0), some (Iq x1), some (Iq x2), none] [] mem := by
  refine pw_iload_n eX0_passDays_2 rfl rfl ?_
  refine pw_iload_n eX0_passDays_3 rfl rfl ?_
  refine pw_icmp_ge eX0_passDays_4 (fun c1 => ?_) (fun c1 => ?_)
  · have h := h.1 c1
    exact pw_vret eX0_passDays_42 h
  · have h := h.2 c1
    refine pw_iconst eX0_passDays_7 ⟨by decide, by decide⟩ ?_
    refine pw_istore_n (ls2 := [some (Aq r0), some (Iq x1), some (Iq x2), some (Iq 0)]) eX0_passDays_8 rfl (by decide) rfl ?_
    exact h

set_option maxRecDepth 100000 in
theorem rg_X0_passDays_9 {S : Sx} {Q : Option PV → Zm → Prop} {mem : Zm}  {r0 : Nat} {x1 x2 x3 : Int} (hr0 : isRoom r0)
    (h : (((mem r0 7 ≤ x3) → ((∃ (m3 : Zm), Ct1 S mX0_markAnswers [Aq r0] mem none m3 ∧ ((∃ (m6 : Zm), Ct1 S mX0_turnDay [Aq r0] m3 none m6 ∧ ((in32 (x2 + 1)) ∧ PW S mX0_passDays Q 2 [some (Aq r0), some (Iq x1), some (Iq (x2 + 1)), none] [] m6)))))) ∧ (¬ (mem r0 7 ≤ x3) → ((∃ (m10 : Zm), Ct1 S mX0_writeAnswers [Aq r0, Iq x3] mem none m10 ∧ ((in32 (x3 + 1)) ∧ PW S mX0_passDays Q 9 [some (Aq r0), some (Iq x1), some (Iq x2), some (Iq (x3 + 1))] [] m10)))))) :
    PW S mX0_passDays Q 9 [some (Aq r0), some (Iq x1), some (Iq x2), some (Iq x3)] [] mem := by
  refine pw_iload_n eX0_passDays_9 rfl rfl ?_
  refine pw_aload_n eX0_passDays_10 rfl rfl ?_
  refine gf_RX0_34 rfl eX0_passDays_11 (shR hr0) ?_
  refine pw_icmp_ge eX0_passDays_14 (fun c1 => ?_) (fun c1 => ?_)
  · have h := h.1 c1
    refine pw_aload_n eX0_passDays_28 rfl rfl ?_
    obtain ⟨m3, hc4, h⟩ := h
    refine pw_cV (z := mX0_markAnswers) (av := []) (st := []) eX0_passDays_29 lk_RX0_77 rfl (by decide) (by decide) (shR hr0) rfl rfl (Nat.le_of_ble_eq_true rfl) rfl hc4 ?_
    show PW S mX0_passDays Q 32 [some (Aq r0), some (Iq x1), some (Iq x2), some (Iq x3)] [] m3
    refine pw_aload_n eX0_passDays_32 rfl rfl ?_
    obtain ⟨m6, hc7, h⟩ := h
    refine pw_cV (z := mX0_turnDay) (av := []) (st := []) eX0_passDays_33 lk_RX0_80 rfl (by decide) (by decide) (shR hr0) rfl rfl (Nat.le_of_ble_eq_true rfl) rfl hc7 ?_
    show PW S mX0_passDays Q 36 [some (Aq r0), some (Iq x1), some (Iq x2), some (Iq x3)] [] m6
    obtain ⟨ob8, h⟩ := h
    refine pw_iinc (ls2 := [some (Aq r0), some (Iq x1), some (Iq (x2 + 1)), some (Iq x3)]) eX0_passDays_36 rfl ob8 rfl ?_
    refine pw_goto eX0_passDays_39 ?_
    exact pw_drop (bs := [true, true, true, false]) h
  · have h := h.2 c1
    refine pw_aload_n eX0_passDays_17 rfl rfl ?_
    refine pw_iload_n eX0_passDays_18 rfl rfl ?_
    obtain ⟨m10, hc11, h⟩ := h
    refine pw_cV (z := mX0_writeAnswers) (av := [Iq x3]) (st := []) eX0_passDays_19 lk_RX0_73 rfl (by decide) (by decide) (shR hr0) rfl rfl (Nat.le_of_ble_eq_true rfl) rfl hc11 ?_
    show PW S mX0_passDays Q 22 [some (Aq r0), some (Iq x1), some (Iq x2), some (Iq x3)] [] m10
    obtain ⟨ob12, h⟩ := h
    refine pw_iinc (ls2 := [some (Aq r0), some (Iq x1), some (Iq x2), some (Iq (x3 + 1))]) eX0_passDays_22 rfl ob12 rfl ?_
    refine pw_goto eX0_passDays_25 ?_
    exact h
set_option maxRecDepth 100000 in
theorem rg_X2_readItem_0 {S : Sx} {Q : Option PV → Zm → Prop} {mem : Zm}  {r1 : Nat} (hr1 : isRoom r1)
    (h : (((cmpL (mem 22 5) 491394656372 = 0) → ((∃ (v6 : Int) (m7 : Zm), Ct1 S mX2_readRight [Aq 22, Aq r1] mem (some (Iq v6)) m7 ∧ (Q (some (Iq v6)) m7)))) ∧ (¬ (cmpL (mem 22 5) 491394656372 = 0) → ((((cmpL (mem 22 5) 465625246068 = 0) → ((∃ (v3 : Int) (m4 : Zm), Ct1 S mX2_readLimit [Aq 22, Aq r1] mem (some (Iq v3)) m4 ∧ (Q (some (Iq v3)) m4)))) ∧ (¬ (cmpL (mem 22 5) 465625246068 = 0) → (PW S mX2_readItem Q 36 [some (Aq 22), some (Aq r1), some (Iq 0)] [] mem))))))) :
    PW S mX2_readItem Q 0 [some (Aq 22), some (Aq r1), none] [] mem := by
  refine pw_aload_n eX2_readItem_0 rfl rfl ?_
  refine gf_RX2_28 rfl eX2_readItem_1 ?_
  refine pw_ldc2 (n := 491394656372) eX2_readItem_4 ⟨by decide, by decide⟩ kc_RX2_42 ?_
  refine pw_lcmp eX2_readItem_7 ?_
  refine pw_if_ne eX2_readItem_8 (fun c1 => ?_) (fun c1 => ?_)
  · have h := h.2 c1
    refine pw_aload_n eX2_readItem_17 rfl rfl ?_
    refine gf_RX2_28 rfl eX2_readItem_18 ?_
    refine pw_ldc2 (n := 465625246068) eX2_readItem_21 ⟨by decide, by decide⟩ kc_RX2_47 ?_
    refine pw_lcmp eX2_readItem_24 ?_
    refine pw_if_ne eX2_readItem_25 (fun c2 => ?_) (fun c2 => ?_)
    · have h := h.2 c2
      refine pw_iconst eX2_readItem_34 ⟨by decide, by decide⟩ ?_
      refine pw_istore_n (ls2 := [some (Aq 22), some (Aq r1), some (Iq 0)]) eX2_readItem_35 rfl (by decide) rfl ?_
      exact h
    · have h := h.1 (Classical.not_not.mp c2)
      refine pw_aload_n eX2_readItem_28 rfl rfl ?_
      refine pw_aload_n eX2_readItem_29 rfl rfl ?_
      obtain ⟨v3, m4, hc5, h⟩ := h
      refine pw_cV (z := mX2_readLimit) (av := [Aq r1]) (st := []) eX2_readItem_30 lk_RX2_49 rfl (by decide) (by decide) sh22 rfl rfl (Nat.le_of_ble_eq_true rfl) rfl hc5 ?_
      show PW S mX2_readItem Q 33 [some (Aq 22), some (Aq r1), none] [Iq v3] m4
      exact pw_iret eX2_readItem_33 h
  · have h := h.1 (Classical.not_not.mp c1)
    refine pw_aload_n eX2_readItem_11 rfl rfl ?_
    refine pw_aload_n eX2_readItem_12 rfl rfl ?_
    obtain ⟨v6, m7, hc8, h⟩ := h
    refine pw_cV (z := mX2_readRight) (av := [Aq r1]) (st := []) eX2_readItem_13 lk_RX2_44 rfl (by decide) (by decide) sh22 rfl rfl (Nat.le_of_ble_eq_true rfl) rfl hc8 ?_
    show PW S mX2_readItem Q 16 [some (Aq 22), some (Aq r1), none] [Iq v6] m7
    exact pw_iret eX2_readItem_16 h

set_option maxRecDepth 100000 in
theorem rg_X2_readItem_36 {S : Sx} {Q : Option PV → Zm → Prop} {mem : Zm}  {r1 : Nat} {x2 : Int} (hr1 : isRoom r1)
    (h : (((7 ≤ x2) → (Q (some (Iq 0)) mem)) ∧ (¬ (7 ≤ x2) → ((0 ≤ x2 ∧ x2 < 7) ∧ (((cmpL (mem 22 5) (tbK (x2).toNat) = 0) → ((∃ (v5 : Int) (m6 : Zm), Ct1 S mX2_readChild [Aq 22, Aq r1, Iq x2] mem (some (Iq v5)) m6 ∧ (Q (some (Iq v5)) m6)))) ∧ (¬ (cmpL (mem 22 5) (tbK (x2).toNat) = 0) → ((in32 (x2 + 1)) ∧ PW S mX2_readItem Q 36 [some (Aq 22), some (Aq r1), some (Iq (x2 + 1))] [] mem))))))) :
    PW S mX2_readItem Q 36 [some (Aq 22), some (Aq r1), some (Iq x2)] [] mem := by
  refine pw_iload_n eX2_readItem_36 rfl rfl ?_
  refine pw_bipush eX2_readItem_37 ⟨by decide, by decide⟩ (by decide) ?_
  refine pw_icmp_ge eX2_readItem_39 (fun c1 => ?_) (fun c1 => ?_)
  · have h := h.1 c1
    refine pw_iconst eX2_readItem_68 ⟨by decide, by decide⟩ ?_
    exact pw_iret eX2_readItem_69 h
  · have h := h.2 c1
    refine pw_aload_n eX2_readItem_42 rfl rfl ?_
    refine gf_RX2_28 rfl eX2_readItem_43 ?_
    refine pw_gsK eX2_readItem_46 lf_RX2_52 ?_
    refine pw_iload_n eX2_readItem_49 rfl rfl ?_
    obtain ⟨ob2, h⟩ := h
    refine pw_laldK eX2_readItem_50 ob2 ?_
    refine pw_lcmp eX2_readItem_51 ?_
    refine pw_if_ne eX2_readItem_52 (fun c3 => ?_) (fun c3 => ?_)
    · have h := h.2 c3
      obtain ⟨ob4, h⟩ := h
      refine pw_iinc (ls2 := [some (Aq 22), some (Aq r1), some (Iq (x2 + 1))]) eX2_readItem_62 rfl ob4 rfl ?_
      refine pw_goto eX2_readItem_65 ?_
      exact h
    · have h := h.1 (Classical.not_not.mp c3)
      refine pw_aload_n eX2_readItem_55 rfl rfl ?_
      refine pw_aload_n eX2_readItem_56 rfl rfl ?_
      refine pw_iload_n eX2_readItem_57 rfl rfl ?_
      obtain ⟨v5, m6, hc7, h⟩ := h
      refine pw_cV (z := mX2_readChild) (av := [Aq r1, Iq x2]) (st := []) eX2_readItem_58 lk_RX2_56 rfl (by decide) (by decide) sh22 rfl rfl (Nat.le_of_ble_eq_true rfl) rfl hc7 ?_
      show PW S mX2_readItem Q 61 [some (Aq 22), some (Aq r1), some (Iq x2)] [Iq v5] m6
      exact pw_iret eX2_readItem_61 h
set_option maxRecDepth 100000 in
theorem rg_X4_day_0 {S : Sx} {Q : Option PV → Zm → Prop} {mem : Zm}   
    (h : PW S mX4_day Q 2 [some (Aq 34), some (Iq 0)] [] mem) :
    PW S mX4_day Q 0 [some (Aq 34), none] [] mem := by
  refine pw_iconst eX4_day_0 ⟨by decide, by decide⟩ ?_
  refine pw_istore_n (ls2 := [some (Aq 34), some (Iq 0)]) eX4_day_1 rfl (by decide) rfl ?_
  exact h

set_option maxRecDepth 100000 in
theorem rg_X4_day_2 {S : Sx} {Q : Option PV → Zm → Prop} {mem : Zm}   {x1 : Int} 
    (h : (((mem 35 0 ≤ x1) → (PW S mX4_day Q 25 [some (Aq 34), some (Iq 0)] [] mem)) ∧ (¬ (mem 35 0 ≤ x1) → ((OKA (mem 35) ∧ 0 ≤ x1 ∧ x1 < mem 35 0) ∧ (in32 (x1 + 1)) ∧ PW S mX4_day Q 2 [some (Aq 34), some (Iq (x1 + 1))] [] (setR mem 35 (wA (mem 35) ((x1).toNat))))))) :
    PW S mX4_day Q 2 [some (Aq 34), some (Iq x1)] [] mem := by
  refine pw_iload_n eX4_day_2 rfl rfl ?_
  refine pw_aload_n eX4_day_3 rfl rfl ?_
  refine gf_RX4_7 rfl eX4_day_4 sh34 ?_
  refine pw_iconst eX4_day_7 ⟨by decide, by decide⟩ ?_
  refine pw_iald eX4_day_8 sh35 (by decide) ?_
  refine pw_icmp_ge eX4_day_9 (fun c1 => ?_) (fun c1 => ?_)
  · have h := h.1 c1
    refine pw_iconst eX4_day_23 ⟨by decide, by decide⟩ ?_
    refine pw_istore_n (ls2 := [some (Aq 34), some (Iq 0)]) eX4_day_24 rfl (by decide) rfl ?_
    exact h
  · have h := h.2 c1
    refine pw_aload_n eX4_day_12 rfl rfl ?_
    refine pw_iload_n eX4_day_13 rfl rfl ?_
    obtain ⟨ob2, h⟩ := h
    refine pw_cV (z := mX4_writesAll) (av := [Iq x1]) (st := []) eX4_day_14 lk_RX4_117 rfl (by decide) (by decide) sh34 rfl rfl (Nat.le_of_ble_eq_true rfl) rfl (ct_X4_writesAll (mem := mem) ob2) ?_
    show PW S mX4_day Q 17 [some (Aq 34), some (Iq x1)] [] (setR mem 35 (wA (mem 35) ((x1).toNat)))
    obtain ⟨ob3, h⟩ := h
    refine pw_iinc (ls2 := [some (Aq 34), some (Iq (x1 + 1))]) eX4_day_17 rfl ob3 rfl ?_
    refine pw_goto eX4_day_20 ?_
    exact h

set_option maxRecDepth 100000 in
theorem rg_X4_day_25 {S : Sx} {Q : Option PV → Zm → Prop} {mem : Zm}   {x1 : Int} 
    (h : (((mem 35 0 ≤ x1) → (PW S mX4_day Q 48 [some (Aq 34), some (Iq 0)] [] mem)) ∧ (¬ (mem 35 0 ≤ x1) → ((∃ (m3 : Zm), Ct1 S mX4_marks [Aq 34, Iq x1] mem none m3 ∧ ((in32 (x1 + 1)) ∧ PW S mX4_day Q 25 [some (Aq 34), some (Iq (x1 + 1))] [] m3)))))) :
    PW S mX4_day Q 25 [some (Aq 34), some (Iq x1)] [] mem := by
  refine pw_iload_n eX4_day_25 rfl rfl ?_
  refine pw_aload_n eX4_day_26 rfl rfl ?_
  refine gf_RX4_7 rfl eX4_day_27 sh34 ?_
  refine pw_iconst eX4_day_30 ⟨by decide, by decide⟩ ?_
  refine pw_iald eX4_day_31 sh35 (by decide) ?_
  refine pw_icmp_ge eX4_day_32 (fun c1 => ?_) (fun c1 => ?_)
  · have h := h.1 c1
    refine pw_iconst eX4_day_46 ⟨by decide, by decide⟩ ?_
    refine pw_istore_n (ls2 := [some (Aq 34), some (Iq 0)]) eX4_day_47 rfl (by decide) rfl ?_
    exact h
  · have h := h.2 c1
    refine pw_aload_n eX4_day_35 rfl rfl ?_
    refine pw_iload_n eX4_day_36 rfl rfl ?_
    obtain ⟨m3, hc4, h⟩ := h
    refine pw_cV (z := mX4_marks) (av := [Iq x1]) (st := []) eX4_day_37 lk_RX4_121 rfl (by decide) (by decide) sh34 rfl rfl (Nat.le_of_ble_eq_true rfl) rfl hc4 ?_
    show PW S mX4_day Q 40 [some (Aq 34), some (Iq x1)] [] m3
    obtain ⟨ob5, h⟩ := h
    refine pw_iinc (ls2 := [some (Aq 34), some (Iq (x1 + 1))]) eX4_day_40 rfl ob5 rfl ?_
    refine pw_goto eX4_day_43 ?_
    exact h

set_option maxRecDepth 100000 in
theorem rg_X4_day_48 {S : Sx} {Q : Option PV → Zm → Prop} {mem : Zm}   {x1 : Int} 
    (h : (((8 ≤ x1) → ((in32 ((mem 35 1) + 1)) ∧ Q none (mup mem 35 1 ((mem 35 1) + 1)))) ∧ (¬ (8 ≤ x1) → ((in32 (4 + x1)) ∧ (in32 (4 + x1)) ∧ (0 ≤ 4 + x1 ∧ 4 + x1 < 134) ∧ (in32 (3 * (mem 35 (4 + x1).toNat))) ∧ (in32 ((3 * (mem 35 (4 + x1).toNat)) + x1)) ∧ (in32 (((3 * (mem 35 (4 + x1).toNat)) + x1) + 1)) ∧ (0 ≤ ((3 * (mem 35 (4 + x1).toNat)) + x1) + 1) ∧ (0 ≤ 4 + x1 ∧ 4 + x1 < 134) ∧ (in32 (x1 + 1)) ∧ PW S mX4_day Q 48 [some (Aq 34), some (Iq (x1 + 1))] [] (mup mem 35 (4 + x1).toNat ((((3 * (mem 35 (4 + x1).toNat)) + x1) + 1) % 100)))))) :
    PW S mX4_day Q 48 [some (Aq 34), some (Iq x1)] [] mem := by
  refine pw_iload_n eX4_day_48 rfl rfl ?_
  refine pw_bipush eX4_day_49 ⟨by decide, by decide⟩ (by decide) ?_
  refine pw_icmp_ge eX4_day_51 (fun c1 => ?_) (fun c1 => ?_)
  · have h := h.1 c1
    refine pw_aload_n eX4_day_85 rfl rfl ?_
    refine gf_RX4_7 rfl eX4_day_86 sh34 ?_
    refine pw_iconst eX4_day_89 ⟨by decide, by decide⟩ ?_
    refine pw_dup2 eX4_day_90 rfl rfl ?_
    refine pw_iald eX4_day_91 sh35 (by decide) ?_
    refine pw_iconst eX4_day_92 ⟨by decide, by decide⟩ ?_
    obtain ⟨ob2, h⟩ := h
    refine pw_iadd eX4_day_93 ob2 ?_
    refine pw_iast eX4_day_94 sh35 (by decide) ?_
    exact pw_vret eX4_day_95 h
  · have h := h.2 c1
    refine pw_aload_n eX4_day_54 rfl rfl ?_
    refine gf_RX4_7 rfl eX4_day_55 sh34 ?_
    refine pw_iconst eX4_day_58 ⟨by decide, by decide⟩ ?_
    refine pw_iload_n eX4_day_59 rfl rfl ?_
    obtain ⟨ob3, h⟩ := h
    refine pw_iadd eX4_day_60 ob3 ?_
    refine pw_iconst eX4_day_61 ⟨by decide, by decide⟩ ?_
    refine pw_aload_n eX4_day_62 rfl rfl ?_
    refine gf_RX4_7 rfl eX4_day_63 sh34 ?_
    refine pw_iconst eX4_day_66 ⟨by decide, by decide⟩ ?_
    refine pw_iload_n eX4_day_67 rfl rfl ?_
    obtain ⟨ob4, h⟩ := h
    refine pw_iadd eX4_day_68 ob4 ?_
    obtain ⟨ob5, h⟩ := h
    refine pw_iald eX4_day_69 sh35 ob5 ?_
    obtain ⟨ob6, h⟩ := h
    refine pw_imul eX4_day_70 ob6 ?_
    refine pw_iload_n eX4_day_71 rfl rfl ?_
    obtain ⟨ob7, h⟩ := h
    refine pw_iadd eX4_day_72 ob7 ?_
    refine pw_iconst eX4_day_73 ⟨by decide, by decide⟩ ?_
    obtain ⟨ob8, h⟩ := h
    refine pw_iadd eX4_day_74 ob8 ?_
    refine pw_bipush eX4_day_75 ⟨by decide, by decide⟩ (by decide) ?_
    obtain ⟨ob9, h⟩ := h
    refine pw_irem eX4_day_77 ob9 (by decide) ?_
    obtain ⟨ob10, h⟩ := h
    refine pw_iast eX4_day_78 sh35 ob10 ?_
    obtain ⟨ob11, h⟩ := h
    refine pw_iinc (ls2 := [some (Aq 34), some (Iq (x1 + 1))]) eX4_day_79 rfl ob11 rfl ?_
    refine pw_goto eX4_day_82 ?_
    exact h
set_option maxRecDepth 100000 in
theorem rg_X4_itemHere_0 {S : Sx} {Q : Option PV → Zm → Prop} {mem : Zm}   
    (h : (∃ (v1 : Int) (m2 : Zm), Ct1 S mX4_kindHere [Aq 34] mem (some (Iq v1)) m2 ∧ ((((v1 < 0) → ((∃ (v5 : Int) (m6 : Zm), Ct1 S mX4_isFive [Aq 34, Iq 114, Iq 105, Iq 103, Iq 104, Iq 116] m2 (some (Iq v5)) m6 ∧ ((((v5 = 0) → ((∃ (v9 : Int) (m10 : Zm), Ct1 S mX4_isFive [Aq 34, Iq 108, Iq 105, Iq 109, Iq 105, Iq 116] m6 (some (Iq v9)) m10 ∧ ((((v9 = 0) → (Q (some (Iq 0)) (mup m10 34 17 (m10 34 14)))) ∧ (¬ (v9 = 0) → ((∃ (v13 : Int) (m14 : Zm), Ct1 S mX4_perhaps [Aq 34, Iq 1, Iq 3, Iq 1, Iq 9] m10 (some (Iq v13)) m14 ∧ (Q (some (Iq v13)) m14))))))))) ∧ (¬ (v5 = 0) → ((∃ (v16 : Int) (m17 : Zm), Ct1 S mX4_rightHere [Aq 34] m6 (some (Iq v16)) m17 ∧ (Q (some (Iq v16)) m17))))))))) ∧ (¬ (v1 < 0) → ((∃ (v19 : Int) (m20 : Zm), Ct1 S mX4_childHere [Aq 34, Iq v1] m2 (some (Iq v19)) m20 ∧ (Q (some (Iq v19)) m20)))))))) :
    PW S mX4_itemHere Q 0 [some (Aq 34), none] [] mem := by
  refine pw_aload_n eX4_itemHere_0 rfl rfl ?_
  obtain ⟨v1, m2, hc3, h⟩ := h
  refine pw_cV (z := mX4_kindHere) (av := []) (st := []) eX4_itemHere_1 lk_RX4_261 rfl (by decide) (by decide) sh34 rfl rfl (Nat.le_of_ble_eq_true rfl) rfl hc3 ?_
  show PW S mX4_itemHere Q 4 [some (Aq 34), none] [Iq v1] m2
  refine pw_istore_n (ls2 := [some (Aq 34), some (Iq v1)]) eX4_itemHere_4 rfl (by decide) rfl ?_
  refine pw_iload_n eX4_itemHere_5 rfl rfl ?_
  refine pw_if_lt eX4_itemHere_6 (fun c4 => ?_) (fun c4 => ?_)
  · have h := h.1 c4
    refine pw_aload_n eX4_itemHere_15 rfl rfl ?_
    refine pw_bipush eX4_itemHere_16 ⟨by decide, by decide⟩ (by decide) ?_
    refine pw_bipush eX4_itemHere_18 ⟨by decide, by decide⟩ (by decide) ?_
    refine pw_bipush eX4_itemHere_20 ⟨by decide, by decide⟩ (by decide) ?_
    refine pw_bipush eX4_itemHere_22 ⟨by decide, by decide⟩ (by decide) ?_
    refine pw_bipush eX4_itemHere_24 ⟨by decide, by decide⟩ (by decide) ?_
    obtain ⟨v5, m6, hc7, h⟩ := h
    refine pw_cV (z := mX4_isFive) (av := [Iq 114, Iq 105, Iq 103, Iq 104, Iq 116]) (st := []) eX4_itemHere_26 lk_RX4_240 rfl (by decide) (by decide) sh34 rfl rfl (Nat.le_of_ble_eq_true rfl) rfl hc7 ?_
    show PW S mX4_itemHere Q 29 [some (Aq 34), some (Iq v1)] [Iq v5] m6
    refine pw_if_eq eX4_itemHere_29 (fun c8 => ?_) (fun c8 => ?_)
    · have h := h.1 c8
      refine pw_aload_n eX4_itemHere_37 rfl rfl ?_
      refine pw_bipush eX4_itemHere_38 ⟨by decide, by decide⟩ (by decide) ?_
      refine pw_bipush eX4_itemHere_40 ⟨by decide, by decide⟩ (by decide) ?_
      refine pw_bipush eX4_itemHere_42 ⟨by decide, by decide⟩ (by decide) ?_
      refine pw_bipush eX4_itemHere_44 ⟨by decide, by decide⟩ (by decide) ?_
      refine pw_bipush eX4_itemHere_46 ⟨by decide, by decide⟩ (by decide) ?_
      obtain ⟨v9, m10, hc11, h⟩ := h
      refine pw_cV (z := mX4_isFive) (av := [Iq 108, Iq 105, Iq 109, Iq 105, Iq 116]) (st := []) eX4_itemHere_48 lk_RX4_240 rfl (by decide) (by decide) sh34 rfl rfl (Nat.le_of_ble_eq_true rfl) rfl hc11 ?_
      show PW S mX4_itemHere Q 51 [some (Aq 34), some (Iq v1)] [Iq v9] m10
      refine pw_if_eq eX4_itemHere_51 (fun c12 => ?_) (fun c12 => ?_)
      · have h := h.1 c12
        refine pw_aload_n eX4_itemHere_66 rfl rfl ?_
        refine pw_cV (z := mX4_fails) (av := []) (st := []) eX4_itemHere_67 lk_RX4_236 rfl (by decide) (by decide) sh34 rfl rfl (Nat.le_of_ble_eq_true rfl) rfl (ct_X4_fails (mem := m10)) ?_
        show PW S mX4_itemHere Q 70 [some (Aq 34), some (Iq v1)] [Iq 0] (mup m10 34 17 (m10 34 14))
        exact pw_iret eX4_itemHere_70 h
      · have h := h.2 c12
        refine pw_aload_n eX4_itemHere_54 rfl rfl ?_
        refine pw_iconst eX4_itemHere_55 ⟨by decide, by decide⟩ ?_
        refine pw_iconst eX4_itemHere_56 ⟨by decide, by decide⟩ ?_
        refine pw_iconst eX4_itemHere_57 ⟨by decide, by decide⟩ ?_
        refine pw_bipush eX4_itemHere_58 ⟨by decide, by decide⟩ (by decide) ?_
        obtain ⟨v13, m14, hc15, h⟩ := h
        refine pw_cV (z := mX4_perhaps) (av := [Iq 1, Iq 3, Iq 1, Iq 9]) (st := []) eX4_itemHere_60 lk_RX4_257 rfl (by decide) (by decide) sh34 rfl rfl (Nat.le_of_ble_eq_true rfl) rfl hc15 ?_
        show PW S mX4_itemHere Q 63 [some (Aq 34), some (Iq v1)] [Iq v13] m14
        refine pw_goto eX4_itemHere_63 ?_
        exact pw_iret eX4_itemHere_70 h
    · have h := h.2 c8
      refine pw_aload_n eX4_itemHere_32 rfl rfl ?_
      obtain ⟨v16, m17, hc18, h⟩ := h
      refine pw_cV (z := mX4_rightHere) (av := []) (st := []) eX4_itemHere_33 lk_RX4_267 rfl (by decide) (by decide) sh34 rfl rfl (Nat.le_of_ble_eq_true rfl) rfl hc18 ?_
      show PW S mX4_itemHere Q 36 [some (Aq 34), some (Iq v1)] [Iq v16] m17
      exact pw_iret eX4_itemHere_36 h
  · have h := h.2 c4
    refine pw_aload_n eX4_itemHere_9 rfl rfl ?_
    refine pw_iload_n eX4_itemHere_10 rfl rfl ?_
    obtain ⟨v19, m20, hc21, h⟩ := h
    refine pw_cV (z := mX4_childHere) (av := [Iq v1]) (st := []) eX4_itemHere_11 lk_RX4_264 rfl (by decide) (by decide) sh34 rfl rfl (Nat.le_of_ble_eq_true rfl) rfl hc21 ?_
    show PW S mX4_itemHere Q 14 [some (Aq 34), some (Iq v1)] [Iq v19] m20
    exact pw_iret eX4_itemHere_14 h
set_option maxRecDepth 100000 in
theorem rg_X2_readInto_0 {S : Sx} {Q : Option PV → Zm → Prop} {mem : Zm}  {r1 : Nat} (hr1 : isRoom r1)
    (h : (∃ (m2 : Zm), Ct1 S mX2_nextToken [Aq 22] (mup mem 22 3 0) none m2 ∧ (PW S mX2_readInto Q 11 [some (Aq 22), some (Aq r1), some (Iq 1)] [] m2))) :
    PW S mX2_readInto Q 0 [some (Aq 22), some (Aq r1), none] [] mem := by
  refine pw_aload_n eX2_readInto_0 rfl rfl ?_
  refine pw_iconst eX2_readInto_1 ⟨by decide, by decide⟩ ?_
  refine pf_RX2_22 rfl eX2_readInto_2 sh22 ?_
  refine pw_aload_n eX2_readInto_5 rfl rfl ?_
  obtain ⟨m2, hc3, h⟩ := h
  refine pw_cV (z := mX2_nextToken) (av := []) (st := []) eX2_readInto_6 lk_RX2_35 rfl (by decide) (by decide) sh22 rfl rfl (Nat.le_of_ble_eq_true rfl) rfl hc3 ?_
  show PW S mX2_readInto Q 9 [some (Aq 22), some (Aq r1), none] [] m2
  refine pw_iconst eX2_readInto_9 ⟨by decide, by decide⟩ ?_
  refine pw_istore_n (ls2 := [some (Aq 22), some (Aq r1), some (Iq 1)]) eX2_readInto_10 rfl (by decide) rfl ?_
  exact h

set_option maxRecDepth 100000 in
theorem rg_X2_readInto_11 {S : Sx} {Q : Option PV → Zm → Prop} {mem : Zm}  {r1 : Nat} {x2 : Int} (hr1 : isRoom r1)
    (h : (((121 < x2) → ((in32 ((-1) - (mem 22 2))) ∧ Q (some (Iq ((-1) - (mem 22 2)))) mem)) ∧ (¬ (121 < x2) → ((∃ (v3 : Int) (m4 : Zm), Ct1 S mX2_readItem [Aq 22, Aq r1] mem (some (Iq v3)) m4 ∧ ((((v3 = 0) → ((in32 ((-1) - (m4 22 2))) ∧ Q (some (Iq ((-1) - (m4 22 2)))) m4)) ∧ (¬ (v3 = 0) → ((((m4 22 4 = 0) → (Q (some (Iq x2)) m4)) ∧ (¬ (m4 22 4 = 0) → ((((m4 22 4 = 3) → ((∃ (m10 : Zm), Ct1 S mX2_nextToken [Aq 22] m4 none m10 ∧ ((in32 (x2 + 1)) ∧ PW S mX2_readInto Q 11 [some (Aq 22), some (Aq r1), some (Iq (x2 + 1))] [] m10)))) ∧ (¬ (m4 22 4 = 3) → ((in32 ((-1) - (m4 22 2))) ∧ Q (some (Iq ((-1) - (m4 22 2)))) m4))))))))))))))) :
    PW S mX2_readInto Q 11 [some (Aq 22), some (Aq r1), some (Iq x2)] [] mem := by
  refine pw_iload_n eX2_readInto_11 rfl rfl ?_
  refine pw_bipush eX2_readInto_12 ⟨by decide, by decide⟩ (by decide) ?_
  refine pw_icmp_gt eX2_readInto_14 (fun c1 => ?_) (fun c1 => ?_)
  · have h := h.1 c1
    refine pw_iconst eX2_readInto_66 ⟨by decide, by decide⟩ ?_
    refine pw_aload_n eX2_readInto_67 rfl rfl ?_
    refine gf_RX2_19 rfl eX2_readInto_68 sh22 ?_
    obtain ⟨ob2, h⟩ := h
    refine pw_isub eX2_readInto_71 ob2 ?_
    exact pw_iret eX2_readInto_72 h
  · have h := h.2 c1
    refine pw_aload_n eX2_readInto_17 rfl rfl ?_
    refine pw_aload_n eX2_readInto_18 rfl rfl ?_
    obtain ⟨v3, m4, hc5, h⟩ := h
    refine pw_cV (z := mX2_readItem) (av := [Aq r1]) (st := []) eX2_readInto_19 lk_RX2_38 rfl (by decide) (by decide) sh22 rfl rfl (Nat.le_of_ble_eq_true rfl) rfl hc5 ?_
    show PW S mX2_readInto Q 22 [some (Aq 22), some (Aq r1), some (Iq x2)] [Iq v3] m4
    refine pw_if_ne eX2_readInto_22 (fun c6 => ?_) (fun c6 => ?_)
    · have h := h.2 c6
      refine pw_aload_n eX2_readInto_32 rfl rfl ?_
      refine gf_RX2_25 rfl eX2_readInto_33 sh22 ?_
      refine pw_if_ne eX2_readInto_36 (fun c7 => ?_) (fun c7 => ?_)
      · have h := h.2 c7
        refine pw_aload_n eX2_readInto_41 rfl rfl ?_
        refine gf_RX2_25 rfl eX2_readInto_42 sh22 ?_
        refine pw_iconst eX2_readInto_45 ⟨by decide, by decide⟩ ?_
        refine pw_icmp_eq eX2_readInto_46 (fun c8 => ?_) (fun c8 => ?_)
        · have h := h.1 c8
          refine pw_aload_n eX2_readInto_56 rfl rfl ?_
          obtain ⟨m10, hc11, h⟩ := h
          refine pw_cV (z := mX2_nextToken) (av := []) (st := []) eX2_readInto_57 lk_RX2_35 rfl (by decide) (by decide) sh22 rfl rfl (Nat.le_of_ble_eq_true rfl) rfl hc11 ?_
          show PW S mX2_readInto Q 60 [some (Aq 22), some (Aq r1), some (Iq x2)] [] m10
          obtain ⟨ob12, h⟩ := h
          refine pw_iinc (ls2 := [some (Aq 22), some (Aq r1), some (Iq (x2 + 1))]) eX2_readInto_60 rfl ob12 rfl ?_
          refine pw_goto eX2_readInto_63 ?_
          exact h
        · have h := h.2 c8
          refine pw_iconst eX2_readInto_49 ⟨by decide, by decide⟩ ?_
          refine pw_aload_n eX2_readInto_50 rfl rfl ?_
          refine gf_RX2_19 rfl eX2_readInto_51 sh22 ?_
          obtain ⟨ob13, h⟩ := h
          refine pw_isub eX2_readInto_54 ob13 ?_
          exact pw_iret eX2_readInto_55 h
      · have h := h.1 (Classical.not_not.mp c7)
        refine pw_iload_n eX2_readInto_39 rfl rfl ?_
        exact pw_iret eX2_readInto_40 h
    · have h := h.1 (Classical.not_not.mp c6)
      refine pw_iconst eX2_readInto_25 ⟨by decide, by decide⟩ ?_
      refine pw_aload_n eX2_readInto_26 rfl rfl ?_
      refine gf_RX2_19 rfl eX2_readInto_27 sh22 ?_
      obtain ⟨ob14, h⟩ := h
      refine pw_isub eX2_readInto_30 ob14 ?_
      exact pw_iret eX2_readInto_31 h
set_option maxRecDepth 100000 in
theorem rg_X3_go_0 {S : Sx} {Q : Option PV → Zm → Prop} {mem : Zm}   {x1 : Int} 
    (h : (((1 ≤ x1 ∧ x1 ≤ 60) → ((in32 ((mem 1 8) + x1)) ∧ ((((mem 1 8) + x1 ≤ 99999) → ((∃ (m5 : Zm), Ct1 S mX0_passDays [Aq 1, Iq x1] mem none m5 ∧ ((∃ (v7 : Int) (m8 : Zm), Ct1 S mX0_total [Aq 1, Iq 3] m5 (some (Iq v7)) m8 ∧ (Q (some (Iq v7)) m8)))))) ∧ (¬ ((mem 1 8) + x1 ≤ 99999) → ((fOX mem (-1000005)) ∧ Q (some (Iq (-1000005))) (fndx mem (-1000005))))))) ∧ (¬ (1 ≤ x1 ∧ x1 ≤ 60) → ((fOX mem (-1000001)) ∧ Q (some (Iq (-1000001))) (fndx mem (-1000001)))))) :
    PW S mX3_go Q 0 [some (Aq 0), some (Iq x1)] [] mem := by
  refine pw_iload_n eX3_go_0 rfl rfl ?_
  refine pw_iconst eX3_go_1 ⟨by decide, by decide⟩ ?_
  refine pw_bipush eX3_go_2 ⟨by decide, by decide⟩ (by decide) ?_
  refine pw_cS (z := mX3_within) (av := [Iq x1, Iq 1, Iq 60]) (st := []) eX3_go_4 lk_RX3_44 rfl (by decide) (by decide) (Nat.le_of_ble_eq_true rfl) rfl (ct_X3_within (mem := mem)) ?_
  show PW S mX3_go Q 7 [some (Aq 0), some (Iq x1)] [Iq (bI (1 ≤ x1 ∧ x1 ≤ 60))] mem
  refine pw_if_ne eX3_go_7 (fun c1 => ?_) (fun c1 => ?_)
  · have h := h.1 (bI1.mp c1)
    refine pw_aload_n eX3_go_17 rfl rfl ?_
    refine gf_RX3_10 rfl eX3_go_18 sh0 ?_
    refine gf_RX3_101 rfl eX3_go_21 (shR isR1) ?_
    refine pw_iload_n eX3_go_24 rfl rfl ?_
    obtain ⟨ob2, h⟩ := h
    refine pw_iadd eX3_go_25 ob2 ?_
    refine pw_ldc (n := 99999) eX3_go_26 ⟨by decide, by decide⟩ kc_RX3_104 ?_
    refine pw_icmp_le eX3_go_28 (fun c3 => ?_) (fun c3 => ?_)
    · have h := h.1 c3
      refine pw_aload_n eX3_go_38 rfl rfl ?_
      refine gf_RX3_10 rfl eX3_go_39 sh0 ?_
      refine pw_iload_n eX3_go_42 rfl rfl ?_
      obtain ⟨m5, hc6, h⟩ := h
      refine pw_cV (z := mX0_passDays) (av := [Iq x1]) (st := []) eX3_go_43 lk_RX3_106 rfl (by decide) (by decide) (shR isR1) rfl rfl (Nat.le_of_ble_eq_true rfl) rfl hc6 ?_
      show PW S mX3_go Q 46 [some (Aq 0), some (Iq x1)] [] m5
      refine pw_aload_n eX3_go_46 rfl rfl ?_
      refine gf_RX3_10 rfl eX3_go_47 sh0 ?_
      refine pw_iconst eX3_go_50 ⟨by decide, by decide⟩ ?_
      obtain ⟨v7, m8, hc9, h⟩ := h
      refine pw_cV (z := mX0_total) (av := [Iq 3]) (st := []) eX3_go_51 lk_RX3_110 rfl (by decide) (by decide) (shR isR1) rfl rfl (Nat.le_of_ble_eq_true rfl) rfl hc9 ?_
      show PW S mX3_go Q 54 [some (Aq 0), some (Iq x1)] [Iq v7] m8
      exact pw_iret eX3_go_54 h
    · have h := h.2 c3
      refine pw_aload_n eX3_go_31 rfl rfl ?_
      refine pw_ldc (n := (-1000005)) eX3_go_32 ⟨by decide, by decide⟩ kc_RX3_105 ?_
      obtain ⟨ob10, h⟩ := h
      refine pw_cV (z := mX3_finding) (av := [Iq (-1000005)]) (st := []) eX3_go_34 lk_RX3_49 rfl (by decide) (by decide) sh0 rfl rfl (Nat.le_of_ble_eq_true rfl) rfl (ct_X3_finding (mem := mem) ob10) ?_
      show PW S mX3_go Q 37 [some (Aq 0), some (Iq x1)] [Iq (-1000005)] (fndx mem (-1000005))
      exact pw_iret eX3_go_37 h
  · have h := h.2 (bI0.mp (Classical.not_not.mp c1))
    refine pw_aload_n eX3_go_10 rfl rfl ?_
    refine pw_ldc (n := (-1000001)) eX3_go_11 ⟨by decide, by decide⟩ kc_RX3_48 ?_
    obtain ⟨ob11, h⟩ := h
    refine pw_cV (z := mX3_finding) (av := [Iq (-1000001)]) (st := []) eX3_go_13 lk_RX3_49 rfl (by decide) (by decide) sh0 rfl rfl (Nat.le_of_ble_eq_true rfl) rfl (ct_X3_finding (mem := mem) ob11) ?_
    show PW S mX3_go Q 16 [some (Aq 0), some (Iq x1)] [Iq (-1000001)] (fndx mem (-1000001))
    exact pw_iret eX3_go_16 h
set_option maxRecDepth 100000 in
theorem rg_X3_ahead_0 {S : Sx} {Q : Option PV → Zm → Prop} {mem : Zm}   {x1 x2 x3 : Int} 
    (h : (((x2 = 1) → ((((0 ≤ x1 ∧ x1 < mem 1 7) → ((((0 ≤ x3 ∧ x3 ≤ 60) → ((∃ (m7 : Zm), Ct1 S mX0_become [Aq 8, Aq 1] mem none m7 ∧ ((∃ (m10 : Zm), Ct1 S mX0_passDays [Aq 8, Iq x3] m7 none m10 ∧ ((0 ≤ x1 ∧ x1 < 8 ∧ 0 ≤ x2 ∧ x2 < 6) ∧ Q (some (Iq (m10 (8 + 2) (6 * (x1).toNat + (x2).toNat)))) m10)))))) ∧ (¬ (0 ≤ x3 ∧ x3 ≤ 60) → ((fOX mem (-1000001)) ∧ Q (some (Iq (-1000001))) (fndx mem (-1000001))))))) ∧ (¬ (0 ≤ x1 ∧ x1 < mem 1 7) → ((fOX mem (-1000001)) ∧ Q (some (Iq (-1000001))) (fndx mem (-1000001))))))) ∧ (¬ (x2 = 1) → ((((x2 = 3) → ((((0 ≤ x1 ∧ x1 < mem 1 7) → ((((0 ≤ x3 ∧ x3 ≤ 60) → ((∃ (m20 : Zm), Ct1 S mX0_become [Aq 8, Aq 1] mem none m20 ∧ ((∃ (m23 : Zm), Ct1 S mX0_passDays [Aq 8, Iq x3] m20 none m23 ∧ ((0 ≤ x1 ∧ x1 < 8 ∧ 0 ≤ x2 ∧ x2 < 6) ∧ Q (some (Iq (m23 (8 + 2) (6 * (x1).toNat + (x2).toNat)))) m23)))))) ∧ (¬ (0 ≤ x3 ∧ x3 ≤ 60) → ((fOX mem (-1000001)) ∧ Q (some (Iq (-1000001))) (fndx mem (-1000001))))))) ∧ (¬ (0 ≤ x1 ∧ x1 < mem 1 7) → ((fOX mem (-1000001)) ∧ Q (some (Iq (-1000001))) (fndx mem (-1000001))))))) ∧ (¬ (x2 = 3) → ((((x2 = 4) → ((((0 ≤ x1 ∧ x1 < mem 1 7) → ((((0 ≤ x3 ∧ x3 ≤ 60) → ((∃ (m33 : Zm), Ct1 S mX0_become [Aq 8, Aq 1] mem none m33 ∧ ((∃ (m36 : Zm), Ct1 S mX0_passDays [Aq 8, Iq x3] m33 none m36 ∧ ((0 ≤ x1 ∧ x1 < 8 ∧ 0 ≤ x2 ∧ x2 < 6) ∧ Q (some (Iq (m36 (8 + 2) (6 * (x1).toNat + (x2).toNat)))) m36)))))) ∧ (¬ (0 ≤ x3 ∧ x3 ≤ 60) → ((fOX mem (-1000001)) ∧ Q (some (Iq (-1000001))) (fndx mem (-1000001))))))) ∧ (¬ (0 ≤ x1 ∧ x1 < mem 1 7) → ((fOX mem (-1000001)) ∧ Q (some (Iq (-1000001))) (fndx mem (-1000001))))))) ∧ (¬ (x2 = 4) → ((((x2 = 5) → ((((0 ≤ x1 ∧ x1 < mem 1 7) → ((((0 ≤ x3 ∧ x3 ≤ 60) → ((∃ (m50 : Zm), Ct1 S mX0_become [Aq 8, Aq 1] mem none m50 ∧ ((∃ (m53 : Zm), Ct1 S mX0_passDays [Aq 8, Iq x3] m50 none m53 ∧ ((0 ≤ x1 ∧ x1 < 8 ∧ 0 ≤ x2 ∧ x2 < 6) ∧ Q (some (Iq (m53 (8 + 2) (6 * (x1).toNat + (x2).toNat)))) m53)))))) ∧ (¬ (0 ≤ x3 ∧ x3 ≤ 60) → ((fOX mem (-1000001)) ∧ Q (some (Iq (-1000001))) (fndx mem (-1000001))))))) ∧ (¬ (0 ≤ x1 ∧ x1 < mem 1 7) → ((fOX mem (-1000001)) ∧ Q (some (Iq (-1000001))) (fndx mem (-1000001))))))) ∧ (¬ (x2 = 5) → ((((0 ≤ x1 ∧ x1 < mem 1 7) → ((fOX mem (-1000001)) ∧ Q (some (Iq (-1000001))) (fndx mem (-1000001)))) ∧ (¬ (0 ≤ x1 ∧ x1 < mem 1 7) → ((fOX mem (-1000001)) ∧ Q (some (Iq (-1000001))) (fndx mem (-1000001)))))))))))))))))) :
    PW S mX3_ahead Q 0 [some (Aq 0), some (Iq x1), some (Iq x2), some (Iq x3), none] [] mem := by
  refine pw_iload_n eX3_ahead_0 rfl rfl ?_
  refine pw_iconst eX3_ahead_1 ⟨by decide, by decide⟩ ?_
  refine pw_icmp_eq eX3_ahead_2 (fun c1 => ?_) (fun c1 => ?_)
  · have h := h.1 c1
    refine pw_iconst eX3_ahead_20 ⟨by decide, by decide⟩ ?_
    refine pw_goto eX3_ahead_21 ?_
    refine pw_istore (ls2 := [some (Aq 0), some (Iq x1), some (Iq x2), some (Iq x3), some (Iq 1)]) eX3_ahead_25 (by decide) rfl ?_
    refine pw_aload_n eX3_ahead_27 rfl rfl ?_
    refine gf_RX3_10 rfl eX3_ahead_28 sh0 ?_
    refine pw_iload_n eX3_ahead_31 rfl rfl ?_
    refine pw_cV (z := mX0_has) (av := [Iq x1]) (st := []) eX3_ahead_32 lk_RX3_68 rfl (by decide) (by decide) (shR isR1) rfl rfl (Nat.le_of_ble_eq_true rfl) rfl (ct_X0_has (mem := mem) isR1) ?_
    show PW S mX3_ahead Q 35 [some (Aq 0), some (Iq x1), some (Iq x2), some (Iq x3), some (Iq 1)] [Iq (bI (0 ≤ x1 ∧ x1 < mem 1 7))] mem
    refine pw_if_eq eX3_ahead_35 (fun c2 => ?_) (fun c2 => ?_)
    · have h := h.2 (bI0.mp c2)
      refine pw_aload_n eX3_ahead_53 rfl rfl ?_
      refine pw_ldc (n := (-1000001)) eX3_ahead_54 ⟨by decide, by decide⟩ kc_RX3_48 ?_
      obtain ⟨ob3, h⟩ := h
      refine pw_cV (z := mX3_finding) (av := [Iq (-1000001)]) (st := []) eX3_ahead_56 lk_RX3_49 rfl (by decide) (by decide) sh0 rfl rfl (Nat.le_of_ble_eq_true rfl) rfl (ct_X3_finding (mem := mem) ob3) ?_
      show PW S mX3_ahead Q 59 [some (Aq 0), some (Iq x1), some (Iq x2), some (Iq x3), some (Iq 1)] [Iq (-1000001)] (fndx mem (-1000001))
      exact pw_iret eX3_ahead_59 h
    · have h := h.1 (bI1.mp c2)
      refine pw_iload eX3_ahead_38 rfl ?_
      refine pw_if_eq eX3_ahead_40 (fun c4 => ?_) (fun c4 => ?_)
      · exact absurd c4 (by decide)
      · skip
        refine pw_iload_n eX3_ahead_43 rfl rfl ?_
        refine pw_iconst eX3_ahead_44 ⟨by decide, by decide⟩ ?_
        refine pw_bipush eX3_ahead_45 ⟨by decide, by decide⟩ (by decide) ?_
        refine pw_cS (z := mX3_within) (av := [Iq x3, Iq 0, Iq 60]) (st := []) eX3_ahead_47 lk_RX3_44 rfl (by decide) (by decide) (Nat.le_of_ble_eq_true rfl) rfl (ct_X3_within (mem := mem)) ?_
        show PW S mX3_ahead Q 50 [some (Aq 0), some (Iq x1), some (Iq x2), some (Iq x3), some (Iq 1)] [Iq (bI (0 ≤ x3 ∧ x3 ≤ 60))] mem
        refine pw_if_ne eX3_ahead_50 (fun c5 => ?_) (fun c5 => ?_)
        · have h := h.1 (bI1.mp c5)
          refine pw_aload_n eX3_ahead_60 rfl rfl ?_
          refine gf_RX3_16 rfl eX3_ahead_61 sh0 ?_
          refine pw_aload_n eX3_ahead_64 rfl rfl ?_
          refine gf_RX3_10 rfl eX3_ahead_65 sh0 ?_
          obtain ⟨m7, hc8, h⟩ := h
          refine pw_cV (z := mX0_become) (av := [Aq 1]) (st := []) eX3_ahead_68 lk_RX3_126 rfl (by decide) (by decide) (shR isR8) rfl rfl (Nat.le_of_ble_eq_true rfl) rfl hc8 ?_
          show PW S mX3_ahead Q 71 [some (Aq 0), some (Iq x1), some (Iq x2), some (Iq x3), some (Iq 1)] [] m7
          refine pw_aload_n eX3_ahead_71 rfl rfl ?_
          refine gf_RX3_16 rfl eX3_ahead_72 sh0 ?_
          refine pw_iload_n eX3_ahead_75 rfl rfl ?_
          obtain ⟨m10, hc11, h⟩ := h
          refine pw_cV (z := mX0_passDays) (av := [Iq x3]) (st := []) eX3_ahead_76 lk_RX3_106 rfl (by decide) (by decide) (shR isR8) rfl rfl (Nat.le_of_ble_eq_true rfl) rfl hc11 ?_
          show PW S mX3_ahead Q 79 [some (Aq 0), some (Iq x1), some (Iq x2), some (Iq x3), some (Iq 1)] [] m10
          refine pw_aload_n eX3_ahead_79 rfl rfl ?_
          refine gf_RX3_16 rfl eX3_ahead_80 sh0 ?_
          refine pw_iload_n eX3_ahead_83 rfl rfl ?_
          refine pw_iload_n eX3_ahead_84 rfl rfl ?_
          obtain ⟨ob12, h⟩ := h
          refine pw_cV (z := mX0_fact) (av := [Iq x1, Iq x2]) (st := []) eX3_ahead_85 lk_RX3_81 rfl (by decide) (by decide) (shR isR8) rfl rfl (Nat.le_of_ble_eq_true rfl) rfl (ct_X0_fact (mem := m10) isR8 ob12) ?_
          show PW S mX3_ahead Q 88 [some (Aq 0), some (Iq x1), some (Iq x2), some (Iq x3), some (Iq 1)] [Iq (m10 (8 + 2) (6 * (x1).toNat + (x2).toNat))] m10
          exact pw_iret eX3_ahead_88 h
        · have h := h.2 (bI0.mp (Classical.not_not.mp c5))
          refine pw_aload_n eX3_ahead_53 rfl rfl ?_
          refine pw_ldc (n := (-1000001)) eX3_ahead_54 ⟨by decide, by decide⟩ kc_RX3_48 ?_
          obtain ⟨ob13, h⟩ := h
          refine pw_cV (z := mX3_finding) (av := [Iq (-1000001)]) (st := []) eX3_ahead_56 lk_RX3_49 rfl (by decide) (by decide) sh0 rfl rfl (Nat.le_of_ble_eq_true rfl) rfl (ct_X3_finding (mem := mem) ob13) ?_
          show PW S mX3_ahead Q 59 [some (Aq 0), some (Iq x1), some (Iq x2), some (Iq x3), some (Iq 1)] [Iq (-1000001)] (fndx mem (-1000001))
          exact pw_iret eX3_ahead_59 h
  · have h := h.2 c1
    refine pw_iload_n eX3_ahead_5 rfl rfl ?_
    refine pw_iconst eX3_ahead_6 ⟨by decide, by decide⟩ ?_
    refine pw_icmp_eq eX3_ahead_7 (fun c14 => ?_) (fun c14 => ?_)
    · have h := h.1 c14
      refine pw_iconst eX3_ahead_20 ⟨by decide, by decide⟩ ?_
      refine pw_goto eX3_ahead_21 ?_
      refine pw_istore (ls2 := [some (Aq 0), some (Iq x1), some (Iq x2), some (Iq x3), some (Iq 1)]) eX3_ahead_25 (by decide) rfl ?_
      refine pw_aload_n eX3_ahead_27 rfl rfl ?_
      refine gf_RX3_10 rfl eX3_ahead_28 sh0 ?_
      refine pw_iload_n eX3_ahead_31 rfl rfl ?_
      refine pw_cV (z := mX0_has) (av := [Iq x1]) (st := []) eX3_ahead_32 lk_RX3_68 rfl (by decide) (by decide) (shR isR1) rfl rfl (Nat.le_of_ble_eq_true rfl) rfl (ct_X0_has (mem := mem) isR1) ?_
      show PW S mX3_ahead Q 35 [some (Aq 0), some (Iq x1), some (Iq x2), some (Iq x3), some (Iq 1)] [Iq (bI (0 ≤ x1 ∧ x1 < mem 1 7))] mem
      refine pw_if_eq eX3_ahead_35 (fun c15 => ?_) (fun c15 => ?_)
      · have h := h.2 (bI0.mp c15)
        refine pw_aload_n eX3_ahead_53 rfl rfl ?_
        refine pw_ldc (n := (-1000001)) eX3_ahead_54 ⟨by decide, by decide⟩ kc_RX3_48 ?_
        obtain ⟨ob16, h⟩ := h
        refine pw_cV (z := mX3_finding) (av := [Iq (-1000001)]) (st := []) eX3_ahead_56 lk_RX3_49 rfl (by decide) (by decide) sh0 rfl rfl (Nat.le_of_ble_eq_true rfl) rfl (ct_X3_finding (mem := mem) ob16) ?_
        show PW S mX3_ahead Q 59 [some (Aq 0), some (Iq x1), some (Iq x2), some (Iq x3), some (Iq 1)] [Iq (-1000001)] (fndx mem (-1000001))
        exact pw_iret eX3_ahead_59 h
      · have h := h.1 (bI1.mp c15)
        refine pw_iload eX3_ahead_38 rfl ?_
        refine pw_if_eq eX3_ahead_40 (fun c17 => ?_) (fun c17 => ?_)
        · exact absurd c17 (by decide)
        · skip
          refine pw_iload_n eX3_ahead_43 rfl rfl ?_
          refine pw_iconst eX3_ahead_44 ⟨by decide, by decide⟩ ?_
          refine pw_bipush eX3_ahead_45 ⟨by decide, by decide⟩ (by decide) ?_
          refine pw_cS (z := mX3_within) (av := [Iq x3, Iq 0, Iq 60]) (st := []) eX3_ahead_47 lk_RX3_44 rfl (by decide) (by decide) (Nat.le_of_ble_eq_true rfl) rfl (ct_X3_within (mem := mem)) ?_
          show PW S mX3_ahead Q 50 [some (Aq 0), some (Iq x1), some (Iq x2), some (Iq x3), some (Iq 1)] [Iq (bI (0 ≤ x3 ∧ x3 ≤ 60))] mem
          refine pw_if_ne eX3_ahead_50 (fun c18 => ?_) (fun c18 => ?_)
          · have h := h.1 (bI1.mp c18)
            refine pw_aload_n eX3_ahead_60 rfl rfl ?_
            refine gf_RX3_16 rfl eX3_ahead_61 sh0 ?_
            refine pw_aload_n eX3_ahead_64 rfl rfl ?_
            refine gf_RX3_10 rfl eX3_ahead_65 sh0 ?_
            obtain ⟨m20, hc21, h⟩ := h
            refine pw_cV (z := mX0_become) (av := [Aq 1]) (st := []) eX3_ahead_68 lk_RX3_126 rfl (by decide) (by decide) (shR isR8) rfl rfl (Nat.le_of_ble_eq_true rfl) rfl hc21 ?_
            show PW S mX3_ahead Q 71 [some (Aq 0), some (Iq x1), some (Iq x2), some (Iq x3), some (Iq 1)] [] m20
            refine pw_aload_n eX3_ahead_71 rfl rfl ?_
            refine gf_RX3_16 rfl eX3_ahead_72 sh0 ?_
            refine pw_iload_n eX3_ahead_75 rfl rfl ?_
            obtain ⟨m23, hc24, h⟩ := h
            refine pw_cV (z := mX0_passDays) (av := [Iq x3]) (st := []) eX3_ahead_76 lk_RX3_106 rfl (by decide) (by decide) (shR isR8) rfl rfl (Nat.le_of_ble_eq_true rfl) rfl hc24 ?_
            show PW S mX3_ahead Q 79 [some (Aq 0), some (Iq x1), some (Iq x2), some (Iq x3), some (Iq 1)] [] m23
            refine pw_aload_n eX3_ahead_79 rfl rfl ?_
            refine gf_RX3_16 rfl eX3_ahead_80 sh0 ?_
            refine pw_iload_n eX3_ahead_83 rfl rfl ?_
            refine pw_iload_n eX3_ahead_84 rfl rfl ?_
            obtain ⟨ob25, h⟩ := h
            refine pw_cV (z := mX0_fact) (av := [Iq x1, Iq x2]) (st := []) eX3_ahead_85 lk_RX3_81 rfl (by decide) (by decide) (shR isR8) rfl rfl (Nat.le_of_ble_eq_true rfl) rfl (ct_X0_fact (mem := m23) isR8 ob25) ?_
            show PW S mX3_ahead Q 88 [some (Aq 0), some (Iq x1), some (Iq x2), some (Iq x3), some (Iq 1)] [Iq (m23 (8 + 2) (6 * (x1).toNat + (x2).toNat))] m23
            exact pw_iret eX3_ahead_88 h
          · have h := h.2 (bI0.mp (Classical.not_not.mp c18))
            refine pw_aload_n eX3_ahead_53 rfl rfl ?_
            refine pw_ldc (n := (-1000001)) eX3_ahead_54 ⟨by decide, by decide⟩ kc_RX3_48 ?_
            obtain ⟨ob26, h⟩ := h
            refine pw_cV (z := mX3_finding) (av := [Iq (-1000001)]) (st := []) eX3_ahead_56 lk_RX3_49 rfl (by decide) (by decide) sh0 rfl rfl (Nat.le_of_ble_eq_true rfl) rfl (ct_X3_finding (mem := mem) ob26) ?_
            show PW S mX3_ahead Q 59 [some (Aq 0), some (Iq x1), some (Iq x2), some (Iq x3), some (Iq 1)] [Iq (-1000001)] (fndx mem (-1000001))
            exact pw_iret eX3_ahead_59 h
    · have h := h.2 c14
      refine pw_iload_n eX3_ahead_10 rfl rfl ?_
      refine pw_iconst eX3_ahead_11 ⟨by decide, by decide⟩ ?_
      refine pw_icmp_eq eX3_ahead_12 (fun c27 => ?_) (fun c27 => ?_)
      · have h := h.1 c27
        refine pw_iconst eX3_ahead_20 ⟨by decide, by decide⟩ ?_
        refine pw_goto eX3_ahead_21 ?_
        refine pw_istore (ls2 := [some (Aq 0), some (Iq x1), some (Iq x2), some (Iq x3), some (Iq 1)]) eX3_ahead_25 (by decide) rfl ?_
        refine pw_aload_n eX3_ahead_27 rfl rfl ?_
        refine gf_RX3_10 rfl eX3_ahead_28 sh0 ?_
        refine pw_iload_n eX3_ahead_31 rfl rfl ?_
        refine pw_cV (z := mX0_has) (av := [Iq x1]) (st := []) eX3_ahead_32 lk_RX3_68 rfl (by decide) (by decide) (shR isR1) rfl rfl (Nat.le_of_ble_eq_true rfl) rfl (ct_X0_has (mem := mem) isR1) ?_
        show PW S mX3_ahead Q 35 [some (Aq 0), some (Iq x1), some (Iq x2), some (Iq x3), some (Iq 1)] [Iq (bI (0 ≤ x1 ∧ x1 < mem 1 7))] mem
        refine pw_if_eq eX3_ahead_35 (fun c28 => ?_) (fun c28 => ?_)
        · have h := h.2 (bI0.mp c28)
          refine pw_aload_n eX3_ahead_53 rfl rfl ?_
          refine pw_ldc (n := (-1000001)) eX3_ahead_54 ⟨by decide, by decide⟩ kc_RX3_48 ?_
          obtain ⟨ob29, h⟩ := h
          refine pw_cV (z := mX3_finding) (av := [Iq (-1000001)]) (st := []) eX3_ahead_56 lk_RX3_49 rfl (by decide) (by decide) sh0 rfl rfl (Nat.le_of_ble_eq_true rfl) rfl (ct_X3_finding (mem := mem) ob29) ?_
          show PW S mX3_ahead Q 59 [some (Aq 0), some (Iq x1), some (Iq x2), some (Iq x3), some (Iq 1)] [Iq (-1000001)] (fndx mem (-1000001))
          exact pw_iret eX3_ahead_59 h
        · have h := h.1 (bI1.mp c28)
          refine pw_iload eX3_ahead_38 rfl ?_
          refine pw_if_eq eX3_ahead_40 (fun c30 => ?_) (fun c30 => ?_)
          · exact absurd c30 (by decide)
          · skip
            refine pw_iload_n eX3_ahead_43 rfl rfl ?_
            refine pw_iconst eX3_ahead_44 ⟨by decide, by decide⟩ ?_
            refine pw_bipush eX3_ahead_45 ⟨by decide, by decide⟩ (by decide) ?_
            refine pw_cS (z := mX3_within) (av := [Iq x3, Iq 0, Iq 60]) (st := []) eX3_ahead_47 lk_RX3_44 rfl (by decide) (by decide) (Nat.le_of_ble_eq_true rfl) rfl (ct_X3_within (mem := mem)) ?_
            show PW S mX3_ahead Q 50 [some (Aq 0), some (Iq x1), some (Iq x2), some (Iq x3), some (Iq 1)] [Iq (bI (0 ≤ x3 ∧ x3 ≤ 60))] mem
            refine pw_if_ne eX3_ahead_50 (fun c31 => ?_) (fun c31 => ?_)
            · have h := h.1 (bI1.mp c31)
              refine pw_aload_n eX3_ahead_60 rfl rfl ?_
              refine gf_RX3_16 rfl eX3_ahead_61 sh0 ?_
              refine pw_aload_n eX3_ahead_64 rfl rfl ?_
              refine gf_RX3_10 rfl eX3_ahead_65 sh0 ?_
              obtain ⟨m33, hc34, h⟩ := h
              refine pw_cV (z := mX0_become) (av := [Aq 1]) (st := []) eX3_ahead_68 lk_RX3_126 rfl (by decide) (by decide) (shR isR8) rfl rfl (Nat.le_of_ble_eq_true rfl) rfl hc34 ?_
              show PW S mX3_ahead Q 71 [some (Aq 0), some (Iq x1), some (Iq x2), some (Iq x3), some (Iq 1)] [] m33
              refine pw_aload_n eX3_ahead_71 rfl rfl ?_
              refine gf_RX3_16 rfl eX3_ahead_72 sh0 ?_
              refine pw_iload_n eX3_ahead_75 rfl rfl ?_
              obtain ⟨m36, hc37, h⟩ := h
              refine pw_cV (z := mX0_passDays) (av := [Iq x3]) (st := []) eX3_ahead_76 lk_RX3_106 rfl (by decide) (by decide) (shR isR8) rfl rfl (Nat.le_of_ble_eq_true rfl) rfl hc37 ?_
              show PW S mX3_ahead Q 79 [some (Aq 0), some (Iq x1), some (Iq x2), some (Iq x3), some (Iq 1)] [] m36
              refine pw_aload_n eX3_ahead_79 rfl rfl ?_
              refine gf_RX3_16 rfl eX3_ahead_80 sh0 ?_
              refine pw_iload_n eX3_ahead_83 rfl rfl ?_
              refine pw_iload_n eX3_ahead_84 rfl rfl ?_
              obtain ⟨ob38, h⟩ := h
              refine pw_cV (z := mX0_fact) (av := [Iq x1, Iq x2]) (st := []) eX3_ahead_85 lk_RX3_81 rfl (by decide) (by decide) (shR isR8) rfl rfl (Nat.le_of_ble_eq_true rfl) rfl (ct_X0_fact (mem := m36) isR8 ob38) ?_
              show PW S mX3_ahead Q 88 [some (Aq 0), some (Iq x1), some (Iq x2), some (Iq x3), some (Iq 1)] [Iq (m36 (8 + 2) (6 * (x1).toNat + (x2).toNat))] m36
              exact pw_iret eX3_ahead_88 h
            · have h := h.2 (bI0.mp (Classical.not_not.mp c31))
              refine pw_aload_n eX3_ahead_53 rfl rfl ?_
              refine pw_ldc (n := (-1000001)) eX3_ahead_54 ⟨by decide, by decide⟩ kc_RX3_48 ?_
              obtain ⟨ob39, h⟩ := h
              refine pw_cV (z := mX3_finding) (av := [Iq (-1000001)]) (st := []) eX3_ahead_56 lk_RX3_49 rfl (by decide) (by decide) sh0 rfl rfl (Nat.le_of_ble_eq_true rfl) rfl (ct_X3_finding (mem := mem) ob39) ?_
              show PW S mX3_ahead Q 59 [some (Aq 0), some (Iq x1), some (Iq x2), some (Iq x3), some (Iq 1)] [Iq (-1000001)] (fndx mem (-1000001))
              exact pw_iret eX3_ahead_59 h
      · have h := h.2 c27
        refine pw_iload_n eX3_ahead_15 rfl rfl ?_
        refine pw_iconst eX3_ahead_16 ⟨by decide, by decide⟩ ?_
        refine pw_icmp_ne eX3_ahead_17 (fun c40 => ?_) (fun c40 => ?_)
        · have h := h.2 c40
          refine pw_iconst eX3_ahead_24 ⟨by decide, by decide⟩ ?_
          refine pw_istore (ls2 := [some (Aq 0), some (Iq x1), some (Iq x2), some (Iq x3), some (Iq 0)]) eX3_ahead_25 (by decide) rfl ?_
          refine pw_aload_n eX3_ahead_27 rfl rfl ?_
          refine gf_RX3_10 rfl eX3_ahead_28 sh0 ?_
          refine pw_iload_n eX3_ahead_31 rfl rfl ?_
          refine pw_cV (z := mX0_has) (av := [Iq x1]) (st := []) eX3_ahead_32 lk_RX3_68 rfl (by decide) (by decide) (shR isR1) rfl rfl (Nat.le_of_ble_eq_true rfl) rfl (ct_X0_has (mem := mem) isR1) ?_
          show PW S mX3_ahead Q 35 [some (Aq 0), some (Iq x1), some (Iq x2), some (Iq x3), some (Iq 0)] [Iq (bI (0 ≤ x1 ∧ x1 < mem 1 7))] mem
          refine pw_if_eq eX3_ahead_35 (fun c41 => ?_) (fun c41 => ?_)
          · have h := h.2 (bI0.mp c41)
            refine pw_aload_n eX3_ahead_53 rfl rfl ?_
            refine pw_ldc (n := (-1000001)) eX3_ahead_54 ⟨by decide, by decide⟩ kc_RX3_48 ?_
            obtain ⟨ob42, h⟩ := h
            refine pw_cV (z := mX3_finding) (av := [Iq (-1000001)]) (st := []) eX3_ahead_56 lk_RX3_49 rfl (by decide) (by decide) sh0 rfl rfl (Nat.le_of_ble_eq_true rfl) rfl (ct_X3_finding (mem := mem) ob42) ?_
            show PW S mX3_ahead Q 59 [some (Aq 0), some (Iq x1), some (Iq x2), some (Iq x3), some (Iq 0)] [Iq (-1000001)] (fndx mem (-1000001))
            exact pw_iret eX3_ahead_59 h
          · have h := h.1 (bI1.mp c41)
            refine pw_iload eX3_ahead_38 rfl ?_
            refine pw_if_eq eX3_ahead_40 (fun c43 => ?_) (fun c43 => ?_)
            · skip
              refine pw_aload_n eX3_ahead_53 rfl rfl ?_
              refine pw_ldc (n := (-1000001)) eX3_ahead_54 ⟨by decide, by decide⟩ kc_RX3_48 ?_
              obtain ⟨ob44, h⟩ := h
              refine pw_cV (z := mX3_finding) (av := [Iq (-1000001)]) (st := []) eX3_ahead_56 lk_RX3_49 rfl (by decide) (by decide) sh0 rfl rfl (Nat.le_of_ble_eq_true rfl) rfl (ct_X3_finding (mem := mem) ob44) ?_
              show PW S mX3_ahead Q 59 [some (Aq 0), some (Iq x1), some (Iq x2), some (Iq x3), some (Iq 0)] [Iq (-1000001)] (fndx mem (-1000001))
              exact pw_iret eX3_ahead_59 h
            · exact absurd (by decide) c43
        · have h := h.1 (Classical.not_not.mp c40)
          refine pw_iconst eX3_ahead_20 ⟨by decide, by decide⟩ ?_
          refine pw_goto eX3_ahead_21 ?_
          refine pw_istore (ls2 := [some (Aq 0), some (Iq x1), some (Iq x2), some (Iq x3), some (Iq 1)]) eX3_ahead_25 (by decide) rfl ?_
          refine pw_aload_n eX3_ahead_27 rfl rfl ?_
          refine gf_RX3_10 rfl eX3_ahead_28 sh0 ?_
          refine pw_iload_n eX3_ahead_31 rfl rfl ?_
          refine pw_cV (z := mX0_has) (av := [Iq x1]) (st := []) eX3_ahead_32 lk_RX3_68 rfl (by decide) (by decide) (shR isR1) rfl rfl (Nat.le_of_ble_eq_true rfl) rfl (ct_X0_has (mem := mem) isR1) ?_
          show PW S mX3_ahead Q 35 [some (Aq 0), some (Iq x1), some (Iq x2), some (Iq x3), some (Iq 1)] [Iq (bI (0 ≤ x1 ∧ x1 < mem 1 7))] mem
          refine pw_if_eq eX3_ahead_35 (fun c45 => ?_) (fun c45 => ?_)
          · have h := h.2 (bI0.mp c45)
            refine pw_aload_n eX3_ahead_53 rfl rfl ?_
            refine pw_ldc (n := (-1000001)) eX3_ahead_54 ⟨by decide, by decide⟩ kc_RX3_48 ?_
            obtain ⟨ob46, h⟩ := h
            refine pw_cV (z := mX3_finding) (av := [Iq (-1000001)]) (st := []) eX3_ahead_56 lk_RX3_49 rfl (by decide) (by decide) sh0 rfl rfl (Nat.le_of_ble_eq_true rfl) rfl (ct_X3_finding (mem := mem) ob46) ?_
            show PW S mX3_ahead Q 59 [some (Aq 0), some (Iq x1), some (Iq x2), some (Iq x3), some (Iq 1)] [Iq (-1000001)] (fndx mem (-1000001))
            exact pw_iret eX3_ahead_59 h
          · have h := h.1 (bI1.mp c45)
            refine pw_iload eX3_ahead_38 rfl ?_
            refine pw_if_eq eX3_ahead_40 (fun c47 => ?_) (fun c47 => ?_)
            · exact absurd c47 (by decide)
            · skip
              refine pw_iload_n eX3_ahead_43 rfl rfl ?_
              refine pw_iconst eX3_ahead_44 ⟨by decide, by decide⟩ ?_
              refine pw_bipush eX3_ahead_45 ⟨by decide, by decide⟩ (by decide) ?_
              refine pw_cS (z := mX3_within) (av := [Iq x3, Iq 0, Iq 60]) (st := []) eX3_ahead_47 lk_RX3_44 rfl (by decide) (by decide) (Nat.le_of_ble_eq_true rfl) rfl (ct_X3_within (mem := mem)) ?_
              show PW S mX3_ahead Q 50 [some (Aq 0), some (Iq x1), some (Iq x2), some (Iq x3), some (Iq 1)] [Iq (bI (0 ≤ x3 ∧ x3 ≤ 60))] mem
              refine pw_if_ne eX3_ahead_50 (fun c48 => ?_) (fun c48 => ?_)
              · have h := h.1 (bI1.mp c48)
                refine pw_aload_n eX3_ahead_60 rfl rfl ?_
                refine gf_RX3_16 rfl eX3_ahead_61 sh0 ?_
                refine pw_aload_n eX3_ahead_64 rfl rfl ?_
                refine gf_RX3_10 rfl eX3_ahead_65 sh0 ?_
                obtain ⟨m50, hc51, h⟩ := h
                refine pw_cV (z := mX0_become) (av := [Aq 1]) (st := []) eX3_ahead_68 lk_RX3_126 rfl (by decide) (by decide) (shR isR8) rfl rfl (Nat.le_of_ble_eq_true rfl) rfl hc51 ?_
                show PW S mX3_ahead Q 71 [some (Aq 0), some (Iq x1), some (Iq x2), some (Iq x3), some (Iq 1)] [] m50
                refine pw_aload_n eX3_ahead_71 rfl rfl ?_
                refine gf_RX3_16 rfl eX3_ahead_72 sh0 ?_
                refine pw_iload_n eX3_ahead_75 rfl rfl ?_
                obtain ⟨m53, hc54, h⟩ := h
                refine pw_cV (z := mX0_passDays) (av := [Iq x3]) (st := []) eX3_ahead_76 lk_RX3_106 rfl (by decide) (by decide) (shR isR8) rfl rfl (Nat.le_of_ble_eq_true rfl) rfl hc54 ?_
                show PW S mX3_ahead Q 79 [some (Aq 0), some (Iq x1), some (Iq x2), some (Iq x3), some (Iq 1)] [] m53
                refine pw_aload_n eX3_ahead_79 rfl rfl ?_
                refine gf_RX3_16 rfl eX3_ahead_80 sh0 ?_
                refine pw_iload_n eX3_ahead_83 rfl rfl ?_
                refine pw_iload_n eX3_ahead_84 rfl rfl ?_
                obtain ⟨ob55, h⟩ := h
                refine pw_cV (z := mX0_fact) (av := [Iq x1, Iq x2]) (st := []) eX3_ahead_85 lk_RX3_81 rfl (by decide) (by decide) (shR isR8) rfl rfl (Nat.le_of_ble_eq_true rfl) rfl (ct_X0_fact (mem := m53) isR8 ob55) ?_
                show PW S mX3_ahead Q 88 [some (Aq 0), some (Iq x1), some (Iq x2), some (Iq x3), some (Iq 1)] [Iq (m53 (8 + 2) (6 * (x1).toNat + (x2).toNat))] m53
                exact pw_iret eX3_ahead_88 h
              · have h := h.2 (bI0.mp (Classical.not_not.mp c48))
                refine pw_aload_n eX3_ahead_53 rfl rfl ?_
                refine pw_ldc (n := (-1000001)) eX3_ahead_54 ⟨by decide, by decide⟩ kc_RX3_48 ?_
                obtain ⟨ob56, h⟩ := h
                refine pw_cV (z := mX3_finding) (av := [Iq (-1000001)]) (st := []) eX3_ahead_56 lk_RX3_49 rfl (by decide) (by decide) sh0 rfl rfl (Nat.le_of_ble_eq_true rfl) rfl (ct_X3_finding (mem := mem) ob56) ?_
                show PW S mX3_ahead Q 59 [some (Aq 0), some (Iq x1), some (Iq x2), some (Iq x3), some (Iq 1)] [Iq (-1000001)] (fndx mem (-1000001))
                exact pw_iret eX3_ahead_59 h
set_option maxRecDepth 100000 in
theorem rg_X3_writes_0 {S : Sx} {Q : Option PV → Zm → Prop} {mem : Zm}   {x1 x2 x3 : Int} 
    (h : (((0 ≤ x1 ∧ x1 < mem 1 7) → ((((0 ≤ x2 ∧ x2 ≤ 7) → ((((0 ≤ x3 ∧ x3 ≤ 60) → ((∃ (m7 : Zm), Ct1 S mX0_become [Aq 8, Aq 1] mem none m7 ∧ ((∃ (m10 : Zm), Ct1 S mX0_passDays [Aq 8, Iq x3] m7 none m10 ∧ ((0 ≤ x1 ∧ x1 < 8 ∧ 0 ≤ x2 ∧ x2 < 8) ∧ Q (some (Iq (m10 (8 + 3) (8 * (x1).toNat + (x2).toNat)))) m10)))))) ∧ (¬ (0 ≤ x3 ∧ x3 ≤ 60) → ((fOX mem (-1000001)) ∧ Q (some (Iq (-1000001))) (fndx mem (-1000001))))))) ∧ (¬ (0 ≤ x2 ∧ x2 ≤ 7) → ((fOX mem (-1000001)) ∧ Q (some (Iq (-1000001))) (fndx mem (-1000001))))))) ∧ (¬ (0 ≤ x1 ∧ x1 < mem 1 7) → ((fOX mem (-1000001)) ∧ Q (some (Iq (-1000001))) (fndx mem (-1000001)))))) :
    PW S mX3_writes Q 0 [some (Aq 0), some (Iq x1), some (Iq x2), some (Iq x3)] [] mem := by
  refine pw_aload_n eX3_writes_0 rfl rfl ?_
  refine gf_RX3_10 rfl eX3_writes_1 sh0 ?_
  refine pw_iload_n eX3_writes_4 rfl rfl ?_
  refine pw_cV (z := mX0_has) (av := [Iq x1]) (st := []) eX3_writes_5 lk_RX3_68 rfl (by decide) (by decide) (shR isR1) rfl rfl (Nat.le_of_ble_eq_true rfl) rfl (ct_X0_has (mem := mem) isR1) ?_
  show PW S mX3_writes Q 8 [some (Aq 0), some (Iq x1), some (Iq x2), some (Iq x3)] [Iq (bI (0 ≤ x1 ∧ x1 < mem 1 7))] mem
  refine pw_if_eq eX3_writes_8 (fun c1 => ?_) (fun c1 => ?_)
  · have h := h.2 (bI0.mp c1)
    refine pw_aload_n eX3_writes_31 rfl rfl ?_
    refine pw_ldc (n := (-1000001)) eX3_writes_32 ⟨by decide, by decide⟩ kc_RX3_48 ?_
    obtain ⟨ob2, h⟩ := h
    refine pw_cV (z := mX3_finding) (av := [Iq (-1000001)]) (st := []) eX3_writes_34 lk_RX3_49 rfl (by decide) (by decide) sh0 rfl rfl (Nat.le_of_ble_eq_true rfl) rfl (ct_X3_finding (mem := mem) ob2) ?_
    show PW S mX3_writes Q 37 [some (Aq 0), some (Iq x1), some (Iq x2), some (Iq x3)] [Iq (-1000001)] (fndx mem (-1000001))
    exact pw_iret eX3_writes_37 h
  · have h := h.1 (bI1.mp c1)
    refine pw_iload_n eX3_writes_11 rfl rfl ?_
    refine pw_iconst eX3_writes_12 ⟨by decide, by decide⟩ ?_
    refine pw_bipush eX3_writes_13 ⟨by decide, by decide⟩ (by decide) ?_
    refine pw_cS (z := mX3_within) (av := [Iq x2, Iq 0, Iq 7]) (st := []) eX3_writes_15 lk_RX3_44 rfl (by decide) (by decide) (Nat.le_of_ble_eq_true rfl) rfl (ct_X3_within (mem := mem)) ?_
    show PW S mX3_writes Q 18 [some (Aq 0), some (Iq x1), some (Iq x2), some (Iq x3)] [Iq (bI (0 ≤ x2 ∧ x2 ≤ 7))] mem
    refine pw_if_eq eX3_writes_18 (fun c3 => ?_) (fun c3 => ?_)
    · have h := h.2 (bI0.mp c3)
      refine pw_aload_n eX3_writes_31 rfl rfl ?_
      refine pw_ldc (n := (-1000001)) eX3_writes_32 ⟨by decide, by decide⟩ kc_RX3_48 ?_
      obtain ⟨ob4, h⟩ := h
      refine pw_cV (z := mX3_finding) (av := [Iq (-1000001)]) (st := []) eX3_writes_34 lk_RX3_49 rfl (by decide) (by decide) sh0 rfl rfl (Nat.le_of_ble_eq_true rfl) rfl (ct_X3_finding (mem := mem) ob4) ?_
      show PW S mX3_writes Q 37 [some (Aq 0), some (Iq x1), some (Iq x2), some (Iq x3)] [Iq (-1000001)] (fndx mem (-1000001))
      exact pw_iret eX3_writes_37 h
    · have h := h.1 (bI1.mp c3)
      refine pw_iload_n eX3_writes_21 rfl rfl ?_
      refine pw_iconst eX3_writes_22 ⟨by decide, by decide⟩ ?_
      refine pw_bipush eX3_writes_23 ⟨by decide, by decide⟩ (by decide) ?_
      refine pw_cS (z := mX3_within) (av := [Iq x3, Iq 0, Iq 60]) (st := []) eX3_writes_25 lk_RX3_44 rfl (by decide) (by decide) (Nat.le_of_ble_eq_true rfl) rfl (ct_X3_within (mem := mem)) ?_
      show PW S mX3_writes Q 28 [some (Aq 0), some (Iq x1), some (Iq x2), some (Iq x3)] [Iq (bI (0 ≤ x3 ∧ x3 ≤ 60))] mem
      refine pw_if_ne eX3_writes_28 (fun c5 => ?_) (fun c5 => ?_)
      · have h := h.1 (bI1.mp c5)
        refine pw_aload_n eX3_writes_38 rfl rfl ?_
        refine gf_RX3_16 rfl eX3_writes_39 sh0 ?_
        refine pw_aload_n eX3_writes_42 rfl rfl ?_
        refine gf_RX3_10 rfl eX3_writes_43 sh0 ?_
        obtain ⟨m7, hc8, h⟩ := h
        refine pw_cV (z := mX0_become) (av := [Aq 1]) (st := []) eX3_writes_46 lk_RX3_126 rfl (by decide) (by decide) (shR isR8) rfl rfl (Nat.le_of_ble_eq_true rfl) rfl hc8 ?_
        show PW S mX3_writes Q 49 [some (Aq 0), some (Iq x1), some (Iq x2), some (Iq x3)] [] m7
        refine pw_aload_n eX3_writes_49 rfl rfl ?_
        refine gf_RX3_16 rfl eX3_writes_50 sh0 ?_
        refine pw_iload_n eX3_writes_53 rfl rfl ?_
        obtain ⟨m10, hc11, h⟩ := h
        refine pw_cV (z := mX0_passDays) (av := [Iq x3]) (st := []) eX3_writes_54 lk_RX3_106 rfl (by decide) (by decide) (shR isR8) rfl rfl (Nat.le_of_ble_eq_true rfl) rfl hc11 ?_
        show PW S mX3_writes Q 57 [some (Aq 0), some (Iq x1), some (Iq x2), some (Iq x3)] [] m10
        refine pw_aload_n eX3_writes_57 rfl rfl ?_
        refine gf_RX3_16 rfl eX3_writes_58 sh0 ?_
        refine pw_iload_n eX3_writes_61 rfl rfl ?_
        refine pw_iload_n eX3_writes_62 rfl rfl ?_
        obtain ⟨ob12, h⟩ := h
        refine pw_cV (z := mX0_answerOf) (av := [Iq x1, Iq x2]) (st := []) eX3_writes_63 lk_RX3_91 rfl (by decide) (by decide) (shR isR8) rfl rfl (Nat.le_of_ble_eq_true rfl) rfl (ct_X0_answerOf (mem := m10) isR8 ob12) ?_
        show PW S mX3_writes Q 66 [some (Aq 0), some (Iq x1), some (Iq x2), some (Iq x3)] [Iq (m10 (8 + 3) (8 * (x1).toNat + (x2).toNat))] m10
        exact pw_iret eX3_writes_66 h
      · have h := h.2 (bI0.mp (Classical.not_not.mp c5))
        refine pw_aload_n eX3_writes_31 rfl rfl ?_
        refine pw_ldc (n := (-1000001)) eX3_writes_32 ⟨by decide, by decide⟩ kc_RX3_48 ?_
        obtain ⟨ob13, h⟩ := h
        refine pw_cV (z := mX3_finding) (av := [Iq (-1000001)]) (st := []) eX3_writes_34 lk_RX3_49 rfl (by decide) (by decide) sh0 rfl rfl (Nat.le_of_ble_eq_true rfl) rfl (ct_X3_finding (mem := mem) ob13) ?_
        show PW S mX3_writes Q 37 [some (Aq 0), some (Iq x1), some (Iq x2), some (Iq x3)] [Iq (-1000001)] (fndx mem (-1000001))
        exact pw_iret eX3_writes_37 h
set_option maxRecDepth 100000 in
theorem rg_X3_seats_0 {S : Sx} {Q : Option PV → Zm → Prop} {mem : Zm}   {x1 : Int} 
    (h : (((1 ≤ x1 ∧ x1 ≤ 20) → ((in32 ((mem 1 8) + x1)) ∧ ((((mem 1 8) + x1 ≤ 99999) → (PW S mX3_seats Q 40 [some (Aq 0), some (Iq x1), some (Iq 0), none, none] [] mem)) ∧ (¬ ((mem 1 8) + x1 ≤ 99999) → ((fOX mem (-1000005)) ∧ Q (some (Iq (-1000005))) (fndx mem (-1000005))))))) ∧ (¬ (1 ≤ x1 ∧ x1 ≤ 20) → ((fOX mem (-1000001)) ∧ Q (some (Iq (-1000001))) (fndx mem (-1000001)))))) :
    PW S mX3_seats Q 0 [some (Aq 0), some (Iq x1), none, none, none] [] mem := by
  refine pw_iload_n eX3_seats_0 rfl rfl ?_
  refine pw_iconst eX3_seats_1 ⟨by decide, by decide⟩ ?_
  refine pw_bipush eX3_seats_2 ⟨by decide, by decide⟩ (by decide) ?_
  refine pw_cS (z := mX3_within) (av := [Iq x1, Iq 1, Iq 20]) (st := []) eX3_seats_4 lk_RX3_44 rfl (by decide) (by decide) (Nat.le_of_ble_eq_true rfl) rfl (ct_X3_within (mem := mem)) ?_
  show PW S mX3_seats Q 7 [some (Aq 0), some (Iq x1), none, none, none] [Iq (bI (1 ≤ x1 ∧ x1 ≤ 20))] mem
  refine pw_if_ne eX3_seats_7 (fun c1 => ?_) (fun c1 => ?_)
  · have h := h.1 (bI1.mp c1)
    refine pw_aload_n eX3_seats_17 rfl rfl ?_
    refine gf_RX3_10 rfl eX3_seats_18 sh0 ?_
    refine gf_RX3_101 rfl eX3_seats_21 (shR isR1) ?_
    refine pw_iload_n eX3_seats_24 rfl rfl ?_
    obtain ⟨ob2, h⟩ := h
    refine pw_iadd eX3_seats_25 ob2 ?_
    refine pw_ldc (n := 99999) eX3_seats_26 ⟨by decide, by decide⟩ kc_RX3_104 ?_
    refine pw_icmp_le eX3_seats_28 (fun c3 => ?_) (fun c3 => ?_)
    · have h := h.1 c3
      refine pw_iconst eX3_seats_38 ⟨by decide, by decide⟩ ?_
      refine pw_istore_n (ls2 := [some (Aq 0), some (Iq x1), some (Iq 0), none, none]) eX3_seats_39 rfl (by decide) rfl ?_
      exact h
    · have h := h.2 c3
      refine pw_aload_n eX3_seats_31 rfl rfl ?_
      refine pw_ldc (n := (-1000005)) eX3_seats_32 ⟨by decide, by decide⟩ kc_RX3_105 ?_
      obtain ⟨ob4, h⟩ := h
      refine pw_cV (z := mX3_finding) (av := [Iq (-1000005)]) (st := []) eX3_seats_34 lk_RX3_49 rfl (by decide) (by decide) sh0 rfl rfl (Nat.le_of_ble_eq_true rfl) rfl (ct_X3_finding (mem := mem) ob4) ?_
      show PW S mX3_seats Q 37 [some (Aq 0), some (Iq x1), none, none, none] [Iq (-1000005)] (fndx mem (-1000005))
      exact pw_iret eX3_seats_37 h
  · have h := h.2 (bI0.mp (Classical.not_not.mp c1))
    refine pw_aload_n eX3_seats_10 rfl rfl ?_
    refine pw_ldc (n := (-1000001)) eX3_seats_11 ⟨by decide, by decide⟩ kc_RX3_48 ?_
    obtain ⟨ob5, h⟩ := h
    refine pw_cV (z := mX3_finding) (av := [Iq (-1000001)]) (st := []) eX3_seats_13 lk_RX3_49 rfl (by decide) (by decide) sh0 rfl rfl (Nat.le_of_ble_eq_true rfl) rfl (ct_X3_finding (mem := mem) ob5) ?_
    show PW S mX3_seats Q 16 [some (Aq 0), some (Iq x1), none, none, none] [Iq (-1000001)] (fndx mem (-1000001))
    exact pw_iret eX3_seats_16 h

set_option maxRecDepth 100000 in
theorem rg_X3_seats_40 {S : Sx} {Q : Option PV → Zm → Prop} {mem : Zm}   {x1 x2 : Int} 
    (h : (((x1 ≤ x2) → ((∃ (v2 : Int) (m3 : Zm), Ct1 S mX0_total [Aq 1, Iq 3] mem (some (Iq v2)) m3 ∧ (Q (some (Iq v2)) m3)))) ∧ (¬ (x1 ≤ x2) → ((0 ≤ drwV (mem 1 9)) ∧ (0 ≤ drwV ((mup mem 1 9 (drwZ (mem 1 9))) 1 9)) ∧ (((0 ≤ (drwV (mem 1 9)) % 8 ∧ (drwV (mem 1 9)) % 8 < (mup (mup mem 1 9 (drwZ (mem 1 9))) 1 9 (drwZ ((mup mem 1 9 (drwZ (mem 1 9))) 1 9))) 1 7) → ((((0 ≤ (drwV ((mup mem 1 9 (drwZ (mem 1 9))) 1 9)) % 8 ∧ (drwV ((mup mem 1 9 (drwZ (mem 1 9))) 1 9)) % 8 < (mup (mup mem 1 9 (drwZ (mem 1 9))) 1 9 (drwZ ((mup mem 1 9 (drwZ (mem 1 9))) 1 9))) 1 7) → (((((drwV (mem 1 9)) % 8 = (drwV ((mup mem 1 9 (drwZ (mem 1 9))) 1 9)) % 8) → ((∃ (m19 : Zm), Ct1 S mX0_passDays [Aq 1, Iq 1] (mup (mup mem 1 9 (drwZ (mem 1 9))) 1 9 (drwZ ((mup mem 1 9 (drwZ (mem 1 9))) 1 9))) none m19 ∧ ((in32 (x2 + 1)) ∧ PW S mX3_seats Q 40 [some (Aq 0), some (Iq x1), some (Iq (x2 + 1)), none, none] [] m19)))) ∧ (¬ ((drwV (mem 1 9)) % 8 = (drwV ((mup mem 1 9 (drwZ (mem 1 9))) 1 9)) % 8) → ((0 ≤ (drwV (mem 1 9)) % 8 ∧ (drwV (mem 1 9)) % 8 < 8) ∧ (∃ (m24 : Zm), Ct1 S mX0_passDays [Aq 1, Iq 1] (mup (mup (mup mem 1 9 (drwZ (mem 1 9))) 1 9 (drwZ ((mup mem 1 9 (drwZ (mem 1 9))) 1 9))) (1 + 2) (6 * ((drwV (mem 1 9)) % 8).toNat + 2) ((drwV ((mup mem 1 9 (drwZ (mem 1 9))) 1 9)) % 8)) none m24 ∧ ((in32 (x2 + 1)) ∧ PW S mX3_seats Q 40 [some (Aq 0), some (Iq x1), some (Iq (x2 + 1)), none, none] [] m24))))))) ∧ (¬ (0 ≤ (drwV ((mup mem 1 9 (drwZ (mem 1 9))) 1 9)) % 8 ∧ (drwV ((mup mem 1 9 (drwZ (mem 1 9))) 1 9)) % 8 < (mup (mup mem 1 9 (drwZ (mem 1 9))) 1 9 (drwZ ((mup mem 1 9 (drwZ (mem 1 9))) 1 9))) 1 7) → ((∃ (m14 : Zm), Ct1 S mX0_passDays [Aq 1, Iq 1] (mup (mup mem 1 9 (drwZ (mem 1 9))) 1 9 (drwZ ((mup mem 1 9 (drwZ (mem 1 9))) 1 9))) none m14 ∧ ((in32 (x2 + 1)) ∧ PW S mX3_seats Q 40 [some (Aq 0), some (Iq x1), some (Iq (x2 + 1)), none, none] [] m14))))))) ∧ (¬ (0 ≤ (drwV (mem 1 9)) % 8 ∧ (drwV (mem 1 9)) % 8 < (mup (mup mem 1 9 (drwZ (mem 1 9))) 1 9 (drwZ ((mup mem 1 9 (drwZ (mem 1 9))) 1 9))) 1 7) → ((∃ (m9 : Zm), Ct1 S mX0_passDays [Aq 1, Iq 1] (mup (mup mem 1 9 (drwZ (mem 1 9))) 1 9 (drwZ ((mup mem 1 9 (drwZ (mem 1 9))) 1 9))) none m9 ∧ ((in32 (x2 + 1)) ∧ PW S mX3_seats Q 40 [some (Aq 0), some (Iq x1), some (Iq (x2 + 1)), none, none] [] m9))))))))) :
    PW S mX3_seats Q 40 [some (Aq 0), some (Iq x1), some (Iq x2), none, none] [] mem := by
  refine pw_iload_n eX3_seats_40 rfl rfl ?_
  refine pw_iload_n eX3_seats_41 rfl rfl ?_
  refine pw_icmp_ge eX3_seats_42 (fun c1 => ?_) (fun c1 => ?_)
  · have h := h.1 c1
    refine pw_aload_n eX3_seats_122 rfl rfl ?_
    refine gf_RX3_10 rfl eX3_seats_123 sh0 ?_
    refine pw_iconst eX3_seats_126 ⟨by decide, by decide⟩ ?_
    obtain ⟨v2, m3, hc4, h⟩ := h
    refine pw_cV (z := mX0_total) (av := [Iq 3]) (st := []) eX3_seats_127 lk_RX3_110 rfl (by decide) (by decide) (shR isR1) rfl rfl (Nat.le_of_ble_eq_true rfl) rfl hc4 ?_
    show PW S mX3_seats Q 130 [some (Aq 0), some (Iq x1), some (Iq x2), none, none] [Iq v2] m3
    exact pw_iret eX3_seats_130 h
  · have h := h.2 c1
    refine pw_aload_n eX3_seats_45 rfl rfl ?_
    refine gf_RX3_10 rfl eX3_seats_46 sh0 ?_
    refine pw_cV (z := mX0_draw) (av := []) (st := []) eX3_seats_49 lk_RX3_167 rfl (by decide) (by decide) (shR isR1) rfl rfl (Nat.le_of_ble_eq_true rfl) rfl (ct_X0_draw' (mem := mem) isR1) ?_
    show PW S mX3_seats Q 52 [some (Aq 0), some (Iq x1), some (Iq x2), none, none] [Iq (drwV (mem 1 9))] (mup mem 1 9 (drwZ (mem 1 9)))
    refine pw_bipush eX3_seats_52 ⟨by decide, by decide⟩ (by decide) ?_
    obtain ⟨ob5, h⟩ := h
    refine pw_irem eX3_seats_54 ob5 (by decide) ?_
    refine pw_istore_n (ls2 := [some (Aq 0), some (Iq x1), some (Iq x2), some (Iq ((drwV (mem 1 9)) % 8)), none]) eX3_seats_55 rfl (by decide) rfl ?_
    refine pw_aload_n eX3_seats_56 rfl rfl ?_
    refine gf_RX3_10 rfl eX3_seats_57 sh0 ?_
    refine pw_cV (z := mX0_draw) (av := []) (st := []) eX3_seats_60 lk_RX3_167 rfl (by decide) (by decide) (shR isR1) rfl rfl (Nat.le_of_ble_eq_true rfl) rfl (ct_X0_draw' (mem := mup mem 1 9 (drwZ (mem 1 9))) isR1) ?_
    show PW S mX3_seats Q 63 [some (Aq 0), some (Iq x1), some (Iq x2), some (Iq ((drwV (mem 1 9)) % 8)), none] [Iq (drwV ((mup mem 1 9 (drwZ (mem 1 9))) 1 9))] (mup (mup mem 1 9 (drwZ (mem 1 9))) 1 9 (drwZ ((mup mem 1 9 (drwZ (mem 1 9))) 1 9)))
    refine pw_bipush eX3_seats_63 ⟨by decide, by decide⟩ (by decide) ?_
    obtain ⟨ob6, h⟩ := h
    refine pw_irem eX3_seats_65 ob6 (by decide) ?_
    refine pw_istore (ls2 := [some (Aq 0), some (Iq x1), some (Iq x2), some (Iq ((drwV (mem 1 9)) % 8)), some (Iq ((drwV ((mup mem 1 9 (drwZ (mem 1 9))) 1 9)) % 8))]) eX3_seats_66 (by decide) rfl ?_
    refine pw_aload_n eX3_seats_68 rfl rfl ?_
    refine gf_RX3_10 rfl eX3_seats_69 sh0 ?_
    refine pw_iload_n eX3_seats_72 rfl rfl ?_
    refine pw_cV (z := mX0_has) (av := [Iq ((drwV (mem 1 9)) % 8)]) (st := []) eX3_seats_73 lk_RX3_68 rfl (by decide) (by decide) (shR isR1) rfl rfl (Nat.le_of_ble_eq_true rfl) rfl (ct_X0_has (mem := mup (mup mem 1 9 (drwZ (mem 1 9))) 1 9 (drwZ ((mup mem 1 9 (drwZ (mem 1 9))) 1 9))) isR1) ?_
    show PW S mX3_seats Q 76 [some (Aq 0), some (Iq x1), some (Iq x2), some (Iq ((drwV (mem 1 9)) % 8)), some (Iq ((drwV ((mup mem 1 9 (drwZ (mem 1 9))) 1 9)) % 8))] [Iq (bI (0 ≤ (drwV (mem 1 9)) % 8 ∧ (drwV (mem 1 9)) % 8 < (mup (mup mem 1 9 (drwZ (mem 1 9))) 1 9 (drwZ ((mup mem 1 9 (drwZ (mem 1 9))) 1 9))) 1 7))] (mup (mup mem 1 9 (drwZ (mem 1 9))) 1 9 (drwZ ((mup mem 1 9 (drwZ (mem 1 9))) 1 9)))
    refine pw_if_eq eX3_seats_76 (fun c7 => ?_) (fun c7 => ?_)
    · have h := h.2 (bI0.mp c7)
      refine pw_aload_n eX3_seats_108 rfl rfl ?_
      refine gf_RX3_10 rfl eX3_seats_109 sh0 ?_
      refine pw_iconst eX3_seats_112 ⟨by decide, by decide⟩ ?_
      obtain ⟨m9, hc10, h⟩ := h
      refine pw_cV (z := mX0_passDays) (av := [Iq 1]) (st := []) eX3_seats_113 lk_RX3_106 rfl (by decide) (by decide) (shR isR1) rfl rfl (Nat.le_of_ble_eq_true rfl) rfl hc10 ?_
      show PW S mX3_seats Q 116 [some (Aq 0), some (Iq x1), some (Iq x2), some (Iq ((drwV (mem 1 9)) % 8)), some (Iq ((drwV ((mup mem 1 9 (drwZ (mem 1 9))) 1 9)) % 8))] [] m9
      obtain ⟨ob11, h⟩ := h
      refine pw_iinc (ls2 := [some (Aq 0), some (Iq x1), some (Iq (x2 + 1)), some (Iq ((drwV (mem 1 9)) % 8)), some (Iq ((drwV ((mup mem 1 9 (drwZ (mem 1 9))) 1 9)) % 8))]) eX3_seats_116 rfl ob11 rfl ?_
      refine pw_goto eX3_seats_119 ?_
      exact pw_drop (bs := [true, true, true, false, false]) h
    · have h := h.1 (bI1.mp c7)
      refine pw_aload_n eX3_seats_79 rfl rfl ?_
      refine gf_RX3_10 rfl eX3_seats_80 sh0 ?_
      refine pw_iload eX3_seats_83 rfl ?_
      refine pw_cV (z := mX0_has) (av := [Iq ((drwV ((mup mem 1 9 (drwZ (mem 1 9))) 1 9)) % 8)]) (st := []) eX3_seats_85 lk_RX3_68 rfl (by decide) (by decide) (shR isR1) rfl rfl (Nat.le_of_ble_eq_true rfl) rfl (ct_X0_has (mem := mup (mup mem 1 9 (drwZ (mem 1 9))) 1 9 (drwZ ((mup mem 1 9 (drwZ (mem 1 9))) 1 9))) isR1) ?_
      show PW S mX3_seats Q 88 [some (Aq 0), some (Iq x1), some (Iq x2), some (Iq ((drwV (mem 1 9)) % 8)), some (Iq ((drwV ((mup mem 1 9 (drwZ (mem 1 9))) 1 9)) % 8))] [Iq (bI (0 ≤ (drwV ((mup mem 1 9 (drwZ (mem 1 9))) 1 9)) % 8 ∧ (drwV ((mup mem 1 9 (drwZ (mem 1 9))) 1 9)) % 8 < (mup (mup mem 1 9 (drwZ (mem 1 9))) 1 9 (drwZ ((mup mem 1 9 (drwZ (mem 1 9))) 1 9))) 1 7))] (mup (mup mem 1 9 (drwZ (mem 1 9))) 1 9 (drwZ ((mup mem 1 9 (drwZ (mem 1 9))) 1 9)))
      refine pw_if_eq eX3_seats_88 (fun c12 => ?_) (fun c12 => ?_)
      · have h := h.2 (bI0.mp c12)
        refine pw_aload_n eX3_seats_108 rfl rfl ?_
        refine gf_RX3_10 rfl eX3_seats_109 sh0 ?_
        refine pw_iconst eX3_seats_112 ⟨by decide, by decide⟩ ?_
        obtain ⟨m14, hc15, h⟩ := h
        refine pw_cV (z := mX0_passDays) (av := [Iq 1]) (st := []) eX3_seats_113 lk_RX3_106 rfl (by decide) (by decide) (shR isR1) rfl rfl (Nat.le_of_ble_eq_true rfl) rfl hc15 ?_
        show PW S mX3_seats Q 116 [some (Aq 0), some (Iq x1), some (Iq x2), some (Iq ((drwV (mem 1 9)) % 8)), some (Iq ((drwV ((mup mem 1 9 (drwZ (mem 1 9))) 1 9)) % 8))] [] m14
        obtain ⟨ob16, h⟩ := h
        refine pw_iinc (ls2 := [some (Aq 0), some (Iq x1), some (Iq (x2 + 1)), some (Iq ((drwV (mem 1 9)) % 8)), some (Iq ((drwV ((mup mem 1 9 (drwZ (mem 1 9))) 1 9)) % 8))]) eX3_seats_116 rfl ob16 rfl ?_
        refine pw_goto eX3_seats_119 ?_
        exact pw_drop (bs := [true, true, true, false, false]) h
      · have h := h.1 (bI1.mp c12)
        refine pw_iload_n eX3_seats_91 rfl rfl ?_
        refine pw_iload eX3_seats_92 rfl ?_
        refine pw_icmp_eq eX3_seats_94 (fun c17 => ?_) (fun c17 => ?_)
        · have h := h.1 c17
          refine pw_aload_n eX3_seats_108 rfl rfl ?_
          refine gf_RX3_10 rfl eX3_seats_109 sh0 ?_
          refine pw_iconst eX3_seats_112 ⟨by decide, by decide⟩ ?_
          obtain ⟨m19, hc20, h⟩ := h
          refine pw_cV (z := mX0_passDays) (av := [Iq 1]) (st := []) eX3_seats_113 lk_RX3_106 rfl (by decide) (by decide) (shR isR1) rfl rfl (Nat.le_of_ble_eq_true rfl) rfl hc20 ?_
          show PW S mX3_seats Q 116 [some (Aq 0), some (Iq x1), some (Iq x2), some (Iq ((drwV (mem 1 9)) % 8)), some (Iq ((drwV ((mup mem 1 9 (drwZ (mem 1 9))) 1 9)) % 8))] [] m19
          obtain ⟨ob21, h⟩ := h
          refine pw_iinc (ls2 := [some (Aq 0), some (Iq x1), some (Iq (x2 + 1)), some (Iq ((drwV (mem 1 9)) % 8)), some (Iq ((drwV ((mup mem 1 9 (drwZ (mem 1 9))) 1 9)) % 8))]) eX3_seats_116 rfl ob21 rfl ?_
          refine pw_goto eX3_seats_119 ?_
          exact pw_drop (bs := [true, true, true, false, false]) h
        · have h := h.2 c17
          refine pw_aload_n eX3_seats_97 rfl rfl ?_
          refine gf_RX3_10 rfl eX3_seats_98 sh0 ?_
          refine pw_iload_n eX3_seats_101 rfl rfl ?_
          refine pw_iconst eX3_seats_102 ⟨by decide, by decide⟩ ?_
          refine pw_iload eX3_seats_103 rfl ?_
          obtain ⟨ob22, h⟩ := h
          refine pw_cV (z := mX0_setFact) (av := [Iq ((drwV (mem 1 9)) % 8), Iq 2, Iq ((drwV ((mup mem 1 9 (drwZ (mem 1 9))) 1 9)) % 8)]) (st := []) eX3_seats_105 lk_RX3_87 rfl (by decide) (by decide) (shR isR1) rfl rfl (Nat.le_of_ble_eq_true rfl) rfl (ct_X0_setFact (mem := mup (mup mem 1 9 (drwZ (mem 1 9))) 1 9 (drwZ ((mup mem 1 9 (drwZ (mem 1 9))) 1 9))) isR1 ⟨ob22.1, ob22.2, by decide, by decide⟩) ?_
          show PW S mX3_seats Q 108 [some (Aq 0), some (Iq x1), some (Iq x2), some (Iq ((drwV (mem 1 9)) % 8)), some (Iq ((drwV ((mup mem 1 9 (drwZ (mem 1 9))) 1 9)) % 8))] [] (mup (mup (mup mem 1 9 (drwZ (mem 1 9))) 1 9 (drwZ ((mup mem 1 9 (drwZ (mem 1 9))) 1 9))) (1 + 2) (6 * ((drwV (mem 1 9)) % 8).toNat + 2) ((drwV ((mup mem 1 9 (drwZ (mem 1 9))) 1 9)) % 8))
          refine pw_aload_n eX3_seats_108 rfl rfl ?_
          refine gf_RX3_10 rfl eX3_seats_109 sh0 ?_
          refine pw_iconst eX3_seats_112 ⟨by decide, by decide⟩ ?_
          obtain ⟨m24, hc25, h⟩ := h
          refine pw_cV (z := mX0_passDays) (av := [Iq 1]) (st := []) eX3_seats_113 lk_RX3_106 rfl (by decide) (by decide) (shR isR1) rfl rfl (Nat.le_of_ble_eq_true rfl) rfl hc25 ?_
          show PW S mX3_seats Q 116 [some (Aq 0), some (Iq x1), some (Iq x2), some (Iq ((drwV (mem 1 9)) % 8)), some (Iq ((drwV ((mup mem 1 9 (drwZ (mem 1 9))) 1 9)) % 8))] [] m24
          obtain ⟨ob26, h⟩ := h
          refine pw_iinc (ls2 := [some (Aq 0), some (Iq x1), some (Iq (x2 + 1)), some (Iq ((drwV (mem 1 9)) % 8)), some (Iq ((drwV ((mup mem 1 9 (drwZ (mem 1 9))) 1 9)) % 8))]) eX3_seats_116 rfl ob26 rfl ?_
          refine pw_goto eX3_seats_119 ?_
          exact pw_drop (bs := [true, true, true, false, false]) h
set_option maxRecDepth 100000 in
theorem rg_X3_daysUntil_0 {S : Sx} {Q : Option PV → Zm → Prop} {mem : Zm}   {x1 x2 x3 : Int} 
    (h : (∃ (m2 : Zm), Ct1 S mX0_become [Aq 8, Aq 1] mem none m2 ∧ (PW S mX3_daysUntil Q 14 [some (Aq 0), some (Iq x1), some (Iq x2), some (Iq x3), some (Iq 0)] [] m2))) :
    PW S mX3_daysUntil Q 0 [some (Aq 0), some (Iq x1), some (Iq x2), some (Iq x3), none] [] mem := by
  refine pw_aload_n eX3_daysUntil_0 rfl rfl ?_
  refine gf_RX3_16 rfl eX3_daysUntil_1 sh0 ?_
  refine pw_aload_n eX3_daysUntil_4 rfl rfl ?_
  refine gf_RX3_10 rfl eX3_daysUntil_5 sh0 ?_
  obtain ⟨m2, hc3, h⟩ := h
  refine pw_cV (z := mX0_become) (av := [Aq 1]) (st := []) eX3_daysUntil_8 lk_RX3_126 rfl (by decide) (by decide) (shR isR8) rfl rfl (Nat.le_of_ble_eq_true rfl) rfl hc3 ?_
  show PW S mX3_daysUntil Q 11 [some (Aq 0), some (Iq x1), some (Iq x2), some (Iq x3), none] [] m2
  refine pw_iconst eX3_daysUntil_11 ⟨by decide, by decide⟩ ?_
  refine pw_istore (ls2 := [some (Aq 0), some (Iq x1), some (Iq x2), some (Iq x3), some (Iq 0)]) eX3_daysUntil_12 (by decide) rfl ?_
  exact h

set_option maxRecDepth 100000 in
theorem rg_X3_daysUntil_14 {S : Sx} {Q : Option PV → Zm → Prop} {mem : Zm}   {x1 x2 x3 x4 : Int} 
    (h : (((60 < x4) → (Q (some (Iq (-1000004))) mem)) ∧ (¬ (60 < x4) → ((0 ≤ x1 ∧ x1 < 8 ∧ 0 ≤ x2 ∧ x2 < 6) ∧ (((mem (8 + 2) (6 * (x1).toNat + (x2).toNat) < x3) → ((∃ (m5 : Zm), Ct1 S mX0_passDays [Aq 8, Iq 1] mem none m5 ∧ ((in32 (x4 + 1)) ∧ PW S mX3_daysUntil Q 14 [some (Aq 0), some (Iq x1), some (Iq x2), some (Iq x3), some (Iq (x4 + 1))] [] m5)))) ∧ (¬ (mem (8 + 2) (6 * (x1).toNat + (x2).toNat) < x3) → (Q (some (Iq x4)) mem))))))) :
    PW S mX3_daysUntil Q 14 [some (Aq 0), some (Iq x1), some (Iq x2), some (Iq x3), some (Iq x4)] [] mem := by
  refine pw_iload eX3_daysUntil_14 rfl ?_
  refine pw_bipush eX3_daysUntil_16 ⟨by decide, by decide⟩ (by decide) ?_
  refine pw_icmp_gt eX3_daysUntil_18 (fun c1 => ?_) (fun c1 => ?_)
  · have h := h.1 c1
    refine pw_ldc (n := (-1000004)) eX3_daysUntil_51 ⟨by decide, by decide⟩ kc_RX3_133 ?_
    exact pw_iret eX3_daysUntil_53 h
  · have h := h.2 c1
    refine pw_aload_n eX3_daysUntil_21 rfl rfl ?_
    refine gf_RX3_16 rfl eX3_daysUntil_22 sh0 ?_
    refine pw_iload_n eX3_daysUntil_25 rfl rfl ?_
    refine pw_iload_n eX3_daysUntil_26 rfl rfl ?_
    obtain ⟨ob2, h⟩ := h
    refine pw_cV (z := mX0_fact) (av := [Iq x1, Iq x2]) (st := []) eX3_daysUntil_27 lk_RX3_81 rfl (by decide) (by decide) (shR isR8) rfl rfl (Nat.le_of_ble_eq_true rfl) rfl (ct_X0_fact (mem := mem) isR8 ob2) ?_
    show PW S mX3_daysUntil Q 30 [some (Aq 0), some (Iq x1), some (Iq x2), some (Iq x3), some (Iq x4)] [Iq (mem (8 + 2) (6 * (x1).toNat + (x2).toNat))] mem
    refine pw_iload_n eX3_daysUntil_30 rfl rfl ?_
    refine pw_icmp_lt eX3_daysUntil_31 (fun c3 => ?_) (fun c3 => ?_)
    · have h := h.1 c3
      refine pw_aload_n eX3_daysUntil_37 rfl rfl ?_
      refine gf_RX3_16 rfl eX3_daysUntil_38 sh0 ?_
      refine pw_iconst eX3_daysUntil_41 ⟨by decide, by decide⟩ ?_
      obtain ⟨m5, hc6, h⟩ := h
      refine pw_cV (z := mX0_passDays) (av := [Iq 1]) (st := []) eX3_daysUntil_42 lk_RX3_106 rfl (by decide) (by decide) (shR isR8) rfl rfl (Nat.le_of_ble_eq_true rfl) rfl hc6 ?_
      show PW S mX3_daysUntil Q 45 [some (Aq 0), some (Iq x1), some (Iq x2), some (Iq x3), some (Iq x4)] [] m5
      obtain ⟨ob7, h⟩ := h
      refine pw_iinc (ls2 := [some (Aq 0), some (Iq x1), some (Iq x2), some (Iq x3), some (Iq (x4 + 1))]) eX3_daysUntil_45 rfl ob7 rfl ?_
      refine pw_goto eX3_daysUntil_48 ?_
      exact h
    · have h := h.2 c3
      refine pw_iload eX3_daysUntil_34 rfl ?_
      exact pw_iret eX3_daysUntil_36 h
set_option maxRecDepth 100000 in
theorem rg_X3_marksWith_0 {S : Sx} {Q : Option PV → Zm → Prop} {mem : Zm}   {x1 x2 x3 x4 : Int} 
    (h : (∃ (m2 : Zm), Ct1 S mX0_become [Aq 8, Aq 1] mem none m2 ∧ ((0 ≤ x1 ∧ x1 < 8 ∧ 0 ≤ x2 ∧ x2 < 6) ∧ (∃ (m6 : Zm), Ct1 S mX0_passDays [Aq 8, Iq x4] (mup m2 (8 + 2) (6 * (x1).toNat + (x2).toNat) x3) none m6 ∧ ((0 ≤ x1 ∧ x1 < 8) ∧ Q (some (Iq (m6 (8 + 2) (6 * (x1).toNat + 3)))) m6))))) :
    PW S mX3_marksWith Q 0 [some (Aq 0), some (Iq x1), some (Iq x2), some (Iq x3), some (Iq x4)] [] mem := by
  refine pw_aload_n eX3_marksWith_0 rfl rfl ?_
  refine gf_RX3_16 rfl eX3_marksWith_1 sh0 ?_
  refine pw_aload_n eX3_marksWith_4 rfl rfl ?_
  refine gf_RX3_10 rfl eX3_marksWith_5 sh0 ?_
  obtain ⟨m2, hc3, h⟩ := h
  refine pw_cV (z := mX0_become) (av := [Aq 1]) (st := []) eX3_marksWith_8 lk_RX3_126 rfl (by decide) (by decide) (shR isR8) rfl rfl (Nat.le_of_ble_eq_true rfl) rfl hc3 ?_
  show PW S mX3_marksWith Q 11 [some (Aq 0), some (Iq x1), some (Iq x2), some (Iq x3), some (Iq x4)] [] m2
  refine pw_aload_n eX3_marksWith_11 rfl rfl ?_
  refine gf_RX3_16 rfl eX3_marksWith_12 sh0 ?_
  refine pw_iload_n eX3_marksWith_15 rfl rfl ?_
  refine pw_iload_n eX3_marksWith_16 rfl rfl ?_
  refine pw_iload_n eX3_marksWith_17 rfl rfl ?_
  obtain ⟨ob4, h⟩ := h
  refine pw_cV (z := mX0_setFact) (av := [Iq x1, Iq x2, Iq x3]) (st := []) eX3_marksWith_18 lk_RX3_87 rfl (by decide) (by decide) (shR isR8) rfl rfl (Nat.le_of_ble_eq_true rfl) rfl (ct_X0_setFact (mem := m2) isR8 ob4) ?_
  show PW S mX3_marksWith Q 21 [some (Aq 0), some (Iq x1), some (Iq x2), some (Iq x3), some (Iq x4)] [] (mup m2 (8 + 2) (6 * (x1).toNat + (x2).toNat) x3)
  refine pw_aload_n eX3_marksWith_21 rfl rfl ?_
  refine gf_RX3_16 rfl eX3_marksWith_22 sh0 ?_
  refine pw_iload eX3_marksWith_25 rfl ?_
  obtain ⟨m6, hc7, h⟩ := h
  refine pw_cV (z := mX0_passDays) (av := [Iq x4]) (st := []) eX3_marksWith_27 lk_RX3_106 rfl (by decide) (by decide) (shR isR8) rfl rfl (Nat.le_of_ble_eq_true rfl) rfl hc7 ?_
  show PW S mX3_marksWith Q 30 [some (Aq 0), some (Iq x1), some (Iq x2), some (Iq x3), some (Iq x4)] [] m6
  refine pw_aload_n eX3_marksWith_30 rfl rfl ?_
  refine gf_RX3_16 rfl eX3_marksWith_31 sh0 ?_
  refine pw_iload_n eX3_marksWith_34 rfl rfl ?_
  refine pw_iconst eX3_marksWith_35 ⟨by decide, by decide⟩ ?_
  obtain ⟨ob8, h⟩ := h
  refine pw_cV (z := mX0_fact) (av := [Iq x1, Iq 3]) (st := []) eX3_marksWith_36 lk_RX3_81 rfl (by decide) (by decide) (shR isR8) rfl rfl (Nat.le_of_ble_eq_true rfl) rfl (ct_X0_fact (mem := m6) isR8 ⟨ob8.1, ob8.2, by decide, by decide⟩) ?_
  show PW S mX3_marksWith Q 39 [some (Aq 0), some (Iq x1), some (Iq x2), some (Iq x3), some (Iq x4)] [Iq (m6 (8 + 2) (6 * (x1).toNat + 3))] m6
  exact pw_iret eX3_marksWith_39 h
set_option maxRecDepth 100000 in
theorem rg_X3_nobodyIsCaughtInTrial_0 {S : Sx} {Q : Option PV → Zm → Prop} {mem : Zm}   {x1 : Int} 
    (h : (∃ (v1 : Int) (m2 : Zm), Ct1 S mX0_total [Aq 1, Iq 5] mem (some (Iq v1)) m2 ∧ (PW S mX3_nobodyIsCaughtInTrial Q 11 [some (Aq 0), some (Iq x1), some (Iq v1), some (Iq 0)] [] m2))) :
    PW S mX3_nobodyIsCaughtInTrial Q 0 [some (Aq 0), some (Iq x1), none, none] [] mem := by
  refine pw_aload_n eX3_nobodyIsCaughtInTrial_0 rfl rfl ?_
  refine gf_RX3_10 rfl eX3_nobodyIsCaughtInTrial_1 sh0 ?_
  refine pw_iconst eX3_nobodyIsCaughtInTrial_4 ⟨by decide, by decide⟩ ?_
  obtain ⟨v1, m2, hc3, h⟩ := h
  refine pw_cV (z := mX0_total) (av := [Iq 5]) (st := []) eX3_nobodyIsCaughtInTrial_5 lk_RX3_110 rfl (by decide) (by decide) (shR isR1) rfl rfl (Nat.le_of_ble_eq_true rfl) rfl hc3 ?_
  show PW S mX3_nobodyIsCaughtInTrial Q 8 [some (Aq 0), some (Iq x1), none, none] [Iq v1] m2
  refine pw_istore_n (ls2 := [some (Aq 0), some (Iq x1), some (Iq v1), none]) eX3_nobodyIsCaughtInTrial_8 rfl (by decide) rfl ?_
  refine pw_iconst eX3_nobodyIsCaughtInTrial_9 ⟨by decide, by decide⟩ ?_
  refine pw_istore_n (ls2 := [some (Aq 0), some (Iq x1), some (Iq v1), some (Iq 0)]) eX3_nobodyIsCaughtInTrial_10 rfl (by decide) rfl ?_
  exact h

set_option maxRecDepth 100000 in
theorem rg_X3_nobodyIsCaughtInTrial_11 {S : Sx} {Q : Option PV → Zm → Prop} {mem : Zm}   {x1 x2 x3 : Int} 
    (h : (((x1 ≤ x3) → (Q (some (Iq 1)) mem)) ∧ (¬ (x1 ≤ x3) → ((∃ (m3 : Zm), Ct1 S mX0_passDays [Aq 8, Iq 1] mem none m3 ∧ ((∃ (v5 : Int) (m6 : Zm), Ct1 S mX0_total [Aq 8, Iq 5] m3 (some (Iq v5)) m6 ∧ ((((v5 = x2) → ((in32 (x3 + 1)) ∧ PW S mX3_nobodyIsCaughtInTrial Q 11 [some (Aq 0), some (Iq x1), some (Iq x2), some (Iq (x3 + 1))] [] m6)) ∧ (¬ (v5 = x2) → (Q (some (Iq 0)) m6))))))))))) :
    PW S mX3_nobodyIsCaughtInTrial Q 11 [some (Aq 0), some (Iq x1), some (Iq x2), some (Iq x3)] [] mem := by
  refine pw_iload_n eX3_nobodyIsCaughtInTrial_11 rfl rfl ?_
  refine pw_iload_n eX3_nobodyIsCaughtInTrial_12 rfl rfl ?_
  refine pw_icmp_ge eX3_nobodyIsCaughtInTrial_13 (fun c1 => ?_) (fun c1 => ?_)
  · have h := h.1 c1
    refine pw_iconst eX3_nobodyIsCaughtInTrial_44 ⟨by decide, by decide⟩ ?_
    exact pw_iret eX3_nobodyIsCaughtInTrial_45 h
  · have h := h.2 c1
    refine pw_aload_n eX3_nobodyIsCaughtInTrial_16 rfl rfl ?_
    refine gf_RX3_16 rfl eX3_nobodyIsCaughtInTrial_17 sh0 ?_
    refine pw_iconst eX3_nobodyIsCaughtInTrial_20 ⟨by decide, by decide⟩ ?_
    obtain ⟨m3, hc4, h⟩ := h
    refine pw_cV (z := mX0_passDays) (av := [Iq 1]) (st := []) eX3_nobodyIsCaughtInTrial_21 lk_RX3_106 rfl (by decide) (by decide) (shR isR8) rfl rfl (Nat.le_of_ble_eq_true rfl) rfl hc4 ?_
    show PW S mX3_nobodyIsCaughtInTrial Q 24 [some (Aq 0), some (Iq x1), some (Iq x2), some (Iq x3)] [] m3
    refine pw_aload_n eX3_nobodyIsCaughtInTrial_24 rfl rfl ?_
    refine gf_RX3_16 rfl eX3_nobodyIsCaughtInTrial_25 sh0 ?_
    refine pw_iconst eX3_nobodyIsCaughtInTrial_28 ⟨by decide, by decide⟩ ?_
    obtain ⟨v5, m6, hc7, h⟩ := h
    refine pw_cV (z := mX0_total) (av := [Iq 5]) (st := []) eX3_nobodyIsCaughtInTrial_29 lk_RX3_110 rfl (by decide) (by decide) (shR isR8) rfl rfl (Nat.le_of_ble_eq_true rfl) rfl hc7 ?_
    show PW S mX3_nobodyIsCaughtInTrial Q 32 [some (Aq 0), some (Iq x1), some (Iq x2), some (Iq x3)] [Iq v5] m6
    refine pw_iload_n eX3_nobodyIsCaughtInTrial_32 rfl rfl ?_
    refine pw_icmp_eq eX3_nobodyIsCaughtInTrial_33 (fun c8 => ?_) (fun c8 => ?_)
    · have h := h.1 c8
      obtain ⟨ob9, h⟩ := h
      refine pw_iinc (ls2 := [some (Aq 0), some (Iq x1), some (Iq x2), some (Iq (x3 + 1))]) eX3_nobodyIsCaughtInTrial_38 rfl ob9 rfl ?_
      refine pw_goto eX3_nobodyIsCaughtInTrial_41 ?_
      exact h
    · have h := h.2 c8
      refine pw_iconst eX3_nobodyIsCaughtInTrial_36 ⟨by decide, by decide⟩ ?_
      exact pw_iret eX3_nobodyIsCaughtInTrial_37 h
set_option maxRecDepth 100000 in
theorem rg_X3_writesAsAsked_0 {S : Sx} {Q : Option PV → Zm → Prop} {mem : Zm}  {r1 : Nat} {x2 x3 x4 : Int} (hr1 : isSheet r1)
    (h : (∃ (m2 : Zm), Ct1 S mX0_become [Aq 8, Aq 1] mem none m2 ∧ ((0 ≤ x2 ∧ x2 < 8 ∧ 0 ≤ x3 ∧ x3 < 6) ∧ (∃ (m6 : Zm), Ct1 S mX0_passDays [Aq 8, Iq 1] (mup m2 (8 + 2) (6 * (x2).toNat + (x3).toNat) x4) none m6 ∧ (PW S mX3_writesAsAsked Q 33 [some (Aq 0), some (Aq r1), some (Iq x2), some (Iq x3), some (Iq x4), some (Iq 0)] [] m6))))) :
    PW S mX3_writesAsAsked Q 0 [some (Aq 0), some (Aq r1), some (Iq x2), some (Iq x3), some (Iq x4), none] [] mem := by
  refine pw_aload_n eX3_writesAsAsked_0 rfl rfl ?_
  refine gf_RX3_16 rfl eX3_writesAsAsked_1 sh0 ?_
  refine pw_aload_n eX3_writesAsAsked_4 rfl rfl ?_
  refine gf_RX3_10 rfl eX3_writesAsAsked_5 sh0 ?_
  obtain ⟨m2, hc3, h⟩ := h
  refine pw_cV (z := mX0_become) (av := [Aq 1]) (st := []) eX3_writesAsAsked_8 lk_RX3_126 rfl (by decide) (by decide) (shR isR8) rfl rfl (Nat.le_of_ble_eq_true rfl) rfl hc3 ?_
  show PW S mX3_writesAsAsked Q 11 [some (Aq 0), some (Aq r1), some (Iq x2), some (Iq x3), some (Iq x4), none] [] m2
  refine pw_aload_n eX3_writesAsAsked_11 rfl rfl ?_
  refine gf_RX3_16 rfl eX3_writesAsAsked_12 sh0 ?_
  refine pw_iload_n eX3_writesAsAsked_15 rfl rfl ?_
  refine pw_iload_n eX3_writesAsAsked_16 rfl rfl ?_
  refine pw_iload eX3_writesAsAsked_17 rfl ?_
  obtain ⟨ob4, h⟩ := h
  refine pw_cV (z := mX0_setFact) (av := [Iq x2, Iq x3, Iq x4]) (st := []) eX3_writesAsAsked_19 lk_RX3_87 rfl (by decide) (by decide) (shR isR8) rfl rfl (Nat.le_of_ble_eq_true rfl) rfl (ct_X0_setFact (mem := m2) isR8 ob4) ?_
  show PW S mX3_writesAsAsked Q 22 [some (Aq 0), some (Aq r1), some (Iq x2), some (Iq x3), some (Iq x4), none] [] (mup m2 (8 + 2) (6 * (x2).toNat + (x3).toNat) x4)
  refine pw_aload_n eX3_writesAsAsked_22 rfl rfl ?_
  refine gf_RX3_16 rfl eX3_writesAsAsked_23 sh0 ?_
  refine pw_iconst eX3_writesAsAsked_26 ⟨by decide, by decide⟩ ?_
  obtain ⟨m6, hc7, h⟩ := h
  refine pw_cV (z := mX0_passDays) (av := [Iq 1]) (st := []) eX3_writesAsAsked_27 lk_RX3_106 rfl (by decide) (by decide) (shR isR8) rfl rfl (Nat.le_of_ble_eq_true rfl) rfl hc7 ?_
  show PW S mX3_writesAsAsked Q 30 [some (Aq 0), some (Aq r1), some (Iq x2), some (Iq x3), some (Iq x4), none] [] m6
  refine pw_iconst eX3_writesAsAsked_30 ⟨by decide, by decide⟩ ?_
  refine pw_istore (ls2 := [some (Aq 0), some (Aq r1), some (Iq x2), some (Iq x3), some (Iq x4), some (Iq 0)]) eX3_writesAsAsked_31 (by decide) rfl ?_
  exact h

set_option maxRecDepth 100000 in
theorem rg_X3_writesAsAsked_33 {S : Sx} {Q : Option PV → Zm → Prop} {mem : Zm}  {r1 : Nat} {x2 x3 x4 x5 : Int} (hr1 : isSheet r1)
    (h : (((8 ≤ x5) → (Q (some (Iq 1)) mem)) ∧ (¬ (8 ≤ x5) → ((0 ≤ x2 ∧ x2 < 8 ∧ 0 ≤ x5 ∧ x5 < 8) ∧ (0 ≤ x5 ∧ mem r1 2 ≤ 40) ∧ (((mem r1 2 ≤ x5 ∨ mem (r1 + 1) (x5).toNat = -2 ∨ mem (r1 + 1) (x5).toNat = mem (8 + 3) (8 * (x2).toNat + (x5).toNat)) → ((in32 (x5 + 1)) ∧ PW S mX3_writesAsAsked Q 33 [some (Aq 0), some (Aq r1), some (Iq x2), some (Iq x3), some (Iq x4), some (Iq (x5 + 1))] [] mem)) ∧ (¬ (mem r1 2 ≤ x5 ∨ mem (r1 + 1) (x5).toNat = -2 ∨ mem (r1 + 1) (x5).toNat = mem (8 + 3) (8 * (x2).toNat + (x5).toNat)) → (Q (some (Iq 0)) mem))))))) :
    PW S mX3_writesAsAsked Q 33 [some (Aq 0), some (Aq r1), some (Iq x2), some (Iq x3), some (Iq x4), some (Iq x5)] [] mem := by
  refine pw_iload eX3_writesAsAsked_33 rfl ?_
  refine pw_bipush eX3_writesAsAsked_35 ⟨by decide, by decide⟩ (by decide) ?_
  refine pw_icmp_ge eX3_writesAsAsked_37 (fun c1 => ?_) (fun c1 => ?_)
  · have h := h.1 c1
    refine pw_iconst eX3_writesAsAsked_67 ⟨by decide, by decide⟩ ?_
    exact pw_iret eX3_writesAsAsked_68 h
  · have h := h.2 c1
    refine pw_aload_n eX3_writesAsAsked_40 rfl rfl ?_
    refine pw_iload eX3_writesAsAsked_41 rfl ?_
    refine pw_aload_n eX3_writesAsAsked_43 rfl rfl ?_
    refine gf_RX3_16 rfl eX3_writesAsAsked_44 sh0 ?_
    refine pw_iload_n eX3_writesAsAsked_47 rfl rfl ?_
    refine pw_iload eX3_writesAsAsked_48 rfl ?_
    obtain ⟨ob2, h⟩ := h
    refine pw_cV (z := mX0_answerOf) (av := [Iq x2, Iq x5]) (st := [Iq x5, Aq r1]) eX3_writesAsAsked_50 lk_RX3_91 rfl (by decide) (by decide) (shR isR8) rfl rfl (Nat.le_of_ble_eq_true rfl) rfl (ct_X0_answerOf (mem := mem) isR8 ob2) ?_
    show PW S mX3_writesAsAsked Q 53 [some (Aq 0), some (Aq r1), some (Iq x2), some (Iq x3), some (Iq x4), some (Iq x5)] [Iq (mem (8 + 3) (8 * (x2).toNat + (x5).toNat)), Iq x5, Aq r1] mem
    obtain ⟨ob3, h⟩ := h
    refine pw_cV (z := mX1_allows) (av := [Iq x5, Iq (mem (8 + 3) (8 * (x2).toNat + (x5).toNat))]) (st := []) eX3_writesAsAsked_53 lk_RX3_230 rfl (by decide) (by decide) (shS hr1) rfl rfl (Nat.le_of_ble_eq_true rfl) rfl (ct_X1_allows (mem := mem) hr1 ob3) ?_
    show PW S mX3_writesAsAsked Q 56 [some (Aq 0), some (Aq r1), some (Iq x2), some (Iq x3), some (Iq x4), some (Iq x5)] [Iq (bI (mem r1 2 ≤ x5 ∨ mem (r1 + 1) (x5).toNat = -2 ∨ mem (r1 + 1) (x5).toNat = mem (8 + 3) (8 * (x2).toNat + (x5).toNat)))] mem
    refine pw_if_ne eX3_writesAsAsked_56 (fun c4 => ?_) (fun c4 => ?_)
    · have h := h.1 (bI1.mp c4)
      obtain ⟨ob5, h⟩ := h
      refine pw_iinc (ls2 := [some (Aq 0), some (Aq r1), some (Iq x2), some (Iq x3), some (Iq x4), some (Iq (x5 + 1))]) eX3_writesAsAsked_61 rfl ob5 rfl ?_
      refine pw_goto eX3_writesAsAsked_64 ?_
      exact h
    · have h := h.2 (bI0.mp (Classical.not_not.mp c4))
      refine pw_iconst eX3_writesAsAsked_59 ⟨by decide, by decide⟩ ?_
      exact pw_iret eX3_writesAsAsked_60 h
set_option maxRecDepth 100000 in
theorem rg_X3_tryDayKnowingNothing_0 {S : Sx} {Q : Option PV → Zm → Prop} {mem : Zm}   {x1 : Int} 
    (h : (∃ (m2 : Zm), Ct1 S mX0_become [Aq 8, Aq 1] mem none m2 ∧ ((0 ≤ x1 ∧ x1 < 8) ∧ (∃ (m6 : Zm), Ct1 S mX0_passDays [Aq 8, Iq 1] (mup m2 (8 + 2) (6 * (x1).toNat + 1) 0) none m6 ∧ (Q none m6))))) :
    PW S mX3_tryDayKnowingNothing Q 0 [some (Aq 0), some (Iq x1)] [] mem := by
  refine pw_aload_n eX3_tryDayKnowingNothing_0 rfl rfl ?_
  refine gf_RX3_16 rfl eX3_tryDayKnowingNothing_1 sh0 ?_
  refine pw_aload_n eX3_tryDayKnowingNothing_4 rfl rfl ?_
  refine gf_RX3_10 rfl eX3_tryDayKnowingNothing_5 sh0 ?_
  obtain ⟨m2, hc3, h⟩ := h
  refine pw_cV (z := mX0_become) (av := [Aq 1]) (st := []) eX3_tryDayKnowingNothing_8 lk_RX3_126 rfl (by decide) (by decide) (shR isR8) rfl rfl (Nat.le_of_ble_eq_true rfl) rfl hc3 ?_
  show PW S mX3_tryDayKnowingNothing Q 11 [some (Aq 0), some (Iq x1)] [] m2
  refine pw_aload_n eX3_tryDayKnowingNothing_11 rfl rfl ?_
  refine gf_RX3_16 rfl eX3_tryDayKnowingNothing_12 sh0 ?_
  refine pw_iload_n eX3_tryDayKnowingNothing_15 rfl rfl ?_
  refine pw_iconst eX3_tryDayKnowingNothing_16 ⟨by decide, by decide⟩ ?_
  refine pw_iconst eX3_tryDayKnowingNothing_17 ⟨by decide, by decide⟩ ?_
  obtain ⟨ob4, h⟩ := h
  refine pw_cV (z := mX0_setFact) (av := [Iq x1, Iq 1, Iq 0]) (st := []) eX3_tryDayKnowingNothing_18 lk_RX3_87 rfl (by decide) (by decide) (shR isR8) rfl rfl (Nat.le_of_ble_eq_true rfl) rfl (ct_X0_setFact (mem := m2) isR8 ⟨ob4.1, ob4.2, by decide, by decide⟩) ?_
  show PW S mX3_tryDayKnowingNothing Q 21 [some (Aq 0), some (Iq x1)] [] (mup m2 (8 + 2) (6 * (x1).toNat + 1) 0)
  refine pw_aload_n eX3_tryDayKnowingNothing_21 rfl rfl ?_
  refine gf_RX3_16 rfl eX3_tryDayKnowingNothing_22 sh0 ?_
  refine pw_iconst eX3_tryDayKnowingNothing_25 ⟨by decide, by decide⟩ ?_
  obtain ⟨m6, hc7, h⟩ := h
  refine pw_cV (z := mX0_passDays) (av := [Iq 1]) (st := []) eX3_tryDayKnowingNothing_26 lk_RX3_106 rfl (by decide) (by decide) (shR isR8) rfl rfl (Nat.le_of_ble_eq_true rfl) rfl hc7 ?_
  show PW S mX3_tryDayKnowingNothing Q 29 [some (Aq 0), some (Iq x1)] [] m6
  exact pw_vret eX3_tryDayKnowingNothing_29 h
set_option maxRecDepth 100000 in
theorem rg_X4_goes_0 {S : Sx} {Q : Option PV → Zm → Prop} {mem : Zm}   {x1 : Int} 
    (h : PW S mX4_goes Q 2 [some (Aq 34), some (Iq x1), some (Iq 0)] [] mem) :
    PW S mX4_goes Q 0 [some (Aq 34), some (Iq x1), none] [] mem := by
  refine pw_iconst eX4_goes_0 ⟨by decide, by decide⟩ ?_
  refine pw_istore_n (ls2 := [some (Aq 34), some (Iq x1), some (Iq 0)]) eX4_goes_1 rfl (by decide) rfl ?_
  exact h

set_option maxRecDepth 100000 in
theorem rg_X4_goes_2 {S : Sx} {Q : Option PV → Zm → Prop} {mem : Zm}   {x1 x2 : Int} 
    (h : (((x1 ≤ x2) → (Q none mem)) ∧ (¬ (x1 ≤ x2) → ((∃ (m3 : Zm), Ct1 S mX4_day [Aq 34] mem none m3 ∧ ((in32 (x2 + 1)) ∧ PW S mX4_goes Q 2 [some (Aq 34), some (Iq x1), some (Iq (x2 + 1))] [] m3)))))) :
    PW S mX4_goes Q 2 [some (Aq 34), some (Iq x1), some (Iq x2)] [] mem := by
  refine pw_iload_n eX4_goes_2 rfl rfl ?_
  refine pw_iload_n eX4_goes_3 rfl rfl ?_
  refine pw_icmp_ge eX4_goes_4 (fun c1 => ?_) (fun c1 => ?_)
  · have h := h.1 c1
    exact pw_vret eX4_goes_17 h
  · have h := h.2 c1
    refine pw_aload_n eX4_goes_7 rfl rfl ?_
    obtain ⟨m3, hc4, h⟩ := h
    refine pw_cV (z := mX4_day) (av := []) (st := []) eX4_goes_8 lk_RX4_124 rfl (by decide) (by decide) sh34 rfl rfl (Nat.le_of_ble_eq_true rfl) rfl hc4 ?_
    show PW S mX4_goes Q 11 [some (Aq 34), some (Iq x1), some (Iq x2)] [] m3
    obtain ⟨ob5, h⟩ := h
    refine pw_iinc (ls2 := [some (Aq 34), some (Iq x1), some (Iq (x2 + 1))]) eX4_goes_11 rfl ob5 rfl ?_
    refine pw_goto eX4_goes_14 ?_
    exact h
set_option maxRecDepth 100000 in
theorem rg_X4_caught_0 {S : Sx} {Q : Option PV → Zm → Prop} {mem : Zm}   {x1 : Int} 
    (h : (((0 ≤ x1 ∧ x1 < mem 35 0) → ((0 ≤ x1 ∧ x1 < 8) ∧ PW S mX4_caught Q 35 [some (Aq 34), some (Iq x1), some (Iq ((cprow mem 35 38) 35 (12 + 14 * (x1).toNat + 5))), some (Iq 0)] [] (cprow mem 35 38))) ∧ (¬ (0 ≤ x1 ∧ x1 < mem 35 0) → ((fOK mem (-1000001)) ∧ Q (some (Iq (-1000001))) (fnds mem (-1000001)))))) :
    PW S mX4_caught Q 0 [some (Aq 34), some (Iq x1), none, none] [] mem := by
  refine pw_aload_n eX4_caught_0 rfl rfl ?_
  refine pw_iload_n eX4_caught_1 rfl rfl ?_
  refine pw_cV (z := mX4_isChild) (av := [Iq x1]) (st := []) eX4_caught_2 lk_RX4_77 rfl (by decide) (by decide) sh34 rfl rfl (Nat.le_of_ble_eq_true rfl) rfl (ct_X4_isChild (mem := mem)) ?_
  show PW S mX4_caught Q 5 [some (Aq 34), some (Iq x1), none, none] [Iq (bI (0 ≤ x1 ∧ x1 < mem 35 0))] mem
  refine pw_if_ne eX4_caught_5 (fun c1 => ?_) (fun c1 => ?_)
  · have h := h.1 (bI1.mp c1)
    refine pw_aload_n eX4_caught_15 rfl rfl ?_
    refine gf_RX4_7 rfl eX4_caught_16 sh34 ?_
    refine pw_aload_n eX4_caught_19 rfl rfl ?_
    refine gf_RX4_19 rfl eX4_caught_20 sh34 ?_
    refine pw_cS (z := mX4_copyRow) (av := [Aq 35, Aq 38]) (st := []) eX4_caught_23 lk_RX4_150 rfl (by decide) (by decide) (Nat.le_of_ble_eq_true rfl) rfl (ct_X4_copyRow (mem := mem) sh35 sh38 (by decide)) ?_
    show PW S mX4_caught Q 26 [some (Aq 34), some (Iq x1), none, none] [] (cprow mem 35 38)
    refine pw_aload_n eX4_caught_26 rfl rfl ?_
    refine pw_iload_n eX4_caught_27 rfl rfl ?_
    refine pw_iconst eX4_caught_28 ⟨by decide, by decide⟩ ?_
    obtain ⟨ob2, h⟩ := h
    refine pw_cV (z := mX4_its) (av := [Iq x1, Iq 5]) (st := []) eX4_caught_29 lk_RX4_71 rfl (by decide) (by decide) sh34 rfl rfl (Nat.le_of_ble_eq_true rfl) rfl (ct_X4_its (mem := cprow mem 35 38) ⟨ob2.1, ob2.2, by decide, by decide⟩) ?_
    show PW S mX4_caught Q 32 [some (Aq 34), some (Iq x1), none, none] [Iq ((cprow mem 35 38) 35 (12 + 14 * (x1).toNat + 5))] (cprow mem 35 38)
    refine pw_istore_n (ls2 := [some (Aq 34), some (Iq x1), some (Iq ((cprow mem 35 38) 35 (12 + 14 * (x1).toNat + 5))), none]) eX4_caught_32 rfl (by decide) rfl ?_
    refine pw_iconst eX4_caught_33 ⟨by decide, by decide⟩ ?_
    refine pw_istore_n (ls2 := [some (Aq 34), some (Iq x1), some (Iq ((cprow mem 35 38) 35 (12 + 14 * (x1).toNat + 5))), some (Iq 0)]) eX4_caught_34 rfl (by decide) rfl ?_
    exact h
  · have h := h.2 (bI0.mp (Classical.not_not.mp c1))
    refine pw_aload_n eX4_caught_8 rfl rfl ?_
    refine pw_ldc (n := (-1000001)) eX4_caught_9 ⟨by decide, by decide⟩ kc_RX4_37 ?_
    obtain ⟨ob3, h⟩ := h
    refine pw_cV (z := mX4_finds) (av := [Iq (-1000001)]) (st := []) eX4_caught_11 lk_RX4_39 rfl (by decide) (by decide) sh34 rfl rfl (Nat.le_of_ble_eq_true rfl) rfl (ct_X4_finds' (mem := mem) ob3) ?_
    show PW S mX4_caught Q 14 [some (Aq 34), some (Iq x1), none, none] [Iq (-1000001)] (fnds mem (-1000001))
    exact pw_iret eX4_caught_14 h

set_option maxRecDepth 100000 in
theorem rg_X4_caught_35 {S : Sx} {Q : Option PV → Zm → Prop} {mem : Zm}   {x1 x2 x3 : Int} 
    (h : (((60 < x3) → ((((60 < x3) → ((fOK (cprow mem 38 35) (-1000004)) ∧ Q (some (Iq (-1000004))) (fnds (cprow mem 38 35) (-1000004)))) ∧ (¬ (60 < x3) → (Q (some (Iq x3)) (cprow mem 38 35)))))) ∧ (¬ (60 < x3) → ((0 ≤ x1 ∧ x1 < 8) ∧ (((mem 35 (12 + 14 * (x1).toNat + 5) = x2) → ((∃ (m9 : Zm), Ct1 S mX4_day [Aq 34] mem none m9 ∧ ((in32 (x3 + 1)) ∧ PW S mX4_caught Q 35 [some (Aq 34), some (Iq x1), some (Iq x2), some (Iq (x3 + 1))] [] m9)))) ∧ (¬ (mem 35 (12 + 14 * (x1).toNat + 5) = x2) → ((((60 < x3) → ((fOK (cprow mem 38 35) (-1000004)) ∧ Q (some (Iq (-1000004))) (fnds (cprow mem 38 35) (-1000004)))) ∧ (¬ (60 < x3) → (Q (some (Iq x3)) (cprow mem 38 35))))))))))) :
    PW S mX4_caught Q 35 [some (Aq 34), some (Iq x1), some (Iq x2), some (Iq x3)] [] mem := by
  refine pw_iload_n eX4_caught_35 rfl rfl ?_
  refine pw_bipush eX4_caught_36 ⟨by decide, by decide⟩ (by decide) ?_
  refine pw_icmp_gt eX4_caught_38 (fun c1 => ?_) (fun c1 => ?_)
  · have h := h.1 c1
    refine pw_aload_n eX4_caught_61 rfl rfl ?_
    refine gf_RX4_19 rfl eX4_caught_62 sh34 ?_
    refine pw_aload_n eX4_caught_65 rfl rfl ?_
    refine gf_RX4_7 rfl eX4_caught_66 sh34 ?_
    refine pw_cS (z := mX4_copyRow) (av := [Aq 38, Aq 35]) (st := []) eX4_caught_69 lk_RX4_150 rfl (by decide) (by decide) (Nat.le_of_ble_eq_true rfl) rfl (ct_X4_copyRow (mem := mem) sh38 sh35 (by decide)) ?_
    show PW S mX4_caught Q 72 [some (Aq 34), some (Iq x1), some (Iq x2), some (Iq x3)] [] (cprow mem 38 35)
    refine pw_iload_n eX4_caught_72 rfl rfl ?_
    refine pw_bipush eX4_caught_73 ⟨by decide, by decide⟩ (by decide) ?_
    refine pw_icmp_gt eX4_caught_75 (fun c2 => ?_) (fun c2 => ?_)
    · have h := h.1 c2
      refine pw_aload_n eX4_caught_82 rfl rfl ?_
      refine pw_ldc (n := (-1000004)) eX4_caught_83 ⟨by decide, by decide⟩ kc_RX4_38 ?_
      obtain ⟨ob3, h⟩ := h
      refine pw_cV (z := mX4_finds) (av := [Iq (-1000004)]) (st := []) eX4_caught_85 lk_RX4_39 rfl (by decide) (by decide) sh34 rfl rfl (Nat.le_of_ble_eq_true rfl) rfl (ct_X4_finds' (mem := cprow mem 38 35) ob3) ?_
      show PW S mX4_caught Q 88 [some (Aq 34), some (Iq x1), some (Iq x2), some (Iq x3)] [Iq (-1000004)] (fnds (cprow mem 38 35) (-1000004))
      exact pw_iret eX4_caught_88 h
    · have h := h.2 c2
      refine pw_iload_n eX4_caught_78 rfl rfl ?_
      refine pw_goto eX4_caught_79 ?_
      exact pw_iret eX4_caught_88 h
  · have h := h.2 c1
    refine pw_aload_n eX4_caught_41 rfl rfl ?_
    refine pw_iload_n eX4_caught_42 rfl rfl ?_
    refine pw_iconst eX4_caught_43 ⟨by decide, by decide⟩ ?_
    obtain ⟨ob4, h⟩ := h
    refine pw_cV (z := mX4_its) (av := [Iq x1, Iq 5]) (st := []) eX4_caught_44 lk_RX4_71 rfl (by decide) (by decide) sh34 rfl rfl (Nat.le_of_ble_eq_true rfl) rfl (ct_X4_its (mem := mem) ⟨ob4.1, ob4.2, by decide, by decide⟩) ?_
    show PW S mX4_caught Q 47 [some (Aq 34), some (Iq x1), some (Iq x2), some (Iq x3)] [Iq (mem 35 (12 + 14 * (x1).toNat + 5))] mem
    refine pw_iload_n eX4_caught_47 rfl rfl ?_
    refine pw_icmp_ne eX4_caught_48 (fun c5 => ?_) (fun c5 => ?_)
    · have h := h.2 c5
      refine pw_aload_n eX4_caught_61 rfl rfl ?_
      refine gf_RX4_19 rfl eX4_caught_62 sh34 ?_
      refine pw_aload_n eX4_caught_65 rfl rfl ?_
      refine gf_RX4_7 rfl eX4_caught_66 sh34 ?_
      refine pw_cS (z := mX4_copyRow) (av := [Aq 38, Aq 35]) (st := []) eX4_caught_69 lk_RX4_150 rfl (by decide) (by decide) (Nat.le_of_ble_eq_true rfl) rfl (ct_X4_copyRow (mem := mem) sh38 sh35 (by decide)) ?_
      show PW S mX4_caught Q 72 [some (Aq 34), some (Iq x1), some (Iq x2), some (Iq x3)] [] (cprow mem 38 35)
      refine pw_iload_n eX4_caught_72 rfl rfl ?_
      refine pw_bipush eX4_caught_73 ⟨by decide, by decide⟩ (by decide) ?_
      refine pw_icmp_gt eX4_caught_75 (fun c6 => ?_) (fun c6 => ?_)
      · have h := h.1 c6
        refine pw_aload_n eX4_caught_82 rfl rfl ?_
        refine pw_ldc (n := (-1000004)) eX4_caught_83 ⟨by decide, by decide⟩ kc_RX4_38 ?_
        obtain ⟨ob7, h⟩ := h
        refine pw_cV (z := mX4_finds) (av := [Iq (-1000004)]) (st := []) eX4_caught_85 lk_RX4_39 rfl (by decide) (by decide) sh34 rfl rfl (Nat.le_of_ble_eq_true rfl) rfl (ct_X4_finds' (mem := cprow mem 38 35) ob7) ?_
        show PW S mX4_caught Q 88 [some (Aq 34), some (Iq x1), some (Iq x2), some (Iq x3)] [Iq (-1000004)] (fnds (cprow mem 38 35) (-1000004))
        exact pw_iret eX4_caught_88 h
      · have h := h.2 c6
        refine pw_iload_n eX4_caught_78 rfl rfl ?_
        refine pw_goto eX4_caught_79 ?_
        exact pw_iret eX4_caught_88 h
    · have h := h.1 (Classical.not_not.mp c5)
      refine pw_aload_n eX4_caught_51 rfl rfl ?_
      obtain ⟨m9, hc10, h⟩ := h
      refine pw_cV (z := mX4_day) (av := []) (st := []) eX4_caught_52 lk_RX4_124 rfl (by decide) (by decide) sh34 rfl rfl (Nat.le_of_ble_eq_true rfl) rfl hc10 ?_
      show PW S mX4_caught Q 55 [some (Aq 34), some (Iq x1), some (Iq x2), some (Iq x3)] [] m9
      obtain ⟨ob11, h⟩ := h
      refine pw_iinc (ls2 := [some (Aq 34), some (Iq x1), some (Iq x2), some (Iq (x3 + 1))]) eX4_caught_55 rfl ob11 rfl ?_
      refine pw_goto eX4_caught_58 ?_
      exact h
set_option maxRecDepth 100000 in
theorem rg_X4_when_0 {S : Sx} {Q : Option PV → Zm → Prop} {mem : Zm}   {x1 x2 : Int} 
    (h : (((0 ≤ x1 ∧ x1 < mem 35 0) → ((((0 ≤ x2 ∧ x2 ≤ 9999) → (PW S mX4_when Q 40 [some (Aq 34), some (Iq x1), some (Iq x2), some (Iq 0)] [] (cprow mem 35 38))) ∧ (¬ (0 ≤ x2 ∧ x2 ≤ 9999) → ((fOK mem (-1000001)) ∧ Q (some (Iq (-1000001))) (fnds mem (-1000001))))))) ∧ (¬ (0 ≤ x1 ∧ x1 < mem 35 0) → ((fOK mem (-1000001)) ∧ Q (some (Iq (-1000001))) (fnds mem (-1000001)))))) :
    PW S mX4_when Q 0 [some (Aq 34), some (Iq x1), some (Iq x2), none] [] mem := by
  refine pw_aload_n eX4_when_0 rfl rfl ?_
  refine pw_iload_n eX4_when_1 rfl rfl ?_
  refine pw_cV (z := mX4_isChild) (av := [Iq x1]) (st := []) eX4_when_2 lk_RX4_77 rfl (by decide) (by decide) sh34 rfl rfl (Nat.le_of_ble_eq_true rfl) rfl (ct_X4_isChild (mem := mem)) ?_
  show PW S mX4_when Q 5 [some (Aq 34), some (Iq x1), some (Iq x2), none] [Iq (bI (0 ≤ x1 ∧ x1 < mem 35 0))] mem
  refine pw_if_eq eX4_when_5 (fun c1 => ?_) (fun c1 => ?_)
  · have h := h.2 (bI0.mp c1)
    refine pw_aload_n eX4_when_20 rfl rfl ?_
    refine pw_ldc (n := (-1000001)) eX4_when_21 ⟨by decide, by decide⟩ kc_RX4_37 ?_
    obtain ⟨ob2, h⟩ := h
    refine pw_cV (z := mX4_finds) (av := [Iq (-1000001)]) (st := []) eX4_when_23 lk_RX4_39 rfl (by decide) (by decide) sh34 rfl rfl (Nat.le_of_ble_eq_true rfl) rfl (ct_X4_finds' (mem := mem) ob2) ?_
    show PW S mX4_when Q 26 [some (Aq 34), some (Iq x1), some (Iq x2), none] [Iq (-1000001)] (fnds mem (-1000001))
    exact pw_iret eX4_when_26 h
  · have h := h.1 (bI1.mp c1)
    refine pw_iload_n eX4_when_8 rfl rfl ?_
    refine pw_i2l eX4_when_9 ?_
    refine pw_lconst (v := 0) eX4_when_10 ⟨by decide, by decide⟩ rfl ?_
    refine pw_ldc2 (n := 9999) eX4_when_11 ⟨by decide, by decide⟩ kc_RX4_93 ?_
    refine pw_cS (z := mX4_isIn) (av := [Jq x2, Jq 0, Jq 9999]) (st := []) eX4_when_14 lk_RX4_49 rfl (by decide) (by decide) (Nat.le_of_ble_eq_true rfl) rfl (ct_X4_isIn (mem := mem)) ?_
    show PW S mX4_when Q 17 [some (Aq 34), some (Iq x1), some (Iq x2), none] [Iq (bI (0 ≤ x2 ∧ x2 ≤ 9999))] mem
    refine pw_if_ne eX4_when_17 (fun c3 => ?_) (fun c3 => ?_)
    · have h := h.1 (bI1.mp c3)
      refine pw_aload_n eX4_when_27 rfl rfl ?_
      refine gf_RX4_7 rfl eX4_when_28 sh34 ?_
      refine pw_aload_n eX4_when_31 rfl rfl ?_
      refine gf_RX4_19 rfl eX4_when_32 sh34 ?_
      refine pw_cS (z := mX4_copyRow) (av := [Aq 35, Aq 38]) (st := []) eX4_when_35 lk_RX4_150 rfl (by decide) (by decide) (Nat.le_of_ble_eq_true rfl) rfl (ct_X4_copyRow (mem := mem) sh35 sh38 (by decide)) ?_
      show PW S mX4_when Q 38 [some (Aq 34), some (Iq x1), some (Iq x2), none] [] (cprow mem 35 38)
      refine pw_iconst eX4_when_38 ⟨by decide, by decide⟩ ?_
      refine pw_istore_n (ls2 := [some (Aq 34), some (Iq x1), some (Iq x2), some (Iq 0)]) eX4_when_39 rfl (by decide) rfl ?_
      exact h
    · have h := h.2 (bI0.mp (Classical.not_not.mp c3))
      refine pw_aload_n eX4_when_20 rfl rfl ?_
      refine pw_ldc (n := (-1000001)) eX4_when_21 ⟨by decide, by decide⟩ kc_RX4_37 ?_
      obtain ⟨ob4, h⟩ := h
      refine pw_cV (z := mX4_finds) (av := [Iq (-1000001)]) (st := []) eX4_when_23 lk_RX4_39 rfl (by decide) (by decide) sh34 rfl rfl (Nat.le_of_ble_eq_true rfl) rfl (ct_X4_finds' (mem := mem) ob4) ?_
      show PW S mX4_when Q 26 [some (Aq 34), some (Iq x1), some (Iq x2), none] [Iq (-1000001)] (fnds mem (-1000001))
      exact pw_iret eX4_when_26 h

set_option maxRecDepth 100000 in
theorem rg_X4_when_40 {S : Sx} {Q : Option PV → Zm → Prop} {mem : Zm}   {x1 x2 x3 : Int} 
    (h : (((60 < x3) → ((((60 < x3) → ((fOK (cprow mem 38 35) (-1000004)) ∧ Q (some (Iq (-1000004))) (fnds (cprow mem 38 35) (-1000004)))) ∧ (¬ (60 < x3) → (Q (some (Iq x3)) (cprow mem 38 35)))))) ∧ (¬ (60 < x3) → ((0 ≤ x1 ∧ x1 < 8) ∧ (((x2 ≤ mem 35 (12 + 14 * (x1).toNat + 3)) → ((((60 < x3) → ((fOK (cprow mem 38 35) (-1000004)) ∧ Q (some (Iq (-1000004))) (fnds (cprow mem 38 35) (-1000004)))) ∧ (¬ (60 < x3) → (Q (some (Iq x3)) (cprow mem 38 35)))))) ∧ (¬ (x2 ≤ mem 35 (12 + 14 * (x1).toNat + 3)) → ((∃ (m9 : Zm), Ct1 S mX4_day [Aq 34] mem none m9 ∧ ((in32 (x3 + 1)) ∧ PW S mX4_when Q 40 [some (Aq 34), some (Iq x1), some (Iq x2), some (Iq (x3 + 1))] [] m9))))))))) :
    PW S mX4_when Q 40 [some (Aq 34), some (Iq x1), some (Iq x2), some (Iq x3)] [] mem := by
  refine pw_iload_n eX4_when_40 rfl rfl ?_
  refine pw_bipush eX4_when_41 ⟨by decide, by decide⟩ (by decide) ?_
  refine pw_icmp_gt eX4_when_43 (fun c1 => ?_) (fun c1 => ?_)
  · have h := h.1 c1
    refine pw_aload_n eX4_when_66 rfl rfl ?_
    refine gf_RX4_19 rfl eX4_when_67 sh34 ?_
    refine pw_aload_n eX4_when_70 rfl rfl ?_
    refine gf_RX4_7 rfl eX4_when_71 sh34 ?_
    refine pw_cS (z := mX4_copyRow) (av := [Aq 38, Aq 35]) (st := []) eX4_when_74 lk_RX4_150 rfl (by decide) (by decide) (Nat.le_of_ble_eq_true rfl) rfl (ct_X4_copyRow (mem := mem) sh38 sh35 (by decide)) ?_
    show PW S mX4_when Q 77 [some (Aq 34), some (Iq x1), some (Iq x2), some (Iq x3)] [] (cprow mem 38 35)
    refine pw_iload_n eX4_when_77 rfl rfl ?_
    refine pw_bipush eX4_when_78 ⟨by decide, by decide⟩ (by decide) ?_
    refine pw_icmp_gt eX4_when_80 (fun c2 => ?_) (fun c2 => ?_)
    · have h := h.1 c2
      refine pw_aload_n eX4_when_87 rfl rfl ?_
      refine pw_ldc (n := (-1000004)) eX4_when_88 ⟨by decide, by decide⟩ kc_RX4_38 ?_
      obtain ⟨ob3, h⟩ := h
      refine pw_cV (z := mX4_finds) (av := [Iq (-1000004)]) (st := []) eX4_when_90 lk_RX4_39 rfl (by decide) (by decide) sh34 rfl rfl (Nat.le_of_ble_eq_true rfl) rfl (ct_X4_finds' (mem := cprow mem 38 35) ob3) ?_
      show PW S mX4_when Q 93 [some (Aq 34), some (Iq x1), some (Iq x2), some (Iq x3)] [Iq (-1000004)] (fnds (cprow mem 38 35) (-1000004))
      exact pw_iret eX4_when_93 h
    · have h := h.2 c2
      refine pw_iload_n eX4_when_83 rfl rfl ?_
      refine pw_goto eX4_when_84 ?_
      exact pw_iret eX4_when_93 h
  · have h := h.2 c1
    refine pw_aload_n eX4_when_46 rfl rfl ?_
    refine pw_iload_n eX4_when_47 rfl rfl ?_
    refine pw_iconst eX4_when_48 ⟨by decide, by decide⟩ ?_
    obtain ⟨ob4, h⟩ := h
    refine pw_cV (z := mX4_its) (av := [Iq x1, Iq 3]) (st := []) eX4_when_49 lk_RX4_71 rfl (by decide) (by decide) sh34 rfl rfl (Nat.le_of_ble_eq_true rfl) rfl (ct_X4_its (mem := mem) ⟨ob4.1, ob4.2, by decide, by decide⟩) ?_
    show PW S mX4_when Q 52 [some (Aq 34), some (Iq x1), some (Iq x2), some (Iq x3)] [Iq (mem 35 (12 + 14 * (x1).toNat + 3))] mem
    refine pw_iload_n eX4_when_52 rfl rfl ?_
    refine pw_icmp_ge eX4_when_53 (fun c5 => ?_) (fun c5 => ?_)
    · have h := h.1 c5
      refine pw_aload_n eX4_when_66 rfl rfl ?_
      refine gf_RX4_19 rfl eX4_when_67 sh34 ?_
      refine pw_aload_n eX4_when_70 rfl rfl ?_
      refine gf_RX4_7 rfl eX4_when_71 sh34 ?_
      refine pw_cS (z := mX4_copyRow) (av := [Aq 38, Aq 35]) (st := []) eX4_when_74 lk_RX4_150 rfl (by decide) (by decide) (Nat.le_of_ble_eq_true rfl) rfl (ct_X4_copyRow (mem := mem) sh38 sh35 (by decide)) ?_
      show PW S mX4_when Q 77 [some (Aq 34), some (Iq x1), some (Iq x2), some (Iq x3)] [] (cprow mem 38 35)
      refine pw_iload_n eX4_when_77 rfl rfl ?_
      refine pw_bipush eX4_when_78 ⟨by decide, by decide⟩ (by decide) ?_
      refine pw_icmp_gt eX4_when_80 (fun c6 => ?_) (fun c6 => ?_)
      · have h := h.1 c6
        refine pw_aload_n eX4_when_87 rfl rfl ?_
        refine pw_ldc (n := (-1000004)) eX4_when_88 ⟨by decide, by decide⟩ kc_RX4_38 ?_
        obtain ⟨ob7, h⟩ := h
        refine pw_cV (z := mX4_finds) (av := [Iq (-1000004)]) (st := []) eX4_when_90 lk_RX4_39 rfl (by decide) (by decide) sh34 rfl rfl (Nat.le_of_ble_eq_true rfl) rfl (ct_X4_finds' (mem := cprow mem 38 35) ob7) ?_
        show PW S mX4_when Q 93 [some (Aq 34), some (Iq x1), some (Iq x2), some (Iq x3)] [Iq (-1000004)] (fnds (cprow mem 38 35) (-1000004))
        exact pw_iret eX4_when_93 h
      · have h := h.2 c6
        refine pw_iload_n eX4_when_83 rfl rfl ?_
        refine pw_goto eX4_when_84 ?_
        exact pw_iret eX4_when_93 h
    · have h := h.2 c5
      refine pw_aload_n eX4_when_56 rfl rfl ?_
      obtain ⟨m9, hc10, h⟩ := h
      refine pw_cV (z := mX4_day) (av := []) (st := []) eX4_when_57 lk_RX4_124 rfl (by decide) (by decide) sh34 rfl rfl (Nat.le_of_ble_eq_true rfl) rfl hc10 ?_
      show PW S mX4_when Q 60 [some (Aq 34), some (Iq x1), some (Iq x2), some (Iq x3)] [] m9
      obtain ⟨ob11, h⟩ := h
      refine pw_iinc (ls2 := [some (Aq 34), some (Iq x1), some (Iq x2), some (Iq (x3 + 1))]) eX4_when_60 rfl ob11 rfl ?_
      refine pw_goto eX4_when_63 ?_
      exact h
set_option maxRecDepth 100000 in
theorem rg_X4_isTold_0 {S : Sx} {Q : Option PV → Zm → Prop} {mem : Zm}   {x1 x2 : Int} 
    (h : (∃ (m2 : Zm), Ct1 S mX4_day [Aq 34] (cprow mem 35 38) none m2 ∧ (PW S mX4_isTold Q 20 [some (Aq 34), some (Iq x1), some (Iq x2), some (Iq 1), some (Iq 0), none] [] m2))) :
    PW S mX4_isTold Q 0 [some (Aq 34), some (Iq x1), some (Iq x2), none, none, none] [] mem := by
  refine pw_aload_n eX4_isTold_0 rfl rfl ?_
  refine gf_RX4_7 rfl eX4_isTold_1 sh34 ?_
  refine pw_aload_n eX4_isTold_4 rfl rfl ?_
  refine gf_RX4_19 rfl eX4_isTold_5 sh34 ?_
  refine pw_cS (z := mX4_copyRow) (av := [Aq 35, Aq 38]) (st := []) eX4_isTold_8 lk_RX4_150 rfl (by decide) (by decide) (Nat.le_of_ble_eq_true rfl) rfl (ct_X4_copyRow (mem := mem) sh35 sh38 (by decide)) ?_
  show PW S mX4_isTold Q 11 [some (Aq 34), some (Iq x1), some (Iq x2), none, none, none] [] (cprow mem 35 38)
  refine pw_aload_n eX4_isTold_11 rfl rfl ?_
  obtain ⟨m2, hc3, h⟩ := h
  refine pw_cV (z := mX4_day) (av := []) (st := []) eX4_isTold_12 lk_RX4_124 rfl (by decide) (by decide) sh34 rfl rfl (Nat.le_of_ble_eq_true rfl) rfl hc3 ?_
  show PW S mX4_isTold Q 15 [some (Aq 34), some (Iq x1), some (Iq x2), none, none, none] [] m2
  refine pw_iconst eX4_isTold_15 ⟨by decide, by decide⟩ ?_
  refine pw_istore_n (ls2 := [some (Aq 34), some (Iq x1), some (Iq x2), some (Iq 1), none, none]) eX4_isTold_16 rfl (by decide) rfl ?_
  refine pw_iconst eX4_isTold_17 ⟨by decide, by decide⟩ ?_
  refine pw_istore (ls2 := [some (Aq 34), some (Iq x1), some (Iq x2), some (Iq 1), some (Iq 0), none]) eX4_isTold_18 (by decide) rfl ?_
  exact h

set_option maxRecDepth 100000 in
theorem rg_X4_isTold_20 {S : Sx} {Q : Option PV → Zm → Prop} {mem : Zm}   {x1 x2 x3 x4 : Int} 
    (h : (0 ≤ x1 ∧ x1 < 4) ∧ (((mem 42 (x1).toNat ≤ x4) → (Q (some (Iq x3)) (cprow mem 38 35))) ∧ (¬ (mem 42 (x1).toNat ≤ x4) → ((((8 ≤ x4) → (Q (some (Iq x3)) (cprow mem 38 35))) ∧ (¬ (8 ≤ x4) → ((in32 (40 * x1)) ∧ (in32 ((40 * x1) + x4)) ∧ (0 ≤ (40 * x1) + x4 ∧ (40 * x1) + x4 < 160) ∧ (((mem 43 ((40 * x1) + x4).toNat = -2) → ((in32 (x4 + 1)) ∧ PW S mX4_isTold Q 20 [some (Aq 34), some (Iq x1), some (Iq x2), some (Iq (bAnd x3 1)), some (Iq (x4 + 1)), none] [] mem)) ∧ (¬ (mem 43 ((40 * x1) + x4).toNat = -2) → ((in32 (6 + x4)) ∧ (0 ≤ x2 ∧ x2 < 8 ∧ 0 ≤ 6 + x4 ∧ 6 + x4 < 14) ∧ (((mem 43 ((40 * x1) + x4).toNat = mem 35 (12 + 14 * (x2).toNat + (6 + x4).toNat)) → ((in32 (x4 + 1)) ∧ PW S mX4_isTold Q 20 [some (Aq 34), some (Iq x1), some (Iq x2), some (Iq (bAnd x3 1)), some (Iq (x4 + 1)), none] [] mem)) ∧ (¬ (mem 43 ((40 * x1) + x4).toNat = mem 35 (12 + 14 * (x2).toNat + (6 + x4).toNat)) → ((in32 (x4 + 1)) ∧ PW S mX4_isTold Q 20 [some (Aq 34), some (Iq x1), some (Iq x2), some (Iq (bAnd x3 0)), some (Iq (x4 + 1)), none] [] mem))))))))))))) :
    PW S mX4_isTold Q 20 [some (Aq 34), some (Iq x1), some (Iq x2), some (Iq x3), some (Iq x4), none] [] mem := by
  refine pw_iload eX4_isTold_20 rfl ?_
  refine pw_aload_n eX4_isTold_22 rfl rfl ?_
  refine gf_RX4_31 rfl eX4_isTold_23 sh34 ?_
  refine pw_iload_n eX4_isTold_26 rfl rfl ?_
  obtain ⟨ob1, h⟩ := h
  refine pw_iald eX4_isTold_27 sh42 ob1 ?_
  refine pw_icmp_ge eX4_isTold_28 (fun c2 => ?_) (fun c2 => ?_)
  · have h := h.1 c2
    refine pw_aload_n eX4_isTold_88 rfl rfl ?_
    refine gf_RX4_19 rfl eX4_isTold_89 sh34 ?_
    refine pw_aload_n eX4_isTold_92 rfl rfl ?_
    refine gf_RX4_7 rfl eX4_isTold_93 sh34 ?_
    refine pw_cS (z := mX4_copyRow) (av := [Aq 38, Aq 35]) (st := []) eX4_isTold_96 lk_RX4_150 rfl (by decide) (by decide) (Nat.le_of_ble_eq_true rfl) rfl (ct_X4_copyRow (mem := mem) sh38 sh35 (by decide)) ?_
    show PW S mX4_isTold Q 99 [some (Aq 34), some (Iq x1), some (Iq x2), some (Iq x3), some (Iq x4), none] [] (cprow mem 38 35)
    refine pw_iload_n eX4_isTold_99 rfl rfl ?_
    exact pw_iret eX4_isTold_100 h
  · have h := h.2 c2
    refine pw_iload eX4_isTold_31 rfl ?_
    refine pw_bipush eX4_isTold_33 ⟨by decide, by decide⟩ (by decide) ?_
    refine pw_icmp_ge eX4_isTold_35 (fun c3 => ?_) (fun c3 => ?_)
    · have h := h.1 c3
      refine pw_aload_n eX4_isTold_88 rfl rfl ?_
      refine gf_RX4_19 rfl eX4_isTold_89 sh34 ?_
      refine pw_aload_n eX4_isTold_92 rfl rfl ?_
      refine gf_RX4_7 rfl eX4_isTold_93 sh34 ?_
      refine pw_cS (z := mX4_copyRow) (av := [Aq 38, Aq 35]) (st := []) eX4_isTold_96 lk_RX4_150 rfl (by decide) (by decide) (Nat.le_of_ble_eq_true rfl) rfl (ct_X4_copyRow (mem := mem) sh38 sh35 (by decide)) ?_
      show PW S mX4_isTold Q 99 [some (Aq 34), some (Iq x1), some (Iq x2), some (Iq x3), some (Iq x4), none] [] (cprow mem 38 35)
      refine pw_iload_n eX4_isTold_99 rfl rfl ?_
      exact pw_iret eX4_isTold_100 h
    · have h := h.2 c3
      refine pw_aload_n eX4_isTold_38 rfl rfl ?_
      refine gf_RX4_34 rfl eX4_isTold_39 sh34 ?_
      refine pw_bipush eX4_isTold_42 ⟨by decide, by decide⟩ (by decide) ?_
      refine pw_iload_n eX4_isTold_44 rfl rfl ?_
      obtain ⟨ob4, h⟩ := h
      refine pw_imul eX4_isTold_45 ob4 ?_
      refine pw_iload eX4_isTold_46 rfl ?_
      obtain ⟨ob5, h⟩ := h
      refine pw_iadd eX4_isTold_48 ob5 ?_
      obtain ⟨ob6, h⟩ := h
      refine pw_iald eX4_isTold_49 sh43 ob6 ?_
      refine pw_istore (ls2 := [some (Aq 34), some (Iq x1), some (Iq x2), some (Iq x3), some (Iq x4), some (Iq (mem 43 ((40 * x1) + x4).toNat))]) eX4_isTold_50 (by decide) rfl ?_
      refine pw_iload_n eX4_isTold_52 rfl rfl ?_
      refine pw_iload eX4_isTold_53 rfl ?_
      refine pw_bipush eX4_isTold_55 ⟨by decide, by decide⟩ (by decide) ?_
      refine pw_icmp_eq eX4_isTold_57 (fun c7 => ?_) (fun c7 => ?_)
      · have h := h.1 c7
        refine pw_iconst eX4_isTold_75 ⟨by decide, by decide⟩ ?_
        refine pw_goto eX4_isTold_76 ?_
        refine pw_iand eX4_isTold_80 ?_
        refine pw_istore_n (ls2 := [some (Aq 34), some (Iq x1), some (Iq x2), some (Iq (bAnd x3 1)), some (Iq x4), some (Iq (mem 43 ((40 * x1) + x4).toNat))]) eX4_isTold_81 rfl (by decide) rfl ?_
        obtain ⟨ob8, h⟩ := h
        refine pw_iinc (ls2 := [some (Aq 34), some (Iq x1), some (Iq x2), some (Iq (bAnd x3 1)), some (Iq (x4 + 1)), some (Iq (mem 43 ((40 * x1) + x4).toNat))]) eX4_isTold_82 rfl ob8 rfl ?_
        refine pw_goto eX4_isTold_85 ?_
        exact pw_drop (bs := [true, true, true, true, true, false]) h
      · have h := h.2 c7
        refine pw_iload eX4_isTold_60 rfl ?_
        refine pw_aload_n eX4_isTold_62 rfl rfl ?_
        refine pw_iload_n eX4_isTold_63 rfl rfl ?_
        refine pw_bipush eX4_isTold_64 ⟨by decide, by decide⟩ (by decide) ?_
        refine pw_iload eX4_isTold_66 rfl ?_
        obtain ⟨ob9, h⟩ := h
        refine pw_iadd eX4_isTold_68 ob9 ?_
        obtain ⟨ob10, h⟩ := h
        refine pw_cV (z := mX4_its) (av := [Iq x2, Iq (6 + x4)]) (st := [Iq (mem 43 ((40 * x1) + x4).toNat), Iq x3]) eX4_isTold_69 lk_RX4_71 rfl (by decide) (by decide) sh34 rfl rfl (Nat.le_of_ble_eq_true rfl) rfl (ct_X4_its (mem := mem) ob10) ?_
        show PW S mX4_isTold Q 72 [some (Aq 34), some (Iq x1), some (Iq x2), some (Iq x3), some (Iq x4), some (Iq (mem 43 ((40 * x1) + x4).toNat))] [Iq (mem 35 (12 + 14 * (x2).toNat + (6 + x4).toNat)), Iq (mem 43 ((40 * x1) + x4).toNat), Iq x3] mem
        refine pw_icmp_ne eX4_isTold_72 (fun c11 => ?_) (fun c11 => ?_)
        · have h := h.2 c11
          refine pw_iconst eX4_isTold_79 ⟨by decide, by decide⟩ ?_
          refine pw_iand eX4_isTold_80 ?_
          refine pw_istore_n (ls2 := [some (Aq 34), some (Iq x1), some (Iq x2), some (Iq (bAnd x3 0)), some (Iq x4), some (Iq (mem 43 ((40 * x1) + x4).toNat))]) eX4_isTold_81 rfl (by decide) rfl ?_
          obtain ⟨ob12, h⟩ := h
          refine pw_iinc (ls2 := [some (Aq 34), some (Iq x1), some (Iq x2), some (Iq (bAnd x3 0)), some (Iq (x4 + 1)), some (Iq (mem 43 ((40 * x1) + x4).toNat))]) eX4_isTold_82 rfl ob12 rfl ?_
          refine pw_goto eX4_isTold_85 ?_
          exact pw_drop (bs := [true, true, true, true, true, false]) h
        · have h := h.1 (Classical.not_not.mp c11)
          refine pw_iconst eX4_isTold_75 ⟨by decide, by decide⟩ ?_
          refine pw_goto eX4_isTold_76 ?_
          refine pw_iand eX4_isTold_80 ?_
          refine pw_istore_n (ls2 := [some (Aq 34), some (Iq x1), some (Iq x2), some (Iq (bAnd x3 1)), some (Iq x4), some (Iq (mem 43 ((40 * x1) + x4).toNat))]) eX4_isTold_81 rfl (by decide) rfl ?_
          obtain ⟨ob13, h⟩ := h
          refine pw_iinc (ls2 := [some (Aq 34), some (Iq x1), some (Iq x2), some (Iq (bAnd x3 1)), some (Iq (x4 + 1)), some (Iq (mem 43 ((40 * x1) + x4).toNat))]) eX4_isTold_82 rfl ob13 rfl ?_
          refine pw_goto eX4_isTold_85 ?_
          exact pw_drop (bs := [true, true, true, true, true, false]) h
set_option maxRecDepth 100000 in
theorem rg_X4_seats_0 {S : Sx} {Q : Option PV → Zm → Prop} {mem : Zm}   {x1 : Int} 
    (h : (((1 ≤ x1 ∧ x1 ≤ 20) → ((in32 ((mem 35 1) + x1)) ∧ ((((mem 35 1) + x1 ≤ 99999) → (PW S mX4_seats Q 41 [some (Aq 34), some (Iq x1), some (Iq 0), none, none] [] mem)) ∧ (¬ ((mem 35 1) + x1 ≤ 99999) → ((fOK mem (-1000005)) ∧ Q (some (Iq (-1000005))) (fnds mem (-1000005))))))) ∧ (¬ (1 ≤ x1 ∧ x1 ≤ 20) → ((fOK mem (-1000001)) ∧ Q (some (Iq (-1000001))) (fnds mem (-1000001)))))) :
    PW S mX4_seats Q 0 [some (Aq 34), some (Iq x1), none, none, none] [] mem := by
  refine pw_iload_n eX4_seats_0 rfl rfl ?_
  refine pw_i2l eX4_seats_1 ?_
  refine pw_lconst (v := 1) eX4_seats_2 ⟨by decide, by decide⟩ rfl ?_
  refine pw_ldc2 (n := 20) eX4_seats_3 ⟨by decide, by decide⟩ kc_RX4_161 ?_
  refine pw_cS (z := mX4_isIn) (av := [Jq x1, Jq 1, Jq 20]) (st := []) eX4_seats_6 lk_RX4_49 rfl (by decide) (by decide) (Nat.le_of_ble_eq_true rfl) rfl (ct_X4_isIn (mem := mem)) ?_
  show PW S mX4_seats Q 9 [some (Aq 34), some (Iq x1), none, none, none] [Iq (bI (1 ≤ x1 ∧ x1 ≤ 20))] mem
  refine pw_if_ne eX4_seats_9 (fun c1 => ?_) (fun c1 => ?_)
  · have h := h.1 (bI1.mp c1)
    refine pw_aload_n eX4_seats_19 rfl rfl ?_
    refine gf_RX4_7 rfl eX4_seats_20 sh34 ?_
    refine pw_iconst eX4_seats_23 ⟨by decide, by decide⟩ ?_
    refine pw_iald eX4_seats_24 sh35 (by decide) ?_
    refine pw_iload_n eX4_seats_25 rfl rfl ?_
    obtain ⟨ob2, h⟩ := h
    refine pw_iadd eX4_seats_26 ob2 ?_
    refine pw_ldc (n := 99999) eX4_seats_27 ⟨by decide, by decide⟩ kc_RX4_129 ?_
    refine pw_icmp_le eX4_seats_29 (fun c3 => ?_) (fun c3 => ?_)
    · have h := h.1 c3
      refine pw_iconst eX4_seats_39 ⟨by decide, by decide⟩ ?_
      refine pw_istore_n (ls2 := [some (Aq 34), some (Iq x1), some (Iq 0), none, none]) eX4_seats_40 rfl (by decide) rfl ?_
      exact h
    · have h := h.2 c3
      refine pw_aload_n eX4_seats_32 rfl rfl ?_
      refine pw_ldc (n := (-1000005)) eX4_seats_33 ⟨by decide, by decide⟩ kc_RX4_130 ?_
      obtain ⟨ob4, h⟩ := h
      refine pw_cV (z := mX4_finds) (av := [Iq (-1000005)]) (st := []) eX4_seats_35 lk_RX4_39 rfl (by decide) (by decide) sh34 rfl rfl (Nat.le_of_ble_eq_true rfl) rfl (ct_X4_finds' (mem := mem) ob4) ?_
      show PW S mX4_seats Q 38 [some (Aq 34), some (Iq x1), none, none, none] [Iq (-1000005)] (fnds mem (-1000005))
      exact pw_iret eX4_seats_38 h
  · have h := h.2 (bI0.mp (Classical.not_not.mp c1))
    refine pw_aload_n eX4_seats_12 rfl rfl ?_
    refine pw_ldc (n := (-1000001)) eX4_seats_13 ⟨by decide, by decide⟩ kc_RX4_37 ?_
    obtain ⟨ob5, h⟩ := h
    refine pw_cV (z := mX4_finds) (av := [Iq (-1000001)]) (st := []) eX4_seats_15 lk_RX4_39 rfl (by decide) (by decide) sh34 rfl rfl (Nat.le_of_ble_eq_true rfl) rfl (ct_X4_finds' (mem := mem) ob5) ?_
    show PW S mX4_seats Q 18 [some (Aq 34), some (Iq x1), none, none, none] [Iq (-1000001)] (fnds mem (-1000001))
    exact pw_iret eX4_seats_18 h

set_option maxRecDepth 100000 in
theorem rg_X4_seats_41 {S : Sx} {Q : Option PV → Zm → Prop} {mem : Zm}   {x1 x2 : Int} 
    (h : (((x1 ≤ x2) → ((OKA (mem 35)) ∧ Q (some (Iq (sumA (mem 35) 3 (nA (mem 35))))) mem)) ∧ (¬ (x1 ≤ x2) → ((0 ≤ drwV (mem 35 2)) ∧ (0 ≤ drwV ((mup mem 35 2 (drwZ (mem 35 2))) 35 2)) ∧ (((0 ≤ (drwV (mem 35 2)) % 8 ∧ (drwV (mem 35 2)) % 8 < (mup (mup mem 35 2 (drwZ (mem 35 2))) 35 2 (drwZ ((mup mem 35 2 (drwZ (mem 35 2))) 35 2))) 35 0) → ((((0 ≤ (drwV ((mup mem 35 2 (drwZ (mem 35 2))) 35 2)) % 8 ∧ (drwV ((mup mem 35 2 (drwZ (mem 35 2))) 35 2)) % 8 < (mup (mup mem 35 2 (drwZ (mem 35 2))) 35 2 (drwZ ((mup mem 35 2 (drwZ (mem 35 2))) 35 2))) 35 0) → (((((drwV (mem 35 2)) % 8 = (drwV ((mup mem 35 2 (drwZ (mem 35 2))) 35 2)) % 8) → ((∃ (m17 : Zm), Ct1 S mX4_day [Aq 34] (mup (mup mem 35 2 (drwZ (mem 35 2))) 35 2 (drwZ ((mup mem 35 2 (drwZ (mem 35 2))) 35 2))) none m17 ∧ ((in32 (x2 + 1)) ∧ PW S mX4_seats Q 41 [some (Aq 34), some (Iq x1), some (Iq (x2 + 1)), none, none] [] m17)))) ∧ (¬ ((drwV (mem 35 2)) % 8 = (drwV ((mup mem 35 2 (drwZ (mem 35 2))) 35 2)) % 8) → ((0 ≤ (drwV (mem 35 2)) % 8 ∧ (drwV (mem 35 2)) % 8 < 8) ∧ (0 ≤ 12 + 14 * ((drwV (mem 35 2)) % 8) + 2 ∧ 12 + 14 * ((drwV (mem 35 2)) % 8) + 2 < 134) ∧ (∃ (m23 : Zm), Ct1 S mX4_day [Aq 34] (mup (mup (mup mem 35 2 (drwZ (mem 35 2))) 35 2 (drwZ ((mup mem 35 2 (drwZ (mem 35 2))) 35 2))) 35 (12 + 14 * ((drwV (mem 35 2)) % 8) + 2).toNat ((drwV ((mup mem 35 2 (drwZ (mem 35 2))) 35 2)) % 8)) none m23 ∧ ((in32 (x2 + 1)) ∧ PW S mX4_seats Q 41 [some (Aq 34), some (Iq x1), some (Iq (x2 + 1)), none, none] [] m23))))))) ∧ (¬ (0 ≤ (drwV ((mup mem 35 2 (drwZ (mem 35 2))) 35 2)) % 8 ∧ (drwV ((mup mem 35 2 (drwZ (mem 35 2))) 35 2)) % 8 < (mup (mup mem 35 2 (drwZ (mem 35 2))) 35 2 (drwZ ((mup mem 35 2 (drwZ (mem 35 2))) 35 2))) 35 0) → ((∃ (m12 : Zm), Ct1 S mX4_day [Aq 34] (mup (mup mem 35 2 (drwZ (mem 35 2))) 35 2 (drwZ ((mup mem 35 2 (drwZ (mem 35 2))) 35 2))) none m12 ∧ ((in32 (x2 + 1)) ∧ PW S mX4_seats Q 41 [some (Aq 34), some (Iq x1), some (Iq (x2 + 1)), none, none] [] m12))))))) ∧ (¬ (0 ≤ (drwV (mem 35 2)) % 8 ∧ (drwV (mem 35 2)) % 8 < (mup (mup mem 35 2 (drwZ (mem 35 2))) 35 2 (drwZ ((mup mem 35 2 (drwZ (mem 35 2))) 35 2))) 35 0) → ((∃ (m7 : Zm), Ct1 S mX4_day [Aq 34] (mup (mup mem 35 2 (drwZ (mem 35 2))) 35 2 (drwZ ((mup mem 35 2 (drwZ (mem 35 2))) 35 2))) none m7 ∧ ((in32 (x2 + 1)) ∧ PW S mX4_seats Q 41 [some (Aq 34), some (Iq x1), some (Iq (x2 + 1)), none, none] [] m7))))))))) :
    PW S mX4_seats Q 41 [some (Aq 34), some (Iq x1), some (Iq x2), none, none] [] mem := by
  refine pw_iload_n eX4_seats_41 rfl rfl ?_
  refine pw_iload_n eX4_seats_42 rfl rfl ?_
  refine pw_icmp_ge eX4_seats_43 (fun c1 => ?_) (fun c1 => ?_)
  · have h := h.1 c1
    refine pw_aload_n eX4_seats_108 rfl rfl ?_
    refine pw_iconst eX4_seats_109 ⟨by decide, by decide⟩ ?_
    obtain ⟨ob2, h⟩ := h
    refine pw_cV (z := mX4_sumOf) (av := [Iq 3]) (st := []) eX4_seats_110 lk_RX4_134 rfl (by decide) (by decide) sh34 rfl rfl (Nat.le_of_ble_eq_true rfl) rfl (ct_X4_sumOf (mem := mem) ⟨ob2, by decide, by decide⟩) ?_
    show PW S mX4_seats Q 113 [some (Aq 34), some (Iq x1), some (Iq x2), none, none] [Iq (sumA (mem 35) 3 (nA (mem 35)))] mem
    exact pw_iret eX4_seats_113 h
  · have h := h.2 c1
    refine pw_aload_n eX4_seats_46 rfl rfl ?_
    refine pw_cV (z := mX4_draw) (av := []) (st := []) eX4_seats_47 lk_RX4_195 rfl (by decide) (by decide) sh34 rfl rfl (Nat.le_of_ble_eq_true rfl) rfl (ct_X4_draw' (mem := mem)) ?_
    show PW S mX4_seats Q 50 [some (Aq 34), some (Iq x1), some (Iq x2), none, none] [Iq (drwV (mem 35 2))] (mup mem 35 2 (drwZ (mem 35 2)))
    refine pw_bipush eX4_seats_50 ⟨by decide, by decide⟩ (by decide) ?_
    obtain ⟨ob3, h⟩ := h
    refine pw_irem eX4_seats_52 ob3 (by decide) ?_
    refine pw_istore_n (ls2 := [some (Aq 34), some (Iq x1), some (Iq x2), some (Iq ((drwV (mem 35 2)) % 8)), none]) eX4_seats_53 rfl (by decide) rfl ?_
    refine pw_aload_n eX4_seats_54 rfl rfl ?_
    refine pw_cV (z := mX4_draw) (av := []) (st := []) eX4_seats_55 lk_RX4_195 rfl (by decide) (by decide) sh34 rfl rfl (Nat.le_of_ble_eq_true rfl) rfl (ct_X4_draw' (mem := mup mem 35 2 (drwZ (mem 35 2)))) ?_
    show PW S mX4_seats Q 58 [some (Aq 34), some (Iq x1), some (Iq x2), some (Iq ((drwV (mem 35 2)) % 8)), none] [Iq (drwV ((mup mem 35 2 (drwZ (mem 35 2))) 35 2))] (mup (mup mem 35 2 (drwZ (mem 35 2))) 35 2 (drwZ ((mup mem 35 2 (drwZ (mem 35 2))) 35 2)))
    refine pw_bipush eX4_seats_58 ⟨by decide, by decide⟩ (by decide) ?_
    obtain ⟨ob4, h⟩ := h
    refine pw_irem eX4_seats_60 ob4 (by decide) ?_
    refine pw_istore (ls2 := [some (Aq 34), some (Iq x1), some (Iq x2), some (Iq ((drwV (mem 35 2)) % 8)), some (Iq ((drwV ((mup mem 35 2 (drwZ (mem 35 2))) 35 2)) % 8))]) eX4_seats_61 (by decide) rfl ?_
    refine pw_aload_n eX4_seats_63 rfl rfl ?_
    refine pw_iload_n eX4_seats_64 rfl rfl ?_
    refine pw_cV (z := mX4_isChild) (av := [Iq ((drwV (mem 35 2)) % 8)]) (st := []) eX4_seats_65 lk_RX4_77 rfl (by decide) (by decide) sh34 rfl rfl (Nat.le_of_ble_eq_true rfl) rfl (ct_X4_isChild (mem := mup (mup mem 35 2 (drwZ (mem 35 2))) 35 2 (drwZ ((mup mem 35 2 (drwZ (mem 35 2))) 35 2)))) ?_
    show PW S mX4_seats Q 68 [some (Aq 34), some (Iq x1), some (Iq x2), some (Iq ((drwV (mem 35 2)) % 8)), some (Iq ((drwV ((mup mem 35 2 (drwZ (mem 35 2))) 35 2)) % 8))] [Iq (bI (0 ≤ (drwV (mem 35 2)) % 8 ∧ (drwV (mem 35 2)) % 8 < (mup (mup mem 35 2 (drwZ (mem 35 2))) 35 2 (drwZ ((mup mem 35 2 (drwZ (mem 35 2))) 35 2))) 35 0))] (mup (mup mem 35 2 (drwZ (mem 35 2))) 35 2 (drwZ ((mup mem 35 2 (drwZ (mem 35 2))) 35 2)))
    refine pw_if_eq eX4_seats_68 (fun c5 => ?_) (fun c5 => ?_)
    · have h := h.2 (bI0.mp c5)
      refine pw_aload_n eX4_seats_98 rfl rfl ?_
      obtain ⟨m7, hc8, h⟩ := h
      refine pw_cV (z := mX4_day) (av := []) (st := []) eX4_seats_99 lk_RX4_124 rfl (by decide) (by decide) sh34 rfl rfl (Nat.le_of_ble_eq_true rfl) rfl hc8 ?_
      show PW S mX4_seats Q 102 [some (Aq 34), some (Iq x1), some (Iq x2), some (Iq ((drwV (mem 35 2)) % 8)), some (Iq ((drwV ((mup mem 35 2 (drwZ (mem 35 2))) 35 2)) % 8))] [] m7
      obtain ⟨ob9, h⟩ := h
      refine pw_iinc (ls2 := [some (Aq 34), some (Iq x1), some (Iq (x2 + 1)), some (Iq ((drwV (mem 35 2)) % 8)), some (Iq ((drwV ((mup mem 35 2 (drwZ (mem 35 2))) 35 2)) % 8))]) eX4_seats_102 rfl ob9 rfl ?_
      refine pw_goto eX4_seats_105 ?_
      exact pw_drop (bs := [true, true, true, false, false]) h
    · have h := h.1 (bI1.mp c5)
      refine pw_aload_n eX4_seats_71 rfl rfl ?_
      refine pw_iload eX4_seats_72 rfl ?_
      refine pw_cV (z := mX4_isChild) (av := [Iq ((drwV ((mup mem 35 2 (drwZ (mem 35 2))) 35 2)) % 8)]) (st := []) eX4_seats_74 lk_RX4_77 rfl (by decide) (by decide) sh34 rfl rfl (Nat.le_of_ble_eq_true rfl) rfl (ct_X4_isChild (mem := mup (mup mem 35 2 (drwZ (mem 35 2))) 35 2 (drwZ ((mup mem 35 2 (drwZ (mem 35 2))) 35 2)))) ?_
      show PW S mX4_seats Q 77 [some (Aq 34), some (Iq x1), some (Iq x2), some (Iq ((drwV (mem 35 2)) % 8)), some (Iq ((drwV ((mup mem 35 2 (drwZ (mem 35 2))) 35 2)) % 8))] [Iq (bI (0 ≤ (drwV ((mup mem 35 2 (drwZ (mem 35 2))) 35 2)) % 8 ∧ (drwV ((mup mem 35 2 (drwZ (mem 35 2))) 35 2)) % 8 < (mup (mup mem 35 2 (drwZ (mem 35 2))) 35 2 (drwZ ((mup mem 35 2 (drwZ (mem 35 2))) 35 2))) 35 0))] (mup (mup mem 35 2 (drwZ (mem 35 2))) 35 2 (drwZ ((mup mem 35 2 (drwZ (mem 35 2))) 35 2)))
      refine pw_if_eq eX4_seats_77 (fun c10 => ?_) (fun c10 => ?_)
      · have h := h.2 (bI0.mp c10)
        refine pw_aload_n eX4_seats_98 rfl rfl ?_
        obtain ⟨m12, hc13, h⟩ := h
        refine pw_cV (z := mX4_day) (av := []) (st := []) eX4_seats_99 lk_RX4_124 rfl (by decide) (by decide) sh34 rfl rfl (Nat.le_of_ble_eq_true rfl) rfl hc13 ?_
        show PW S mX4_seats Q 102 [some (Aq 34), some (Iq x1), some (Iq x2), some (Iq ((drwV (mem 35 2)) % 8)), some (Iq ((drwV ((mup mem 35 2 (drwZ (mem 35 2))) 35 2)) % 8))] [] m12
        obtain ⟨ob14, h⟩ := h
        refine pw_iinc (ls2 := [some (Aq 34), some (Iq x1), some (Iq (x2 + 1)), some (Iq ((drwV (mem 35 2)) % 8)), some (Iq ((drwV ((mup mem 35 2 (drwZ (mem 35 2))) 35 2)) % 8))]) eX4_seats_102 rfl ob14 rfl ?_
        refine pw_goto eX4_seats_105 ?_
        exact pw_drop (bs := [true, true, true, false, false]) h
      · have h := h.1 (bI1.mp c10)
        refine pw_iload_n eX4_seats_80 rfl rfl ?_
        refine pw_iload eX4_seats_81 rfl ?_
        refine pw_icmp_eq eX4_seats_83 (fun c15 => ?_) (fun c15 => ?_)
        · have h := h.1 c15
          refine pw_aload_n eX4_seats_98 rfl rfl ?_
          obtain ⟨m17, hc18, h⟩ := h
          refine pw_cV (z := mX4_day) (av := []) (st := []) eX4_seats_99 lk_RX4_124 rfl (by decide) (by decide) sh34 rfl rfl (Nat.le_of_ble_eq_true rfl) rfl hc18 ?_
          show PW S mX4_seats Q 102 [some (Aq 34), some (Iq x1), some (Iq x2), some (Iq ((drwV (mem 35 2)) % 8)), some (Iq ((drwV ((mup mem 35 2 (drwZ (mem 35 2))) 35 2)) % 8))] [] m17
          obtain ⟨ob19, h⟩ := h
          refine pw_iinc (ls2 := [some (Aq 34), some (Iq x1), some (Iq (x2 + 1)), some (Iq ((drwV (mem 35 2)) % 8)), some (Iq ((drwV ((mup mem 35 2 (drwZ (mem 35 2))) 35 2)) % 8))]) eX4_seats_102 rfl ob19 rfl ?_
          refine pw_goto eX4_seats_105 ?_
          exact pw_drop (bs := [true, true, true, false, false]) h
        · have h := h.2 c15
          refine pw_aload_n eX4_seats_86 rfl rfl ?_
          refine gf_RX4_7 rfl eX4_seats_87 sh34 ?_
          refine pw_iload_n eX4_seats_90 rfl rfl ?_
          refine pw_iconst eX4_seats_91 ⟨by decide, by decide⟩ ?_
          obtain ⟨ob20, h⟩ := h
          refine pw_cS (z := mX4_at) (av := [Iq ((drwV (mem 35 2)) % 8), Iq 2]) (st := [Aq 35]) eX4_seats_92 lk_RX4_59 rfl (by decide) (by decide) (Nat.le_of_ble_eq_true rfl) rfl (ct_X4_at (mem := mup (mup mem 35 2 (drwZ (mem 35 2))) 35 2 (drwZ ((mup mem 35 2 (drwZ (mem 35 2))) 35 2))) ⟨ob20.1, ob20.2, by decide, by decide⟩) ?_
          show PW S mX4_seats Q 95 [some (Aq 34), some (Iq x1), some (Iq x2), some (Iq ((drwV (mem 35 2)) % 8)), some (Iq ((drwV ((mup mem 35 2 (drwZ (mem 35 2))) 35 2)) % 8))] [Iq (12 + 14 * ((drwV (mem 35 2)) % 8) + 2), Aq 35] (mup (mup mem 35 2 (drwZ (mem 35 2))) 35 2 (drwZ ((mup mem 35 2 (drwZ (mem 35 2))) 35 2)))
          refine pw_iload eX4_seats_95 rfl ?_
          obtain ⟨ob21, h⟩ := h
          refine pw_iast eX4_seats_97 sh35 ob21 ?_
          refine pw_aload_n eX4_seats_98 rfl rfl ?_
          obtain ⟨m23, hc24, h⟩ := h
          refine pw_cV (z := mX4_day) (av := []) (st := []) eX4_seats_99 lk_RX4_124 rfl (by decide) (by decide) sh34 rfl rfl (Nat.le_of_ble_eq_true rfl) rfl hc24 ?_
          show PW S mX4_seats Q 102 [some (Aq 34), some (Iq x1), some (Iq x2), some (Iq ((drwV (mem 35 2)) % 8)), some (Iq ((drwV ((mup mem 35 2 (drwZ (mem 35 2))) 35 2)) % 8))] [] m23
          obtain ⟨ob25, h⟩ := h
          refine pw_iinc (ls2 := [some (Aq 34), some (Iq x1), some (Iq (x2 + 1)), some (Iq ((drwV (mem 35 2)) % 8)), some (Iq ((drwV ((mup mem 35 2 (drwZ (mem 35 2))) 35 2)) % 8))]) eX4_seats_102 rfl ob25 rfl ?_
          refine pw_goto eX4_seats_105 ?_
          exact pw_drop (bs := [true, true, true, false, false]) h
set_option maxRecDepth 100000 in
theorem rg_X4_text_0 {S : Sx} {Q : Option PV → Zm → Prop} {mem : Zm}   
    (h : (∃ (m2 : Zm), Ct1 S mX4_nextToken [Aq 34] (mup (cprow mem 35 37) 34 15 0) none m2 ∧ ((∃ (v4 : Int) (m5 : Zm), Ct1 S mX4_itemHere [Aq 34] m2 (some (Iq v4)) m5 ∧ (PW S mX4_text Q 27 [some (Aq 34), some (Iq 1), some (Iq v4)] [] m5))))) :
    PW S mX4_text Q 0 [some (Aq 34), none, none] [] mem := by
  refine pw_aload_n eX4_text_0 rfl rfl ?_
  refine gf_RX4_7 rfl eX4_text_1 sh34 ?_
  refine pw_aload_n eX4_text_4 rfl rfl ?_
  refine gf_RX4_16 rfl eX4_text_5 sh34 ?_
  refine pw_cS (z := mX4_copyRow) (av := [Aq 35, Aq 37]) (st := []) eX4_text_8 lk_RX4_150 rfl (by decide) (by decide) (Nat.le_of_ble_eq_true rfl) rfl (ct_X4_copyRow (mem := mem) sh35 sh37 (by decide)) ?_
  show PW S mX4_text Q 11 [some (Aq 34), none, none] [] (cprow mem 35 37)
  refine pw_aload_n eX4_text_11 rfl rfl ?_
  refine pw_iconst eX4_text_12 ⟨by decide, by decide⟩ ?_
  refine pf_RX4_205 rfl eX4_text_13 sh34 ?_
  refine pw_aload_n eX4_text_16 rfl rfl ?_
  obtain ⟨m2, hc3, h⟩ := h
  refine pw_cV (z := mX4_nextToken) (av := []) (st := []) eX4_text_17 lk_RX4_251 rfl (by decide) (by decide) sh34 rfl rfl (Nat.le_of_ble_eq_true rfl) rfl hc3 ?_
  show PW S mX4_text Q 20 [some (Aq 34), none, none] [] m2
  refine pw_iconst eX4_text_20 ⟨by decide, by decide⟩ ?_
  refine pw_istore_n (ls2 := [some (Aq 34), some (Iq 1), none]) eX4_text_21 rfl (by decide) rfl ?_
  refine pw_aload_n eX4_text_22 rfl rfl ?_
  obtain ⟨v4, m5, hc6, h⟩ := h
  refine pw_cV (z := mX4_itemHere) (av := []) (st := []) eX4_text_23 lk_RX4_270 rfl (by decide) (by decide) sh34 rfl rfl (Nat.le_of_ble_eq_true rfl) rfl hc6 ?_
  show PW S mX4_text Q 26 [some (Aq 34), some (Iq 1), none] [Iq v4] m5
  refine pw_istore_n (ls2 := [some (Aq 34), some (Iq 1), some (Iq v4)]) eX4_text_26 rfl (by decide) rfl ?_
  exact h

set_option maxRecDepth 100000 in
theorem rg_X4_text_27 {S : Sx} {Q : Option PV → Zm → Prop} {mem : Zm}   {x1 x2 : Int} 
    (h : (((x2 = 0) → ((((x2 = 0) → ((in32 ((-1) - ((cprow (mup mem 34 7 0) 37 35) 34 17))) ∧ Q (some (Iq ((-1) - ((cprow (mup mem 34 7 0) 37 35) 34 17)))) (cprow (mup mem 34 7 0) 37 35))) ∧ (¬ (x2 = 0) → ((((mem 34 13 = 0) → (Q (some (Iq x1)) (mup mem 34 7 0))) ∧ (¬ (mem 34 13 = 0) → ((in32 ((-1) - ((cprow (mup (mup mem 34 17 (mem 34 14)) 34 7 0) 37 35) 34 17))) ∧ Q (some (Iq ((-1) - ((cprow (mup (mup mem 34 17 (mem 34 14)) 34 7 0) 37 35) 34 17)))) (cprow (mup (mup mem 34 17 (mem 34 14)) 34 7 0) 37 35))))))))) ∧ (¬ (x2 = 0) → ((((mem 34 13 = 3) → ((∃ (m26 : Zm), Ct1 S mX4_nextToken [Aq 34] mem none m26 ∧ ((∃ (v28 : Int) (m29 : Zm), Ct1 S mX4_itemHere [Aq 34] m26 (some (Iq v28)) m29 ∧ ((in32 (x1 + 1)) ∧ PW S mX4_text Q 27 [some (Aq 34), some (Iq (x1 + 1)), some (Iq v28)] [] m29)))))) ∧ (¬ (mem 34 13 = 3) → ((((x2 = 0) → ((in32 ((-1) - ((cprow (mup mem 34 7 0) 37 35) 34 17))) ∧ Q (some (Iq ((-1) - ((cprow (mup mem 34 7 0) 37 35) 34 17)))) (cprow (mup mem 34 7 0) 37 35))) ∧ (¬ (x2 = 0) → ((((mem 34 13 = 0) → (Q (some (Iq x1)) (mup mem 34 7 0))) ∧ (¬ (mem 34 13 = 0) → ((in32 ((-1) - ((cprow (mup (mup mem 34 17 (mem 34 14)) 34 7 0) 37 35) 34 17))) ∧ Q (some (Iq ((-1) - ((cprow (mup (mup mem 34 17 (mem 34 14)) 34 7 0) 37 35) 34 17)))) (cprow (mup (mup mem 34 17 (mem 34 14)) 34 7 0) 37 35)))))))))))))) :
    PW S mX4_text Q 27 [some (Aq 34), some (Iq x1), some (Iq x2)] [] mem := by
  refine pw_iload_n eX4_text_27 rfl rfl ?_
  refine pw_if_eq eX4_text_28 (fun c1 => ?_) (fun c1 => ?_)
  · have h := h.1 c1
    refine pw_iload_n eX4_text_54 rfl rfl ?_
    refine pw_if_eq eX4_text_55 (fun c2 => ?_) (fun c2 => ?_)
    · have h := h.1 c2
      refine pw_iconst eX4_text_76 ⟨by decide, by decide⟩ ?_
      refine pw_istore_n (ls2 := [some (Aq 34), some (Iq x1), some (Iq 0)]) eX4_text_77 rfl (by decide) rfl ?_
      refine pw_aload_n eX4_text_78 rfl rfl ?_
      refine pw_iconst eX4_text_79 ⟨by decide, by decide⟩ ?_
      refine pf_RX4_202 rfl eX4_text_80 sh34 ?_
      refine pw_iload_n eX4_text_83 rfl rfl ?_
      refine pw_if_ne eX4_text_84 (fun c3 => ?_) (fun c3 => ?_)
      · exact absurd c3 (by decide)
      · skip
        refine pw_aload_n eX4_text_87 rfl rfl ?_
        refine gf_RX4_16 rfl eX4_text_88 sh34 ?_
        refine pw_aload_n eX4_text_91 rfl rfl ?_
        refine gf_RX4_7 rfl eX4_text_92 sh34 ?_
        refine pw_cS (z := mX4_copyRow) (av := [Aq 37, Aq 35]) (st := []) eX4_text_95 lk_RX4_150 rfl (by decide) (by decide) (Nat.le_of_ble_eq_true rfl) rfl (ct_X4_copyRow (mem := mup mem 34 7 0) sh37 sh35 (by decide)) ?_
        show PW S mX4_text Q 98 [some (Aq 34), some (Iq x1), some (Iq 0)] [] (cprow (mup mem 34 7 0) 37 35)
        refine pw_iload_n eX4_text_98 rfl rfl ?_
        refine pw_if_eq eX4_text_99 (fun c4 => ?_) (fun c4 => ?_)
        · skip
          refine pw_iconst eX4_text_106 ⟨by decide, by decide⟩ ?_
          refine pw_aload_n eX4_text_107 rfl rfl ?_
          refine gf_RX4_226 rfl eX4_text_108 sh34 ?_
          obtain ⟨ob5, h⟩ := h
          refine pw_isub eX4_text_111 ob5 ?_
          exact pw_iret eX4_text_112 h
        · exact absurd (by decide) c4
    · have h := h.2 c2
      refine pw_aload_n eX4_text_58 rfl rfl ?_
      refine gf_RX4_220 rfl eX4_text_59 sh34 ?_
      refine pw_if_eq eX4_text_62 (fun c6 => ?_) (fun c6 => ?_)
      · have h := h.1 c6
        refine pw_iconst eX4_text_72 ⟨by decide, by decide⟩ ?_
        refine pw_goto eX4_text_73 ?_
        refine pw_istore_n (ls2 := [some (Aq 34), some (Iq x1), some (Iq 1)]) eX4_text_77 rfl (by decide) rfl ?_
        refine pw_aload_n eX4_text_78 rfl rfl ?_
        refine pw_iconst eX4_text_79 ⟨by decide, by decide⟩ ?_
        refine pf_RX4_202 rfl eX4_text_80 sh34 ?_
        refine pw_iload_n eX4_text_83 rfl rfl ?_
        refine pw_if_ne eX4_text_84 (fun c7 => ?_) (fun c7 => ?_)
        · skip
          refine pw_iload_n eX4_text_98 rfl rfl ?_
          refine pw_if_eq eX4_text_99 (fun c8 => ?_) (fun c8 => ?_)
          · exact absurd c8 (by decide)
          · skip
            refine pw_iload_n eX4_text_102 rfl rfl ?_
            refine pw_goto eX4_text_103 ?_
            exact pw_iret eX4_text_112 h
        · exact absurd (by decide) c7
      · have h := h.2 c6
        refine pw_aload_n eX4_text_65 rfl rfl ?_
        refine pw_cV (z := mX4_fails) (av := []) (st := []) eX4_text_66 lk_RX4_236 rfl (by decide) (by decide) sh34 rfl rfl (Nat.le_of_ble_eq_true rfl) rfl (ct_X4_fails (mem := mem)) ?_
        show PW S mX4_text Q 69 [some (Aq 34), some (Iq x1), some (Iq x2)] [Iq 0] (mup mem 34 17 (mem 34 14))
        refine pw_if_eq eX4_text_69 (fun c9 => ?_) (fun c9 => ?_)
        · skip
          refine pw_iconst eX4_text_76 ⟨by decide, by decide⟩ ?_
          refine pw_istore_n (ls2 := [some (Aq 34), some (Iq x1), some (Iq 0)]) eX4_text_77 rfl (by decide) rfl ?_
          refine pw_aload_n eX4_text_78 rfl rfl ?_
          refine pw_iconst eX4_text_79 ⟨by decide, by decide⟩ ?_
          refine pf_RX4_202 rfl eX4_text_80 sh34 ?_
          refine pw_iload_n eX4_text_83 rfl rfl ?_
          refine pw_if_ne eX4_text_84 (fun c10 => ?_) (fun c10 => ?_)
          · exact absurd c10 (by decide)
          · skip
            refine pw_aload_n eX4_text_87 rfl rfl ?_
            refine gf_RX4_16 rfl eX4_text_88 sh34 ?_
            refine pw_aload_n eX4_text_91 rfl rfl ?_
            refine gf_RX4_7 rfl eX4_text_92 sh34 ?_
            refine pw_cS (z := mX4_copyRow) (av := [Aq 37, Aq 35]) (st := []) eX4_text_95 lk_RX4_150 rfl (by decide) (by decide) (Nat.le_of_ble_eq_true rfl) rfl (ct_X4_copyRow (mem := mup (mup mem 34 17 (mem 34 14)) 34 7 0) sh37 sh35 (by decide)) ?_
            show PW S mX4_text Q 98 [some (Aq 34), some (Iq x1), some (Iq 0)] [] (cprow (mup (mup mem 34 17 (mem 34 14)) 34 7 0) 37 35)
            refine pw_iload_n eX4_text_98 rfl rfl ?_
            refine pw_if_eq eX4_text_99 (fun c11 => ?_) (fun c11 => ?_)
            · skip
              refine pw_iconst eX4_text_106 ⟨by decide, by decide⟩ ?_
              refine pw_aload_n eX4_text_107 rfl rfl ?_
              refine gf_RX4_226 rfl eX4_text_108 sh34 ?_
              obtain ⟨ob12, h⟩ := h
              refine pw_isub eX4_text_111 ob12 ?_
              exact pw_iret eX4_text_112 h
            · exact absurd (by decide) c11
        · exact absurd (by decide) c9
  · have h := h.2 c1
    refine pw_aload_n eX4_text_31 rfl rfl ?_
    refine gf_RX4_220 rfl eX4_text_32 sh34 ?_
    refine pw_iconst eX4_text_35 ⟨by decide, by decide⟩ ?_
    refine pw_icmp_ne eX4_text_36 (fun c13 => ?_) (fun c13 => ?_)
    · have h := h.2 c13
      refine pw_iload_n eX4_text_54 rfl rfl ?_
      refine pw_if_eq eX4_text_55 (fun c14 => ?_) (fun c14 => ?_)
      · have h := h.1 c14
        refine pw_iconst eX4_text_76 ⟨by decide, by decide⟩ ?_
        refine pw_istore_n (ls2 := [some (Aq 34), some (Iq x1), some (Iq 0)]) eX4_text_77 rfl (by decide) rfl ?_
        refine pw_aload_n eX4_text_78 rfl rfl ?_
        refine pw_iconst eX4_text_79 ⟨by decide, by decide⟩ ?_
        refine pf_RX4_202 rfl eX4_text_80 sh34 ?_
        refine pw_iload_n eX4_text_83 rfl rfl ?_
        refine pw_if_ne eX4_text_84 (fun c15 => ?_) (fun c15 => ?_)
        · exact absurd c15 (by decide)
        · skip
          refine pw_aload_n eX4_text_87 rfl rfl ?_
          refine gf_RX4_16 rfl eX4_text_88 sh34 ?_
          refine pw_aload_n eX4_text_91 rfl rfl ?_
          refine gf_RX4_7 rfl eX4_text_92 sh34 ?_
          refine pw_cS (z := mX4_copyRow) (av := [Aq 37, Aq 35]) (st := []) eX4_text_95 lk_RX4_150 rfl (by decide) (by decide) (Nat.le_of_ble_eq_true rfl) rfl (ct_X4_copyRow (mem := mup mem 34 7 0) sh37 sh35 (by decide)) ?_
          show PW S mX4_text Q 98 [some (Aq 34), some (Iq x1), some (Iq 0)] [] (cprow (mup mem 34 7 0) 37 35)
          refine pw_iload_n eX4_text_98 rfl rfl ?_
          refine pw_if_eq eX4_text_99 (fun c16 => ?_) (fun c16 => ?_)
          · skip
            refine pw_iconst eX4_text_106 ⟨by decide, by decide⟩ ?_
            refine pw_aload_n eX4_text_107 rfl rfl ?_
            refine gf_RX4_226 rfl eX4_text_108 sh34 ?_
            obtain ⟨ob17, h⟩ := h
            refine pw_isub eX4_text_111 ob17 ?_
            exact pw_iret eX4_text_112 h
          · exact absurd (by decide) c16
      · have h := h.2 c14
        refine pw_aload_n eX4_text_58 rfl rfl ?_
        refine gf_RX4_220 rfl eX4_text_59 sh34 ?_
        refine pw_if_eq eX4_text_62 (fun c18 => ?_) (fun c18 => ?_)
        · have h := h.1 c18
          refine pw_iconst eX4_text_72 ⟨by decide, by decide⟩ ?_
          refine pw_goto eX4_text_73 ?_
          refine pw_istore_n (ls2 := [some (Aq 34), some (Iq x1), some (Iq 1)]) eX4_text_77 rfl (by decide) rfl ?_
          refine pw_aload_n eX4_text_78 rfl rfl ?_
          refine pw_iconst eX4_text_79 ⟨by decide, by decide⟩ ?_
          refine pf_RX4_202 rfl eX4_text_80 sh34 ?_
          refine pw_iload_n eX4_text_83 rfl rfl ?_
          refine pw_if_ne eX4_text_84 (fun c19 => ?_) (fun c19 => ?_)
          · skip
            refine pw_iload_n eX4_text_98 rfl rfl ?_
            refine pw_if_eq eX4_text_99 (fun c20 => ?_) (fun c20 => ?_)
            · exact absurd c20 (by decide)
            · skip
              refine pw_iload_n eX4_text_102 rfl rfl ?_
              refine pw_goto eX4_text_103 ?_
              exact pw_iret eX4_text_112 h
          · exact absurd (by decide) c19
        · have h := h.2 c18
          refine pw_aload_n eX4_text_65 rfl rfl ?_
          refine pw_cV (z := mX4_fails) (av := []) (st := []) eX4_text_66 lk_RX4_236 rfl (by decide) (by decide) sh34 rfl rfl (Nat.le_of_ble_eq_true rfl) rfl (ct_X4_fails (mem := mem)) ?_
          show PW S mX4_text Q 69 [some (Aq 34), some (Iq x1), some (Iq x2)] [Iq 0] (mup mem 34 17 (mem 34 14))
          refine pw_if_eq eX4_text_69 (fun c21 => ?_) (fun c21 => ?_)
          · skip
            refine pw_iconst eX4_text_76 ⟨by decide, by decide⟩ ?_
            refine pw_istore_n (ls2 := [some (Aq 34), some (Iq x1), some (Iq 0)]) eX4_text_77 rfl (by decide) rfl ?_
            refine pw_aload_n eX4_text_78 rfl rfl ?_
            refine pw_iconst eX4_text_79 ⟨by decide, by decide⟩ ?_
            refine pf_RX4_202 rfl eX4_text_80 sh34 ?_
            refine pw_iload_n eX4_text_83 rfl rfl ?_
            refine pw_if_ne eX4_text_84 (fun c22 => ?_) (fun c22 => ?_)
            · exact absurd c22 (by decide)
            · skip
              refine pw_aload_n eX4_text_87 rfl rfl ?_
              refine gf_RX4_16 rfl eX4_text_88 sh34 ?_
              refine pw_aload_n eX4_text_91 rfl rfl ?_
              refine gf_RX4_7 rfl eX4_text_92 sh34 ?_
              refine pw_cS (z := mX4_copyRow) (av := [Aq 37, Aq 35]) (st := []) eX4_text_95 lk_RX4_150 rfl (by decide) (by decide) (Nat.le_of_ble_eq_true rfl) rfl (ct_X4_copyRow (mem := mup (mup mem 34 17 (mem 34 14)) 34 7 0) sh37 sh35 (by decide)) ?_
              show PW S mX4_text Q 98 [some (Aq 34), some (Iq x1), some (Iq 0)] [] (cprow (mup (mup mem 34 17 (mem 34 14)) 34 7 0) 37 35)
              refine pw_iload_n eX4_text_98 rfl rfl ?_
              refine pw_if_eq eX4_text_99 (fun c23 => ?_) (fun c23 => ?_)
              · skip
                refine pw_iconst eX4_text_106 ⟨by decide, by decide⟩ ?_
                refine pw_aload_n eX4_text_107 rfl rfl ?_
                refine gf_RX4_226 rfl eX4_text_108 sh34 ?_
                obtain ⟨ob24, h⟩ := h
                refine pw_isub eX4_text_111 ob24 ?_
                exact pw_iret eX4_text_112 h
              · exact absurd (by decide) c23
          · exact absurd (by decide) c21
    · have h := h.1 (Classical.not_not.mp c13)
      refine pw_aload_n eX4_text_39 rfl rfl ?_
      obtain ⟨m26, hc27, h⟩ := h
      refine pw_cV (z := mX4_nextToken) (av := []) (st := []) eX4_text_40 lk_RX4_251 rfl (by decide) (by decide) sh34 rfl rfl (Nat.le_of_ble_eq_true rfl) rfl hc27 ?_
      show PW S mX4_text Q 43 [some (Aq 34), some (Iq x1), some (Iq x2)] [] m26
      refine pw_aload_n eX4_text_43 rfl rfl ?_
      obtain ⟨v28, m29, hc30, h⟩ := h
      refine pw_cV (z := mX4_itemHere) (av := []) (st := []) eX4_text_44 lk_RX4_270 rfl (by decide) (by decide) sh34 rfl rfl (Nat.le_of_ble_eq_true rfl) rfl hc30 ?_
      show PW S mX4_text Q 47 [some (Aq 34), some (Iq x1), some (Iq x2)] [Iq v28] m29
      refine pw_istore_n (ls2 := [some (Aq 34), some (Iq x1), some (Iq v28)]) eX4_text_47 rfl (by decide) rfl ?_
      obtain ⟨ob31, h⟩ := h
      refine pw_iinc (ls2 := [some (Aq 34), some (Iq (x1 + 1)), some (Iq v28)]) eX4_text_48 rfl ob31 rfl ?_
      refine pw_goto eX4_text_51 ?_
      exact h
end RG

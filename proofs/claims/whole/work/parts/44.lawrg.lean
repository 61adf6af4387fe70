section RG
set_option maxRecDepth 100000 in
theorem rg_L_law_18 {S : Sx} {Q : Option PV → Zm → Prop} {mem : Zm} {x3 : Int}
    (h : (in32 (((S.1 : Int)) - 6)) ∧ (((((S.1 : Int)) - 6 < x3) → (Q (some (Iq 1)) mem)) ∧ (¬ (((S.1 : Int)) - 6 < x3) → ((0 ≤ x3 ∧ x3 < S.1) ∧ ((((bAnd ((S.2 (x3).toNat).toInt) 63) = 0) → (PW S mL_law Q 224 [some (Aq 103), some (Aq 0), some (Aq 34), some (Iq x3)] [] mem)) ∧ (((bAnd ((S.2 (x3).toNat).toInt) 63) = 1) → (PW S mL_law Q 257 [some (Aq 103), some (Aq 0), some (Aq 34), some (Iq x3)] [] mem)) ∧ (((bAnd ((S.2 (x3).toNat).toInt) 63) = 2) → (PW S mL_law Q 280 [some (Aq 103), some (Aq 0), some (Aq 34), some (Iq x3)] [] mem)) ∧ (((bAnd ((S.2 (x3).toNat).toInt) 63) = 3) → (PW S mL_law Q 303 [some (Aq 103), some (Aq 0), some (Aq 34), some (Iq x3)] [] mem)) ∧ (((bAnd ((S.2 (x3).toNat).toInt) 63) = 4) → (PW S mL_law Q 336 [some (Aq 103), some (Aq 0), some (Aq 34), some (Iq x3)] [] mem)) ∧ (((bAnd ((S.2 (x3).toNat).toInt) 63) = 5) → (PW S mL_law Q 369 [some (Aq 103), some (Aq 0), some (Aq 34), some (Iq x3)] [] mem)) ∧ (((bAnd ((S.2 (x3).toNat).toInt) 63) = 6) → (PW S mL_law Q 412 [some (Aq 103), some (Aq 0), some (Aq 34), some (Iq x3)] [] mem)) ∧ (((bAnd ((S.2 (x3).toNat).toInt) 63) = 7) → (PW S mL_law Q 445 [some (Aq 103), some (Aq 0), some (Aq 34), some (Iq x3)] [] mem)) ∧ (((bAnd ((S.2 (x3).toNat).toInt) 63) = 8) → (PW S mL_law Q 488 [some (Aq 103), some (Aq 0), some (Aq 34), some (Iq x3)] [] mem)) ∧ (((bAnd ((S.2 (x3).toNat).toInt) 63) = 9) → (PW S mL_law Q 521 [some (Aq 103), some (Aq 0), some (Aq 34), some (Iq x3)] [] mem)) ∧ (((bAnd ((S.2 (x3).toNat).toInt) 63) = 10) → (PW S mL_law Q 544 [some (Aq 103), some (Aq 0), some (Aq 34), some (Iq x3)] [] mem)) ∧ (((bAnd ((S.2 (x3).toNat).toInt) 63) = 11) → (PW S mL_law Q 567 [some (Aq 103), some (Aq 0), some (Aq 34), some (Iq x3)] [] mem)) ∧ (((bAnd ((S.2 (x3).toNat).toInt) 63) = 12) → (PW S mL_law Q 590 [some (Aq 103), some (Aq 0), some (Aq 34), some (Iq x3)] [] mem)) ∧ (((bAnd ((S.2 (x3).toNat).toInt) 63) = 13) → (PW S mL_law Q 633 [some (Aq 103), some (Aq 0), some (Aq 34), some (Iq x3)] [] mem)) ∧ (((bAnd ((S.2 (x3).toNat).toInt) 63) = 14) → (PW S mL_law Q 676 [some (Aq 103), some (Aq 0), some (Aq 34), some (Iq x3)] [] mem)) ∧ (((bAnd ((S.2 (x3).toNat).toInt) 63) = 15) → (PW S mL_law Q 699 [some (Aq 103), some (Aq 0), some (Aq 34), some (Iq x3)] [] mem)) ∧ (((bAnd ((S.2 (x3).toNat).toInt) 63) = 16) → (PW S mL_law Q 732 [some (Aq 103), some (Aq 0), some (Aq 34), some (Iq x3)] [] mem)) ∧ (((bAnd ((S.2 (x3).toNat).toInt) 63) = 17) → (PW S mL_law Q 765 [some (Aq 103), some (Aq 0), some (Aq 34), some (Iq x3)] [] mem)) ∧ (((bAnd ((S.2 (x3).toNat).toInt) 63) = 18) → (PW S mL_law Q 798 [some (Aq 103), some (Aq 0), some (Aq 34), some (Iq x3)] [] mem)) ∧ (((bAnd ((S.2 (x3).toNat).toInt) 63) = 19) → (PW S mL_law Q 831 [some (Aq 103), some (Aq 0), some (Aq 34), some (Iq x3)] [] mem)) ∧ (((bAnd ((S.2 (x3).toNat).toInt) 63) = 20) → (PW S mL_law Q 854 [some (Aq 103), some (Aq 0), some (Aq 34), some (Iq x3)] [] mem)) ∧ (((bAnd ((S.2 (x3).toNat).toInt) 63) = 21) → (PW S mL_law Q 877 [some (Aq 103), some (Aq 0), some (Aq 34), some (Iq x3)] [] mem)) ∧ (((bAnd ((S.2 (x3).toNat).toInt) 63) = 22) → (PW S mL_law Q 910 [some (Aq 103), some (Aq 0), some (Aq 34), some (Iq x3)] [] mem)) ∧ (((bAnd ((S.2 (x3).toNat).toInt) 63) = 23) → (PW S mL_law Q 943 [some (Aq 103), some (Aq 0), some (Aq 34), some (Iq x3)] [] mem)) ∧ (((bAnd ((S.2 (x3).toNat).toInt) 63) = 24) → (PW S mL_law Q 976 [some (Aq 103), some (Aq 0), some (Aq 34), some (Iq x3)] [] mem)) ∧ (((bAnd ((S.2 (x3).toNat).toInt) 63) = 25) → (PW S mL_law Q 1009 [some (Aq 103), some (Aq 0), some (Aq 34), some (Iq x3)] [] mem)) ∧ (((bAnd ((S.2 (x3).toNat).toInt) 63) = 26) → (PW S mL_law Q 1042 [some (Aq 103), some (Aq 0), some (Aq 34), some (Iq x3)] [] mem)) ∧ (((bAnd ((S.2 (x3).toNat).toInt) 63) = 27) → (PW S mL_law Q 1065 [some (Aq 103), some (Aq 0), some (Aq 34), some (Iq x3)] [] mem)) ∧ (((bAnd ((S.2 (x3).toNat).toInt) 63) = 28) → (PW S mL_law Q 1109 [some (Aq 103), some (Aq 0), some (Aq 34), some (Iq x3)] [] mem)) ∧ (((bAnd ((S.2 (x3).toNat).toInt) 63) = 29) → (PW S mL_law Q 1132 [some (Aq 103), some (Aq 0), some (Aq 34), some (Iq x3)] [] mem)) ∧ (((bAnd ((S.2 (x3).toNat).toInt) 63) = 30) → (PW S mL_law Q 1165 [some (Aq 103), some (Aq 0), some (Aq 34), some (Iq x3)] [] mem)) ∧ (((bAnd ((S.2 (x3).toNat).toInt) 63) = 31) → (PW S mL_law Q 1178 [some (Aq 103), some (Aq 0), some (Aq 34), some (Iq x3)] [] mem)) ∧ (((bAnd ((S.2 (x3).toNat).toInt) 63) = 32) → (PW S mL_law Q 1191 [some (Aq 103), some (Aq 0), some (Aq 34), some (Iq x3)] [] mem)) ∧ (((bAnd ((S.2 (x3).toNat).toInt) 63) = 33) → (PW S mL_law Q 1224 [some (Aq 103), some (Aq 0), some (Aq 34), some (Iq x3)] [] mem)) ∧ (((bAnd ((S.2 (x3).toNat).toInt) 63) = 34) → (PW S mL_law Q 1257 [some (Aq 103), some (Aq 0), some (Aq 34), some (Iq x3)] [] mem)) ∧ (((bAnd ((S.2 (x3).toNat).toInt) 63) = 35) → (PW S mL_law Q 1300 [some (Aq 103), some (Aq 0), some (Aq 34), some (Iq x3)] [] mem)) ∧ (((bAnd ((S.2 (x3).toNat).toInt) 63) = 36) → (PW S mL_law Q 1343 [some (Aq 103), some (Aq 0), some (Aq 34), some (Iq x3)] [] mem)) ∧ (((bAnd ((S.2 (x3).toNat).toInt) 63) = 37) → (PW S mL_law Q 1406 [some (Aq 103), some (Aq 0), some (Aq 34), some (Iq x3)] [] mem)) ∧ (((bAnd ((S.2 (x3).toNat).toInt) 63) = 38) → (PW S mL_law Q 1429 [some (Aq 103), some (Aq 0), some (Aq 34), some (Iq x3)] [] mem)) ∧ (((bAnd ((S.2 (x3).toNat).toInt) 63) = 39) → (PW S mL_law Q 1452 [some (Aq 103), some (Aq 0), some (Aq 34), some (Iq x3)] [] mem)) ∧ (((bAnd ((S.2 (x3).toNat).toInt) 63) = 40) → (PW S mL_law Q 1465 [some (Aq 103), some (Aq 0), some (Aq 34), some (Iq x3)] [] mem)) ∧ (((bAnd ((S.2 (x3).toNat).toInt) 63) = 41) → (PW S mL_law Q 1478 [some (Aq 103), some (Aq 0), some (Aq 34), some (Iq x3)] [] mem)) ∧ (((bAnd ((S.2 (x3).toNat).toInt) 63) = 42) → (PW S mL_law Q 1491 [some (Aq 103), some (Aq 0), some (Aq 34), some (Iq x3)] [] mem)) ∧ (((bAnd ((S.2 (x3).toNat).toInt) 63) = 43) → (PW S mL_law Q 1514 [some (Aq 103), some (Aq 0), some (Aq 34), some (Iq x3)] [] mem)) ∧ (((bAnd ((S.2 (x3).toNat).toInt) 63) < 0 ∨ 43 < (bAnd ((S.2 (x3).toNat).toInt) 63)) → (PW S mL_law Q 1537 [some (Aq 103), some (Aq 0), some (Aq 34), some (Iq x3)] [] mem))))))) :
    PW S mL_law Q 18 [some (Aq 103), some (Aq 0), some (Aq 34), some (Iq x3)] [] mem := by
  refine pw_iload_n eL_law_18 rfl rfl ?_
  refine pw_aload_n eL_law_19 rfl rfl ?_
  refine pw_slen eL_law_20 ?_
  refine pw_bipush eL_law_21 ⟨by decide, by decide⟩ (by decide) ?_
  obtain ⟨ob1, h⟩ := h
  refine pw_isub eL_law_23 ob1 ?_
  refine pw_icmp_gt eL_law_24 (fun c2 => ?_) (fun c2 => ?_)
  · have h := h.1 c2
    refine pw_iconst eL_law_1543 ⟨by decide, by decide⟩ ?_
    exact pw_iret eL_law_1544 h
  · have h := h.2 c2
    refine pw_aload_n eL_law_27 rfl rfl ?_
    refine pw_iload_n eL_law_28 rfl rfl ?_
    obtain ⟨ob3, h⟩ := h
    refine pw_scr eL_law_29 ob3 ?_
    refine pw_bipush eL_law_30 ⟨by decide, by decide⟩ (by decide) ?_
    refine pw_iand eL_law_32 ?_
    obtain ⟨hk0, hk1, hk2, hk3, hk4, hk5, hk6, hk7, hk8, hk9, hk10, hk11, hk12, hk13, hk14, hk15, hk16, hk17, hk18, hk19, hk20, hk21, hk22, hk23, hk24, hk25, hk26, hk27, hk28, hk29, hk30, hk31, hk32, hk33, hk34, hk35, hk36, hk37, hk38, hk39, hk40, hk41, hk42, hk43, hkd⟩ := h
    refine pw_tsw (ps := [(0, 224), (1, 257), (2, 280), (3, 303), (4, 336), (5, 369), (6, 412), (7, 445), (8, 488), (9, 521), (10, 544), (11, 567), (12, 590), (13, 633), (14, 676), (15, 699), (16, 732), (17, 765), (18, 798), (19, 831), (20, 854), (21, 877), (22, 910), (23, 943), (24, 976), (25, 1009), (26, 1042), (27, 1065), (28, 1109), (29, 1132), (30, 1165), (31, 1178), (32, 1191), (33, 1224), (34, 1257), (35, 1300), (36, 1343), (37, 1406), (38, 1429), (39, 1452), (40, 1465), (41, 1478), (42, 1491), (43, 1514)]) (td := 1537) eL_law_33 rfl (by decide) (by decide) rfl ⟨fun c4 => ?_, fun c4 => ?_, fun c4 => ?_, fun c4 => ?_, fun c4 => ?_, fun c4 => ?_, fun c4 => ?_, fun c4 => ?_, fun c4 => ?_, fun c4 => ?_, fun c4 => ?_, fun c4 => ?_, fun c4 => ?_, fun c4 => ?_, fun c4 => ?_, fun c4 => ?_, fun c4 => ?_, fun c4 => ?_, fun c4 => ?_, fun c4 => ?_, fun c4 => ?_, fun c4 => ?_, fun c4 => ?_, fun c4 => ?_, fun c4 => ?_, fun c4 => ?_, fun c4 => ?_, fun c4 => ?_, fun c4 => ?_, fun c4 => ?_, fun c4 => ?_, fun c4 => ?_, fun c4 => ?_, fun c4 => ?_, fun c4 => ?_, fun c4 => ?_, fun c4 => ?_, fun c4 => ?_, fun c4 => ?_, fun c4 => ?_, fun c4 => ?_, fun c4 => ?_, fun c4 => ?_, fun c4 => ?_, trivial⟩ (fun c4 => ?_)
    · have h := hk0 c4
      exact h
    · have h := hk1 c4
      exact h
    · have h := hk2 c4
      exact h
    · have h := hk3 c4
      exact h
    · have h := hk4 c4
      exact h
    · have h := hk5 c4
      exact h
    · have h := hk6 c4
      exact h
    · have h := hk7 c4
      exact h
    · have h := hk8 c4
      exact h
    · have h := hk9 c4
      exact h
    · have h := hk10 c4
      exact h
    · have h := hk11 c4
      exact h
    · have h := hk12 c4
      exact h
    · have h := hk13 c4
      exact h
    · have h := hk14 c4
      exact h
    · have h := hk15 c4
      exact h
    · have h := hk16 c4
      exact h
    · have h := hk17 c4
      exact h
    · have h := hk18 c4
      exact h
    · have h := hk19 c4
      exact h
    · have h := hk20 c4
      exact h
    · have h := hk21 c4
      exact h
    · have h := hk22 c4
      exact h
    · have h := hk23 c4
      exact h
    · have h := hk24 c4
      exact h
    · have h := hk25 c4
      exact h
    · have h := hk26 c4
      exact h
    · have h := hk27 c4
      exact h
    · have h := hk28 c4
      exact h
    · have h := hk29 c4
      exact h
    · have h := hk30 c4
      exact h
    · have h := hk31 c4
      exact h
    · have h := hk32 c4
      exact h
    · have h := hk33 c4
      exact h
    · have h := hk34 c4
      exact h
    · have h := hk35 c4
      exact h
    · have h := hk36 c4
      exact h
    · have h := hk37 c4
      exact h
    · have h := hk38 c4
      exact h
    · have h := hk39 c4
      exact h
    · have h := hk40 c4
      exact h
    · have h := hk41 c4
      exact h
    · have h := hk42 c4
      exact h
    · have h := hk43 c4
      exact h
    · have h := hkd c4
      exact h

set_option maxRecDepth 100000 in
theorem rg_L_law_224 {S : Sx} {Q : Option PV → Zm → Prop} {mem : Zm} {x3 : Int}
    (h : (in32 (x3 + 1)) ∧ (0 ≤ x3 + 1 ∧ x3 + 1 < S.1) ∧ (in32 (x3 + 2)) ∧ (0 ≤ x3 + 2 ∧ x3 + 2 < S.1) ∧ (∃ (v5 : Int) (m6 : Zm), Ct1 S mX3_right [Aq 0, Iq ((S.2 (x3 + 1).toNat).toInt), Iq ((S.2 (x3 + 2).toNat).toInt)] mem (some (Iq v5)) m6 ∧ ((in32 (x3 + 1)) ∧ (0 ≤ x3 + 1 ∧ x3 + 1 < S.1) ∧ (in32 (x3 + 2)) ∧ (0 ≤ x3 + 2 ∧ x3 + 2 < S.1) ∧ (∃ (v12 : Int) (m13 : Zm), Ct1 S mX4_right [Aq 34, Iq ((S.2 (x3 + 1).toNat).toInt), Iq ((S.2 (x3 + 2).toNat).toInt)] m6 (some (Iq v12)) m13 ∧ ((((v5 = v12) → (PW S mL_law Q 1537 [some (Aq 103), some (Aq 0), some (Aq 34), some (Iq x3)] [] m13)) ∧ (¬ (v5 = v12) → (Q (some (Iq 0)) m13)))))))) :
    PW S mL_law Q 224 [some (Aq 103), some (Aq 0), some (Aq 34), some (Iq x3)] [] mem := by
  refine pw_aload_n eL_law_224 rfl rfl ?_
  refine pw_aload_n eL_law_225 rfl rfl ?_
  refine pw_iload_n eL_law_226 rfl rfl ?_
  refine pw_iconst eL_law_227 ⟨by decide, by decide⟩ ?_
  obtain ⟨ob1, h⟩ := h
  refine pw_iadd eL_law_228 ob1 ?_
  obtain ⟨ob2, h⟩ := h
  refine pw_scr eL_law_229 ob2 ?_
  refine pw_aload_n eL_law_230 rfl rfl ?_
  refine pw_iload_n eL_law_231 rfl rfl ?_
  refine pw_iconst eL_law_232 ⟨by decide, by decide⟩ ?_
  obtain ⟨ob3, h⟩ := h
  refine pw_iadd eL_law_233 ob3 ?_
  obtain ⟨ob4, h⟩ := h
  refine pw_scr eL_law_234 ob4 ?_
  obtain ⟨v5, m6, hc7, h⟩ := h
  refine pw_cV (z := mX3_right) (av := [Iq ((S.2 (x3 + 1).toNat).toInt), Iq ((S.2 (x3 + 2).toNat).toInt)]) (st := []) eL_law_235 lk_RL_13 rfl (by decide) (by decide) sh0 rfl rfl (Nat.le_of_ble_eq_true rfl) rfl hc7 ?_
  show PW S mL_law Q 238 [some (Aq 103), some (Aq 0), some (Aq 34), some (Iq x3)] [Iq v5] m6
  refine pw_aload_n eL_law_238 rfl rfl ?_
  refine pw_aload_n eL_law_239 rfl rfl ?_
  refine pw_iload_n eL_law_240 rfl rfl ?_
  refine pw_iconst eL_law_241 ⟨by decide, by decide⟩ ?_
  obtain ⟨ob8, h⟩ := h
  refine pw_iadd eL_law_242 ob8 ?_
  obtain ⟨ob9, h⟩ := h
  refine pw_scr eL_law_243 ob9 ?_
  refine pw_aload_n eL_law_244 rfl rfl ?_
  refine pw_iload_n eL_law_245 rfl rfl ?_
  refine pw_iconst eL_law_246 ⟨by decide, by decide⟩ ?_
  obtain ⟨ob10, h⟩ := h
  refine pw_iadd eL_law_247 ob10 ?_
  obtain ⟨ob11, h⟩ := h
  refine pw_scr eL_law_248 ob11 ?_
  obtain ⟨v12, m13, hc14, h⟩ := h
  refine pw_cV (z := mX4_right) (av := [Iq ((S.2 (x3 + 1).toNat).toInt), Iq ((S.2 (x3 + 2).toNat).toInt)]) (st := [Iq v5]) eL_law_249 lk_RL_17 rfl (by decide) (by decide) sh34 rfl rfl (Nat.le_of_ble_eq_true rfl) rfl hc14 ?_
  show PW S mL_law Q 252 [some (Aq 103), some (Aq 0), some (Aq 34), some (Iq x3)] [Iq v12, Iq v5] m13
  refine pw_icmp_eq eL_law_252 (fun c15 => ?_) (fun c15 => ?_)
  · have h := h.1 c15
    exact h
  · have h := h.2 c15
    refine pw_iconst eL_law_255 ⟨by decide, by decide⟩ ?_
    exact pw_iret eL_law_256 h

set_option maxRecDepth 100000 in
theorem rg_L_law_257 {S : Sx} {Q : Option PV → Zm → Prop} {mem : Zm} {x3 : Int}
    (h : (in32 (x3 + 1)) ∧ (0 ≤ x3 + 1 ∧ x3 + 1 < S.1) ∧ (∃ (v3 : Int) (m4 : Zm), Ct1 S mX3_isRight [Aq 0, Iq ((S.2 (x3 + 1).toNat).toInt)] mem (some (Iq v3)) m4 ∧ ((in32 (x3 + 1)) ∧ (0 ≤ x3 + 1 ∧ x3 + 1 < S.1) ∧ (∃ (v8 : Int) (m9 : Zm), Ct1 S mX4_isRight [Aq 34, Iq ((S.2 (x3 + 1).toNat).toInt)] m4 (some (Iq v8)) m9 ∧ ((((v3 = v8) → (PW S mL_law Q 1537 [some (Aq 103), some (Aq 0), some (Aq 34), some (Iq x3)] [] m9)) ∧ (¬ (v3 = v8) → (Q (some (Iq 0)) m9)))))))) :
    PW S mL_law Q 257 [some (Aq 103), some (Aq 0), some (Aq 34), some (Iq x3)] [] mem := by
  refine pw_aload_n eL_law_257 rfl rfl ?_
  refine pw_aload_n eL_law_258 rfl rfl ?_
  refine pw_iload_n eL_law_259 rfl rfl ?_
  refine pw_iconst eL_law_260 ⟨by decide, by decide⟩ ?_
  obtain ⟨ob1, h⟩ := h
  refine pw_iadd eL_law_261 ob1 ?_
  obtain ⟨ob2, h⟩ := h
  refine pw_scr eL_law_262 ob2 ?_
  obtain ⟨v3, m4, hc5, h⟩ := h
  refine pw_cV (z := mX3_isRight) (av := [Iq ((S.2 (x3 + 1).toNat).toInt)]) (st := []) eL_law_263 lk_RL_18 rfl (by decide) (by decide) sh0 rfl rfl (Nat.le_of_ble_eq_true rfl) rfl hc5 ?_
  show PW S mL_law Q 266 [some (Aq 103), some (Aq 0), some (Aq 34), some (Iq x3)] [Iq v3] m4
  refine pw_aload_n eL_law_266 rfl rfl ?_
  refine pw_aload_n eL_law_267 rfl rfl ?_
  refine pw_iload_n eL_law_268 rfl rfl ?_
  refine pw_iconst eL_law_269 ⟨by decide, by decide⟩ ?_
  obtain ⟨ob6, h⟩ := h
  refine pw_iadd eL_law_270 ob6 ?_
  obtain ⟨ob7, h⟩ := h
  refine pw_scr eL_law_271 ob7 ?_
  obtain ⟨v8, m9, hc10, h⟩ := h
  refine pw_cV (z := mX4_isRight) (av := [Iq ((S.2 (x3 + 1).toNat).toInt)]) (st := [Iq v3]) eL_law_272 lk_RL_22 rfl (by decide) (by decide) sh34 rfl rfl (Nat.le_of_ble_eq_true rfl) rfl hc10 ?_
  show PW S mL_law Q 275 [some (Aq 103), some (Aq 0), some (Aq 34), some (Iq x3)] [Iq v8, Iq v3] m9
  refine pw_icmp_eq eL_law_275 (fun c11 => ?_) (fun c11 => ?_)
  · have h := h.1 c11
    exact h
  · have h := h.2 c11
    refine pw_iconst eL_law_278 ⟨by decide, by decide⟩ ?_
    exact pw_iret eL_law_279 h

set_option maxRecDepth 100000 in
theorem rg_L_law_280 {S : Sx} {Q : Option PV → Zm → Prop} {mem : Zm} {x3 : Int}
    (h : (in32 (x3 + 1)) ∧ (0 ≤ x3 + 1 ∧ x3 + 1 < S.1) ∧ (∃ (v3 : Int) (m4 : Zm), Ct1 S mX3_limit [Aq 0, Iq ((S.2 (x3 + 1).toNat).toInt)] mem (some (Iq v3)) m4 ∧ ((in32 (x3 + 1)) ∧ (0 ≤ x3 + 1 ∧ x3 + 1 < S.1) ∧ (∃ (v8 : Int) (m9 : Zm), Ct1 S mX4_limit [Aq 34, Iq ((S.2 (x3 + 1).toNat).toInt)] m4 (some (Iq v8)) m9 ∧ ((((v3 = v8) → (PW S mL_law Q 1537 [some (Aq 103), some (Aq 0), some (Aq 34), some (Iq x3)] [] m9)) ∧ (¬ (v3 = v8) → (Q (some (Iq 0)) m9)))))))) :
    PW S mL_law Q 280 [some (Aq 103), some (Aq 0), some (Aq 34), some (Iq x3)] [] mem := by
  refine pw_aload_n eL_law_280 rfl rfl ?_
  refine pw_aload_n eL_law_281 rfl rfl ?_
  refine pw_iload_n eL_law_282 rfl rfl ?_
  refine pw_iconst eL_law_283 ⟨by decide, by decide⟩ ?_
  obtain ⟨ob1, h⟩ := h
  refine pw_iadd eL_law_284 ob1 ?_
  obtain ⟨ob2, h⟩ := h
  refine pw_scr eL_law_285 ob2 ?_
  obtain ⟨v3, m4, hc5, h⟩ := h
  refine pw_cV (z := mX3_limit) (av := [Iq ((S.2 (x3 + 1).toNat).toInt)]) (st := []) eL_law_286 lk_RL_23 rfl (by decide) (by decide) sh0 rfl rfl (Nat.le_of_ble_eq_true rfl) rfl hc5 ?_
  show PW S mL_law Q 289 [some (Aq 103), some (Aq 0), some (Aq 34), some (Iq x3)] [Iq v3] m4
  refine pw_aload_n eL_law_289 rfl rfl ?_
  refine pw_aload_n eL_law_290 rfl rfl ?_
  refine pw_iload_n eL_law_291 rfl rfl ?_
  refine pw_iconst eL_law_292 ⟨by decide, by decide⟩ ?_
  obtain ⟨ob6, h⟩ := h
  refine pw_iadd eL_law_293 ob6 ?_
  obtain ⟨ob7, h⟩ := h
  refine pw_scr eL_law_294 ob7 ?_
  obtain ⟨v8, m9, hc10, h⟩ := h
  refine pw_cV (z := mX4_limit) (av := [Iq ((S.2 (x3 + 1).toNat).toInt)]) (st := [Iq v3]) eL_law_295 lk_RL_26 rfl (by decide) (by decide) sh34 rfl rfl (Nat.le_of_ble_eq_true rfl) rfl hc10 ?_
  show PW S mL_law Q 298 [some (Aq 103), some (Aq 0), some (Aq 34), some (Iq x3)] [Iq v8, Iq v3] m9
  refine pw_icmp_eq eL_law_298 (fun c11 => ?_) (fun c11 => ?_)
  · have h := h.1 c11
    exact h
  · have h := h.2 c11
    refine pw_iconst eL_law_301 ⟨by decide, by decide⟩ ?_
    exact pw_iret eL_law_302 h

set_option maxRecDepth 100000 in
theorem rg_L_law_303 {S : Sx} {Q : Option PV → Zm → Prop} {mem : Zm} {x3 : Int}
    (h : (in32 (x3 + 1)) ∧ (0 ≤ x3 + 1 ∧ x3 + 1 < S.1) ∧ (in32 (x3 + 2)) ∧ (0 ≤ x3 + 2 ∧ x3 + 2 < S.1) ∧ (∃ (v5 : Int) (m6 : Zm), Ct1 S mX3_child [Aq 0, Iq ((S.2 (x3 + 1).toNat).toInt), Iq ((S.2 (x3 + 2).toNat).toInt)] mem (some (Iq v5)) m6 ∧ ((in32 (x3 + 1)) ∧ (0 ≤ x3 + 1 ∧ x3 + 1 < S.1) ∧ (in32 (x3 + 2)) ∧ (0 ≤ x3 + 2 ∧ x3 + 2 < S.1) ∧ (∃ (v12 : Int) (m13 : Zm), Ct1 S mX4_child [Aq 34, Iq ((S.2 (x3 + 1).toNat).toInt), Iq ((S.2 (x3 + 2).toNat).toInt)] m6 (some (Iq v12)) m13 ∧ ((((v5 = v12) → (PW S mL_law Q 1537 [some (Aq 103), some (Aq 0), some (Aq 34), some (Iq x3)] [] m13)) ∧ (¬ (v5 = v12) → (Q (some (Iq 0)) m13)))))))) :
    PW S mL_law Q 303 [some (Aq 103), some (Aq 0), some (Aq 34), some (Iq x3)] [] mem := by
  refine pw_aload_n eL_law_303 rfl rfl ?_
  refine pw_aload_n eL_law_304 rfl rfl ?_
  refine pw_iload_n eL_law_305 rfl rfl ?_
  refine pw_iconst eL_law_306 ⟨by decide, by decide⟩ ?_
  obtain ⟨ob1, h⟩ := h
  refine pw_iadd eL_law_307 ob1 ?_
  obtain ⟨ob2, h⟩ := h
  refine pw_scr eL_law_308 ob2 ?_
  refine pw_aload_n eL_law_309 rfl rfl ?_
  refine pw_iload_n eL_law_310 rfl rfl ?_
  refine pw_iconst eL_law_311 ⟨by decide, by decide⟩ ?_
  obtain ⟨ob3, h⟩ := h
  refine pw_iadd eL_law_312 ob3 ?_
  obtain ⟨ob4, h⟩ := h
  refine pw_scr eL_law_313 ob4 ?_
  obtain ⟨v5, m6, hc7, h⟩ := h
  refine pw_cV (z := mX3_child) (av := [Iq ((S.2 (x3 + 1).toNat).toInt), Iq ((S.2 (x3 + 2).toNat).toInt)]) (st := []) eL_law_314 lk_RL_27 rfl (by decide) (by decide) sh0 rfl rfl (Nat.le_of_ble_eq_true rfl) rfl hc7 ?_
  show PW S mL_law Q 317 [some (Aq 103), some (Aq 0), some (Aq 34), some (Iq x3)] [Iq v5] m6
  refine pw_aload_n eL_law_317 rfl rfl ?_
  refine pw_aload_n eL_law_318 rfl rfl ?_
  refine pw_iload_n eL_law_319 rfl rfl ?_
  refine pw_iconst eL_law_320 ⟨by decide, by decide⟩ ?_
  obtain ⟨ob8, h⟩ := h
  refine pw_iadd eL_law_321 ob8 ?_
  obtain ⟨ob9, h⟩ := h
  refine pw_scr eL_law_322 ob9 ?_
  refine pw_aload_n eL_law_323 rfl rfl ?_
  refine pw_iload_n eL_law_324 rfl rfl ?_
  refine pw_iconst eL_law_325 ⟨by decide, by decide⟩ ?_
  obtain ⟨ob10, h⟩ := h
  refine pw_iadd eL_law_326 ob10 ?_
  obtain ⟨ob11, h⟩ := h
  refine pw_scr eL_law_327 ob11 ?_
  obtain ⟨v12, m13, hc14, h⟩ := h
  refine pw_cV (z := mX4_child) (av := [Iq ((S.2 (x3 + 1).toNat).toInt), Iq ((S.2 (x3 + 2).toNat).toInt)]) (st := [Iq v5]) eL_law_328 lk_RL_30 rfl (by decide) (by decide) sh34 rfl rfl (Nat.le_of_ble_eq_true rfl) rfl hc14 ?_
  show PW S mL_law Q 331 [some (Aq 103), some (Aq 0), some (Aq 34), some (Iq x3)] [Iq v12, Iq v5] m13
  refine pw_icmp_eq eL_law_331 (fun c15 => ?_) (fun c15 => ?_)
  · have h := h.1 c15
    exact h
  · have h := h.2 c15
    refine pw_iconst eL_law_334 ⟨by decide, by decide⟩ ?_
    exact pw_iret eL_law_335 h

set_option maxRecDepth 100000 in
theorem rg_L_law_336 {S : Sx} {Q : Option PV → Zm → Prop} {mem : Zm} {x3 : Int}
    (h : (in32 (x3 + 1)) ∧ (0 ≤ x3 + 1 ∧ x3 + 1 < S.1) ∧ (in32 (x3 + 2)) ∧ (0 ≤ x3 + 2 ∧ x3 + 2 < S.1) ∧ (∃ (v5 : Int) (m6 : Zm), Ct1 S mX3_of [Aq 0, Iq ((S.2 (x3 + 1).toNat).toInt), Iq ((S.2 (x3 + 2).toNat).toInt)] mem (some (Iq v5)) m6 ∧ ((in32 (x3 + 1)) ∧ (0 ≤ x3 + 1 ∧ x3 + 1 < S.1) ∧ (in32 (x3 + 2)) ∧ (0 ≤ x3 + 2 ∧ x3 + 2 < S.1) ∧ (∃ (v12 : Int) (m13 : Zm), Ct1 S mX4_of [Aq 34, Iq ((S.2 (x3 + 1).toNat).toInt), Iq ((S.2 (x3 + 2).toNat).toInt)] m6 (some (Iq v12)) m13 ∧ ((((v5 = v12) → (PW S mL_law Q 1537 [some (Aq 103), some (Aq 0), some (Aq 34), some (Iq x3)] [] m13)) ∧ (¬ (v5 = v12) → (Q (some (Iq 0)) m13)))))))) :
    PW S mL_law Q 336 [some (Aq 103), some (Aq 0), some (Aq 34), some (Iq x3)] [] mem := by
  refine pw_aload_n eL_law_336 rfl rfl ?_
  refine pw_aload_n eL_law_337 rfl rfl ?_
  refine pw_iload_n eL_law_338 rfl rfl ?_
  refine pw_iconst eL_law_339 ⟨by decide, by decide⟩ ?_
  obtain ⟨ob1, h⟩ := h
  refine pw_iadd eL_law_340 ob1 ?_
  obtain ⟨ob2, h⟩ := h
  refine pw_scr eL_law_341 ob2 ?_
  refine pw_aload_n eL_law_342 rfl rfl ?_
  refine pw_iload_n eL_law_343 rfl rfl ?_
  refine pw_iconst eL_law_344 ⟨by decide, by decide⟩ ?_
  obtain ⟨ob3, h⟩ := h
  refine pw_iadd eL_law_345 ob3 ?_
  obtain ⟨ob4, h⟩ := h
  refine pw_scr eL_law_346 ob4 ?_
  obtain ⟨v5, m6, hc7, h⟩ := h
  refine pw_cV (z := mX3_of) (av := [Iq ((S.2 (x3 + 1).toNat).toInt), Iq ((S.2 (x3 + 2).toNat).toInt)]) (st := []) eL_law_347 lk_RL_31 rfl (by decide) (by decide) sh0 rfl rfl (Nat.le_of_ble_eq_true rfl) rfl hc7 ?_
  show PW S mL_law Q 350 [some (Aq 103), some (Aq 0), some (Aq 34), some (Iq x3)] [Iq v5] m6
  refine pw_aload_n eL_law_350 rfl rfl ?_
  refine pw_aload_n eL_law_351 rfl rfl ?_
  refine pw_iload_n eL_law_352 rfl rfl ?_
  refine pw_iconst eL_law_353 ⟨by decide, by decide⟩ ?_
  obtain ⟨ob8, h⟩ := h
  refine pw_iadd eL_law_354 ob8 ?_
  obtain ⟨ob9, h⟩ := h
  refine pw_scr eL_law_355 ob9 ?_
  refine pw_aload_n eL_law_356 rfl rfl ?_
  refine pw_iload_n eL_law_357 rfl rfl ?_
  refine pw_iconst eL_law_358 ⟨by decide, by decide⟩ ?_
  obtain ⟨ob10, h⟩ := h
  refine pw_iadd eL_law_359 ob10 ?_
  obtain ⟨ob11, h⟩ := h
  refine pw_scr eL_law_360 ob11 ?_
  obtain ⟨v12, m13, hc14, h⟩ := h
  refine pw_cV (z := mX4_of) (av := [Iq ((S.2 (x3 + 1).toNat).toInt), Iq ((S.2 (x3 + 2).toNat).toInt)]) (st := [Iq v5]) eL_law_361 lk_RL_34 rfl (by decide) (by decide) sh34 rfl rfl (Nat.le_of_ble_eq_true rfl) rfl hc14 ?_
  show PW S mL_law Q 364 [some (Aq 103), some (Aq 0), some (Aq 34), some (Iq x3)] [Iq v12, Iq v5] m13
  refine pw_icmp_eq eL_law_364 (fun c15 => ?_) (fun c15 => ?_)
  · have h := h.1 c15
    exact h
  · have h := h.2 c15
    refine pw_iconst eL_law_367 ⟨by decide, by decide⟩ ?_
    exact pw_iret eL_law_368 h

set_option maxRecDepth 100000 in
theorem rg_L_law_369 {S : Sx} {Q : Option PV → Zm → Prop} {mem : Zm} {x3 : Int}
    (h : (in32 (x3 + 1)) ∧ (0 ≤ x3 + 1 ∧ x3 + 1 < S.1) ∧ (in32 (x3 + 2)) ∧ (0 ≤ x3 + 2 ∧ x3 + 2 < S.1) ∧ (in32 (x3 + 3)) ∧ (0 ≤ x3 + 3 ∧ x3 + 3 < S.1) ∧ (∃ (v7 : Int) (m8 : Zm), Ct1 S mX3_change [Aq 0, Iq ((S.2 (x3 + 1).toNat).toInt), Iq ((S.2 (x3 + 2).toNat).toInt), Iq ((S.2 (x3 + 3).toNat).toInt)] mem (some (Iq v7)) m8 ∧ ((in32 (x3 + 1)) ∧ (0 ≤ x3 + 1 ∧ x3 + 1 < S.1) ∧ (in32 (x3 + 2)) ∧ (0 ≤ x3 + 2 ∧ x3 + 2 < S.1) ∧ (in32 (x3 + 3)) ∧ (0 ≤ x3 + 3 ∧ x3 + 3 < S.1) ∧ (∃ (v16 : Int) (m17 : Zm), Ct1 S mX4_change [Aq 34, Iq ((S.2 (x3 + 1).toNat).toInt), Iq ((S.2 (x3 + 2).toNat).toInt), Iq ((S.2 (x3 + 3).toNat).toInt)] m8 (some (Iq v16)) m17 ∧ ((((v7 = v16) → (PW S mL_law Q 1537 [some (Aq 103), some (Aq 0), some (Aq 34), some (Iq x3)] [] m17)) ∧ (¬ (v7 = v16) → (Q (some (Iq 0)) m17)))))))) :
    PW S mL_law Q 369 [some (Aq 103), some (Aq 0), some (Aq 34), some (Iq x3)] [] mem := by
  refine pw_aload_n eL_law_369 rfl rfl ?_
  refine pw_aload_n eL_law_370 rfl rfl ?_
  refine pw_iload_n eL_law_371 rfl rfl ?_
  refine pw_iconst eL_law_372 ⟨by decide, by decide⟩ ?_
  obtain ⟨ob1, h⟩ := h
  refine pw_iadd eL_law_373 ob1 ?_
  obtain ⟨ob2, h⟩ := h
  refine pw_scr eL_law_374 ob2 ?_
  refine pw_aload_n eL_law_375 rfl rfl ?_
  refine pw_iload_n eL_law_376 rfl rfl ?_
  refine pw_iconst eL_law_377 ⟨by decide, by decide⟩ ?_
  obtain ⟨ob3, h⟩ := h
  refine pw_iadd eL_law_378 ob3 ?_
  obtain ⟨ob4, h⟩ := h
  refine pw_scr eL_law_379 ob4 ?_
  refine pw_aload_n eL_law_380 rfl rfl ?_
  refine pw_iload_n eL_law_381 rfl rfl ?_
  refine pw_iconst eL_law_382 ⟨by decide, by decide⟩ ?_
  obtain ⟨ob5, h⟩ := h
  refine pw_iadd eL_law_383 ob5 ?_
  obtain ⟨ob6, h⟩ := h
  refine pw_scr eL_law_384 ob6 ?_
  obtain ⟨v7, m8, hc9, h⟩ := h
  refine pw_cV (z := mX3_change) (av := [Iq ((S.2 (x3 + 1).toNat).toInt), Iq ((S.2 (x3 + 2).toNat).toInt), Iq ((S.2 (x3 + 3).toNat).toInt)]) (st := []) eL_law_385 lk_RL_35 rfl (by decide) (by decide) sh0 rfl rfl (Nat.le_of_ble_eq_true rfl) rfl hc9 ?_
  show PW S mL_law Q 388 [some (Aq 103), some (Aq 0), some (Aq 34), some (Iq x3)] [Iq v7] m8
  refine pw_aload_n eL_law_388 rfl rfl ?_
  refine pw_aload_n eL_law_389 rfl rfl ?_
  refine pw_iload_n eL_law_390 rfl rfl ?_
  refine pw_iconst eL_law_391 ⟨by decide, by decide⟩ ?_
  obtain ⟨ob10, h⟩ := h
  refine pw_iadd eL_law_392 ob10 ?_
  obtain ⟨ob11, h⟩ := h
  refine pw_scr eL_law_393 ob11 ?_
  refine pw_aload_n eL_law_394 rfl rfl ?_
  refine pw_iload_n eL_law_395 rfl rfl ?_
  refine pw_iconst eL_law_396 ⟨by decide, by decide⟩ ?_
  obtain ⟨ob12, h⟩ := h
  refine pw_iadd eL_law_397 ob12 ?_
  obtain ⟨ob13, h⟩ := h
  refine pw_scr eL_law_398 ob13 ?_
  refine pw_aload_n eL_law_399 rfl rfl ?_
  refine pw_iload_n eL_law_400 rfl rfl ?_
  refine pw_iconst eL_law_401 ⟨by decide, by decide⟩ ?_
  obtain ⟨ob14, h⟩ := h
  refine pw_iadd eL_law_402 ob14 ?_
  obtain ⟨ob15, h⟩ := h
  refine pw_scr eL_law_403 ob15 ?_
  obtain ⟨v16, m17, hc18, h⟩ := h
  refine pw_cV (z := mX4_change) (av := [Iq ((S.2 (x3 + 1).toNat).toInt), Iq ((S.2 (x3 + 2).toNat).toInt), Iq ((S.2 (x3 + 3).toNat).toInt)]) (st := [Iq v7]) eL_law_404 lk_RL_39 rfl (by decide) (by decide) sh34 rfl rfl (Nat.le_of_ble_eq_true rfl) rfl hc18 ?_
  show PW S mL_law Q 407 [some (Aq 103), some (Aq 0), some (Aq 34), some (Iq x3)] [Iq v16, Iq v7] m17
  refine pw_icmp_eq eL_law_407 (fun c19 => ?_) (fun c19 => ?_)
  · have h := h.1 c19
    exact h
  · have h := h.2 c19
    refine pw_iconst eL_law_410 ⟨by decide, by decide⟩ ?_
    exact pw_iret eL_law_411 h

set_option maxRecDepth 100000 in
theorem rg_L_law_412 {S : Sx} {Q : Option PV → Zm → Prop} {mem : Zm} {x3 : Int}
    (h : (in32 (x3 + 1)) ∧ (0 ≤ x3 + 1 ∧ x3 + 1 < S.1) ∧ (in32 (x3 + 2)) ∧ (0 ≤ x3 + 2 ∧ x3 + 2 < S.1) ∧ (∃ (v5 : Int) (m6 : Zm), Ct1 S mX3_answer [Aq 0, Iq ((S.2 (x3 + 1).toNat).toInt), Iq ((S.2 (x3 + 2).toNat).toInt)] mem (some (Iq v5)) m6 ∧ ((in32 (x3 + 1)) ∧ (0 ≤ x3 + 1 ∧ x3 + 1 < S.1) ∧ (in32 (x3 + 2)) ∧ (0 ≤ x3 + 2 ∧ x3 + 2 < S.1) ∧ (∃ (v12 : Int) (m13 : Zm), Ct1 S mX4_answer [Aq 34, Iq ((S.2 (x3 + 1).toNat).toInt), Iq ((S.2 (x3 + 2).toNat).toInt)] m6 (some (Iq v12)) m13 ∧ ((((v5 = v12) → (PW S mL_law Q 1537 [some (Aq 103), some (Aq 0), some (Aq 34), some (Iq x3)] [] m13)) ∧ (¬ (v5 = v12) → (Q (some (Iq 0)) m13)))))))) :
    PW S mL_law Q 412 [some (Aq 103), some (Aq 0), some (Aq 34), some (Iq x3)] [] mem := by
  refine pw_aload_n eL_law_412 rfl rfl ?_
  refine pw_aload_n eL_law_413 rfl rfl ?_
  refine pw_iload_n eL_law_414 rfl rfl ?_
  refine pw_iconst eL_law_415 ⟨by decide, by decide⟩ ?_
  obtain ⟨ob1, h⟩ := h
  refine pw_iadd eL_law_416 ob1 ?_
  obtain ⟨ob2, h⟩ := h
  refine pw_scr eL_law_417 ob2 ?_
  refine pw_aload_n eL_law_418 rfl rfl ?_
  refine pw_iload_n eL_law_419 rfl rfl ?_
  refine pw_iconst eL_law_420 ⟨by decide, by decide⟩ ?_
  obtain ⟨ob3, h⟩ := h
  refine pw_iadd eL_law_421 ob3 ?_
  obtain ⟨ob4, h⟩ := h
  refine pw_scr eL_law_422 ob4 ?_
  obtain ⟨v5, m6, hc7, h⟩ := h
  refine pw_cV (z := mX3_answer) (av := [Iq ((S.2 (x3 + 1).toNat).toInt), Iq ((S.2 (x3 + 2).toNat).toInt)]) (st := []) eL_law_423 lk_RL_40 rfl (by decide) (by decide) sh0 rfl rfl (Nat.le_of_ble_eq_true rfl) rfl hc7 ?_
  show PW S mL_law Q 426 [some (Aq 103), some (Aq 0), some (Aq 34), some (Iq x3)] [Iq v5] m6
  refine pw_aload_n eL_law_426 rfl rfl ?_
  refine pw_aload_n eL_law_427 rfl rfl ?_
  refine pw_iload_n eL_law_428 rfl rfl ?_
  refine pw_iconst eL_law_429 ⟨by decide, by decide⟩ ?_
  obtain ⟨ob8, h⟩ := h
  refine pw_iadd eL_law_430 ob8 ?_
  obtain ⟨ob9, h⟩ := h
  refine pw_scr eL_law_431 ob9 ?_
  refine pw_aload_n eL_law_432 rfl rfl ?_
  refine pw_iload_n eL_law_433 rfl rfl ?_
  refine pw_iconst eL_law_434 ⟨by decide, by decide⟩ ?_
  obtain ⟨ob10, h⟩ := h
  refine pw_iadd eL_law_435 ob10 ?_
  obtain ⟨ob11, h⟩ := h
  refine pw_scr eL_law_436 ob11 ?_
  obtain ⟨v12, m13, hc14, h⟩ := h
  refine pw_cV (z := mX4_answer) (av := [Iq ((S.2 (x3 + 1).toNat).toInt), Iq ((S.2 (x3 + 2).toNat).toInt)]) (st := [Iq v5]) eL_law_437 lk_RL_43 rfl (by decide) (by decide) sh34 rfl rfl (Nat.le_of_ble_eq_true rfl) rfl hc14 ?_
  show PW S mL_law Q 440 [some (Aq 103), some (Aq 0), some (Aq 34), some (Iq x3)] [Iq v12, Iq v5] m13
  refine pw_icmp_eq eL_law_440 (fun c15 => ?_) (fun c15 => ?_)
  · have h := h.1 c15
    exact h
  · have h := h.2 c15
    refine pw_iconst eL_law_443 ⟨by decide, by decide⟩ ?_
    exact pw_iret eL_law_444 h

set_option maxRecDepth 100000 in
theorem rg_L_law_445 {S : Sx} {Q : Option PV → Zm → Prop} {mem : Zm} {x3 : Int}
    (h : (in32 (x3 + 1)) ∧ (0 ≤ x3 + 1 ∧ x3 + 1 < S.1) ∧ (in32 (x3 + 2)) ∧ (0 ≤ x3 + 2 ∧ x3 + 2 < S.1) ∧ (in32 (x3 + 3)) ∧ (0 ≤ x3 + 3 ∧ x3 + 3 < S.1) ∧ (∃ (v7 : Int) (m8 : Zm), Ct1 S mX3_slips [Aq 0, Iq ((S.2 (x3 + 1).toNat).toInt), Iq ((S.2 (x3 + 2).toNat).toInt), Iq ((S.2 (x3 + 3).toNat).toInt)] mem (some (Iq v7)) m8 ∧ ((in32 (x3 + 1)) ∧ (0 ≤ x3 + 1 ∧ x3 + 1 < S.1) ∧ (in32 (x3 + 2)) ∧ (0 ≤ x3 + 2 ∧ x3 + 2 < S.1) ∧ (in32 (x3 + 3)) ∧ (0 ≤ x3 + 3 ∧ x3 + 3 < S.1) ∧ (∃ (v16 : Int) (m17 : Zm), Ct1 S mX4_slips [Aq 34, Iq ((S.2 (x3 + 1).toNat).toInt), Iq ((S.2 (x3 + 2).toNat).toInt), Iq ((S.2 (x3 + 3).toNat).toInt)] m8 (some (Iq v16)) m17 ∧ ((((v7 = v16) → (PW S mL_law Q 1537 [some (Aq 103), some (Aq 0), some (Aq 34), some (Iq x3)] [] m17)) ∧ (¬ (v7 = v16) → (Q (some (Iq 0)) m17)))))))) :
    PW S mL_law Q 445 [some (Aq 103), some (Aq 0), some (Aq 34), some (Iq x3)] [] mem := by
  refine pw_aload_n eL_law_445 rfl rfl ?_
  refine pw_aload_n eL_law_446 rfl rfl ?_
  refine pw_iload_n eL_law_447 rfl rfl ?_
  refine pw_iconst eL_law_448 ⟨by decide, by decide⟩ ?_
  obtain ⟨ob1, h⟩ := h
  refine pw_iadd eL_law_449 ob1 ?_
  obtain ⟨ob2, h⟩ := h
  refine pw_scr eL_law_450 ob2 ?_
  refine pw_aload_n eL_law_451 rfl rfl ?_
  refine pw_iload_n eL_law_452 rfl rfl ?_
  refine pw_iconst eL_law_453 ⟨by decide, by decide⟩ ?_
  obtain ⟨ob3, h⟩ := h
  refine pw_iadd eL_law_454 ob3 ?_
  obtain ⟨ob4, h⟩ := h
  refine pw_scr eL_law_455 ob4 ?_
  refine pw_aload_n eL_law_456 rfl rfl ?_
  refine pw_iload_n eL_law_457 rfl rfl ?_
  refine pw_iconst eL_law_458 ⟨by decide, by decide⟩ ?_
  obtain ⟨ob5, h⟩ := h
  refine pw_iadd eL_law_459 ob5 ?_
  obtain ⟨ob6, h⟩ := h
  refine pw_scr eL_law_460 ob6 ?_
  obtain ⟨v7, m8, hc9, h⟩ := h
  refine pw_cV (z := mX3_slips) (av := [Iq ((S.2 (x3 + 1).toNat).toInt), Iq ((S.2 (x3 + 2).toNat).toInt), Iq ((S.2 (x3 + 3).toNat).toInt)]) (st := []) eL_law_461 lk_RL_44 rfl (by decide) (by decide) sh0 rfl rfl (Nat.le_of_ble_eq_true rfl) rfl hc9 ?_
  show PW S mL_law Q 464 [some (Aq 103), some (Aq 0), some (Aq 34), some (Iq x3)] [Iq v7] m8
  refine pw_aload_n eL_law_464 rfl rfl ?_
  refine pw_aload_n eL_law_465 rfl rfl ?_
  refine pw_iload_n eL_law_466 rfl rfl ?_
  refine pw_iconst eL_law_467 ⟨by decide, by decide⟩ ?_
  obtain ⟨ob10, h⟩ := h
  refine pw_iadd eL_law_468 ob10 ?_
  obtain ⟨ob11, h⟩ := h
  refine pw_scr eL_law_469 ob11 ?_
  refine pw_aload_n eL_law_470 rfl rfl ?_
  refine pw_iload_n eL_law_471 rfl rfl ?_
  refine pw_iconst eL_law_472 ⟨by decide, by decide⟩ ?_
  obtain ⟨ob12, h⟩ := h
  refine pw_iadd eL_law_473 ob12 ?_
  obtain ⟨ob13, h⟩ := h
  refine pw_scr eL_law_474 ob13 ?_
  refine pw_aload_n eL_law_475 rfl rfl ?_
  refine pw_iload_n eL_law_476 rfl rfl ?_
  refine pw_iconst eL_law_477 ⟨by decide, by decide⟩ ?_
  obtain ⟨ob14, h⟩ := h
  refine pw_iadd eL_law_478 ob14 ?_
  obtain ⟨ob15, h⟩ := h
  refine pw_scr eL_law_479 ob15 ?_
  obtain ⟨v16, m17, hc18, h⟩ := h
  refine pw_cV (z := mX4_slips) (av := [Iq ((S.2 (x3 + 1).toNat).toInt), Iq ((S.2 (x3 + 2).toNat).toInt), Iq ((S.2 (x3 + 3).toNat).toInt)]) (st := [Iq v7]) eL_law_480 lk_RL_47 rfl (by decide) (by decide) sh34 rfl rfl (Nat.le_of_ble_eq_true rfl) rfl hc18 ?_
  show PW S mL_law Q 483 [some (Aq 103), some (Aq 0), some (Aq 34), some (Iq x3)] [Iq v16, Iq v7] m17
  refine pw_icmp_eq eL_law_483 (fun c19 => ?_) (fun c19 => ?_)
  · have h := h.1 c19
    exact h
  · have h := h.2 c19
    refine pw_iconst eL_law_486 ⟨by decide, by decide⟩ ?_
    exact pw_iret eL_law_487 h

set_option maxRecDepth 100000 in
theorem rg_L_law_488 {S : Sx} {Q : Option PV → Zm → Prop} {mem : Zm} {x3 : Int}
    (h : (in32 (x3 + 1)) ∧ (0 ≤ x3 + 1 ∧ x3 + 1 < S.1) ∧ (in32 (x3 + 2)) ∧ (0 ≤ x3 + 2 ∧ x3 + 2 < S.1) ∧ (∃ (v5 : Int) (m6 : Zm), Ct1 S mX3_alike [Aq 0, Iq ((S.2 (x3 + 1).toNat).toInt), Iq ((S.2 (x3 + 2).toNat).toInt)] mem (some (Iq v5)) m6 ∧ ((in32 (x3 + 1)) ∧ (0 ≤ x3 + 1 ∧ x3 + 1 < S.1) ∧ (in32 (x3 + 2)) ∧ (0 ≤ x3 + 2 ∧ x3 + 2 < S.1) ∧ (∃ (v12 : Int) (m13 : Zm), Ct1 S mX4_alike [Aq 34, Iq ((S.2 (x3 + 1).toNat).toInt), Iq ((S.2 (x3 + 2).toNat).toInt)] m6 (some (Iq v12)) m13 ∧ ((((v5 = v12) → (PW S mL_law Q 1537 [some (Aq 103), some (Aq 0), some (Aq 34), some (Iq x3)] [] m13)) ∧ (¬ (v5 = v12) → (Q (some (Iq 0)) m13)))))))) :
    PW S mL_law Q 488 [some (Aq 103), some (Aq 0), some (Aq 34), some (Iq x3)] [] mem := by
  refine pw_aload_n eL_law_488 rfl rfl ?_
  refine pw_aload_n eL_law_489 rfl rfl ?_
  refine pw_iload_n eL_law_490 rfl rfl ?_
  refine pw_iconst eL_law_491 ⟨by decide, by decide⟩ ?_
  obtain ⟨ob1, h⟩ := h
  refine pw_iadd eL_law_492 ob1 ?_
  obtain ⟨ob2, h⟩ := h
  refine pw_scr eL_law_493 ob2 ?_
  refine pw_aload_n eL_law_494 rfl rfl ?_
  refine pw_iload_n eL_law_495 rfl rfl ?_
  refine pw_iconst eL_law_496 ⟨by decide, by decide⟩ ?_
  obtain ⟨ob3, h⟩ := h
  refine pw_iadd eL_law_497 ob3 ?_
  obtain ⟨ob4, h⟩ := h
  refine pw_scr eL_law_498 ob4 ?_
  obtain ⟨v5, m6, hc7, h⟩ := h
  refine pw_cV (z := mX3_alike) (av := [Iq ((S.2 (x3 + 1).toNat).toInt), Iq ((S.2 (x3 + 2).toNat).toInt)]) (st := []) eL_law_499 lk_RL_48 rfl (by decide) (by decide) sh0 rfl rfl (Nat.le_of_ble_eq_true rfl) rfl hc7 ?_
  show PW S mL_law Q 502 [some (Aq 103), some (Aq 0), some (Aq 34), some (Iq x3)] [Iq v5] m6
  refine pw_aload_n eL_law_502 rfl rfl ?_
  refine pw_aload_n eL_law_503 rfl rfl ?_
  refine pw_iload_n eL_law_504 rfl rfl ?_
  refine pw_iconst eL_law_505 ⟨by decide, by decide⟩ ?_
  obtain ⟨ob8, h⟩ := h
  refine pw_iadd eL_law_506 ob8 ?_
  obtain ⟨ob9, h⟩ := h
  refine pw_scr eL_law_507 ob9 ?_
  refine pw_aload_n eL_law_508 rfl rfl ?_
  refine pw_iload_n eL_law_509 rfl rfl ?_
  refine pw_iconst eL_law_510 ⟨by decide, by decide⟩ ?_
  obtain ⟨ob10, h⟩ := h
  refine pw_iadd eL_law_511 ob10 ?_
  obtain ⟨ob11, h⟩ := h
  refine pw_scr eL_law_512 ob11 ?_
  obtain ⟨v12, m13, hc14, h⟩ := h
  refine pw_cV (z := mX4_alike) (av := [Iq ((S.2 (x3 + 1).toNat).toInt), Iq ((S.2 (x3 + 2).toNat).toInt)]) (st := [Iq v5]) eL_law_513 lk_RL_51 rfl (by decide) (by decide) sh34 rfl rfl (Nat.le_of_ble_eq_true rfl) rfl hc14 ?_
  show PW S mL_law Q 516 [some (Aq 103), some (Aq 0), some (Aq 34), some (Iq x3)] [Iq v12, Iq v5] m13
  refine pw_icmp_eq eL_law_516 (fun c15 => ?_) (fun c15 => ?_)
  · have h := h.1 c15
    exact h
  · have h := h.2 c15
    refine pw_iconst eL_law_519 ⟨by decide, by decide⟩ ?_
    exact pw_iret eL_law_520 h

set_option maxRecDepth 100000 in
theorem rg_L_law_521 {S : Sx} {Q : Option PV → Zm → Prop} {mem : Zm} {x3 : Int}
    (h : (in32 (x3 + 1)) ∧ (0 ≤ x3 + 1 ∧ x3 + 1 < S.1) ∧ (∃ (v3 : Int) (m4 : Zm), Ct1 S mX3_go [Aq 0, Iq ((S.2 (x3 + 1).toNat).toInt)] mem (some (Iq v3)) m4 ∧ ((in32 (x3 + 1)) ∧ (0 ≤ x3 + 1 ∧ x3 + 1 < S.1) ∧ (∃ (v8 : Int) (m9 : Zm), Ct1 S mX4_go [Aq 34, Iq ((S.2 (x3 + 1).toNat).toInt)] m4 (some (Iq v8)) m9 ∧ ((((v3 = v8) → (PW S mL_law Q 1537 [some (Aq 103), some (Aq 0), some (Aq 34), some (Iq x3)] [] m9)) ∧ (¬ (v3 = v8) → (Q (some (Iq 0)) m9)))))))) :
    PW S mL_law Q 521 [some (Aq 103), some (Aq 0), some (Aq 34), some (Iq x3)] [] mem := by
  refine pw_aload_n eL_law_521 rfl rfl ?_
  refine pw_aload_n eL_law_522 rfl rfl ?_
  refine pw_iload_n eL_law_523 rfl rfl ?_
  refine pw_iconst eL_law_524 ⟨by decide, by decide⟩ ?_
  obtain ⟨ob1, h⟩ := h
  refine pw_iadd eL_law_525 ob1 ?_
  obtain ⟨ob2, h⟩ := h
  refine pw_scr eL_law_526 ob2 ?_
  obtain ⟨v3, m4, hc5, h⟩ := h
  refine pw_cV (z := mX3_go) (av := [Iq ((S.2 (x3 + 1).toNat).toInt)]) (st := []) eL_law_527 lk_RL_52 rfl (by decide) (by decide) sh0 rfl rfl (Nat.le_of_ble_eq_true rfl) rfl hc5 ?_
  show PW S mL_law Q 530 [some (Aq 103), some (Aq 0), some (Aq 34), some (Iq x3)] [Iq v3] m4
  refine pw_aload_n eL_law_530 rfl rfl ?_
  refine pw_aload_n eL_law_531 rfl rfl ?_
  refine pw_iload_n eL_law_532 rfl rfl ?_
  refine pw_iconst eL_law_533 ⟨by decide, by decide⟩ ?_
  obtain ⟨ob6, h⟩ := h
  refine pw_iadd eL_law_534 ob6 ?_
  obtain ⟨ob7, h⟩ := h
  refine pw_scr eL_law_535 ob7 ?_
  obtain ⟨v8, m9, hc10, h⟩ := h
  refine pw_cV (z := mX4_go) (av := [Iq ((S.2 (x3 + 1).toNat).toInt)]) (st := [Iq v3]) eL_law_536 lk_RL_55 rfl (by decide) (by decide) sh34 rfl rfl (Nat.le_of_ble_eq_true rfl) rfl hc10 ?_
  show PW S mL_law Q 539 [some (Aq 103), some (Aq 0), some (Aq 34), some (Iq x3)] [Iq v8, Iq v3] m9
  refine pw_icmp_eq eL_law_539 (fun c11 => ?_) (fun c11 => ?_)
  · have h := h.1 c11
    exact h
  · have h := h.2 c11
    refine pw_iconst eL_law_542 ⟨by decide, by decide⟩ ?_
    exact pw_iret eL_law_543 h

set_option maxRecDepth 100000 in
theorem rg_L_law_544 {S : Sx} {Q : Option PV → Zm → Prop} {mem : Zm} {x3 : Int}
    (h : (in32 (x3 + 1)) ∧ (0 ≤ x3 + 1 ∧ x3 + 1 < S.1) ∧ (∃ (v3 : Int) (m4 : Zm), Ct1 S mX3_now [Aq 0, Iq ((S.2 (x3 + 1).toNat).toInt)] mem (some (Iq v3)) m4 ∧ ((in32 (x3 + 1)) ∧ (0 ≤ x3 + 1 ∧ x3 + 1 < S.1) ∧ (∃ (v8 : Int) (m9 : Zm), Ct1 S mX4_now [Aq 34, Iq ((S.2 (x3 + 1).toNat).toInt)] m4 (some (Iq v8)) m9 ∧ ((((v3 = v8) → (PW S mL_law Q 1537 [some (Aq 103), some (Aq 0), some (Aq 34), some (Iq x3)] [] m9)) ∧ (¬ (v3 = v8) → (Q (some (Iq 0)) m9)))))))) :
    PW S mL_law Q 544 [some (Aq 103), some (Aq 0), some (Aq 34), some (Iq x3)] [] mem := by
  refine pw_aload_n eL_law_544 rfl rfl ?_
  refine pw_aload_n eL_law_545 rfl rfl ?_
  refine pw_iload_n eL_law_546 rfl rfl ?_
  refine pw_iconst eL_law_547 ⟨by decide, by decide⟩ ?_
  obtain ⟨ob1, h⟩ := h
  refine pw_iadd eL_law_548 ob1 ?_
  obtain ⟨ob2, h⟩ := h
  refine pw_scr eL_law_549 ob2 ?_
  obtain ⟨v3, m4, hc5, h⟩ := h
  refine pw_cV (z := mX3_now) (av := [Iq ((S.2 (x3 + 1).toNat).toInt)]) (st := []) eL_law_550 lk_RL_56 rfl (by decide) (by decide) sh0 rfl rfl (Nat.le_of_ble_eq_true rfl) rfl hc5 ?_
  show PW S mL_law Q 553 [some (Aq 103), some (Aq 0), some (Aq 34), some (Iq x3)] [Iq v3] m4
  refine pw_aload_n eL_law_553 rfl rfl ?_
  refine pw_aload_n eL_law_554 rfl rfl ?_
  refine pw_iload_n eL_law_555 rfl rfl ?_
  refine pw_iconst eL_law_556 ⟨by decide, by decide⟩ ?_
  obtain ⟨ob6, h⟩ := h
  refine pw_iadd eL_law_557 ob6 ?_
  obtain ⟨ob7, h⟩ := h
  refine pw_scr eL_law_558 ob7 ?_
  obtain ⟨v8, m9, hc10, h⟩ := h
  refine pw_cV (z := mX4_now) (av := [Iq ((S.2 (x3 + 1).toNat).toInt)]) (st := [Iq v3]) eL_law_559 lk_RL_59 rfl (by decide) (by decide) sh34 rfl rfl (Nat.le_of_ble_eq_true rfl) rfl hc10 ?_
  show PW S mL_law Q 562 [some (Aq 103), some (Aq 0), some (Aq 34), some (Iq x3)] [Iq v8, Iq v3] m9
  refine pw_icmp_eq eL_law_562 (fun c11 => ?_) (fun c11 => ?_)
  · have h := h.1 c11
    exact h
  · have h := h.2 c11
    refine pw_iconst eL_law_565 ⟨by decide, by decide⟩ ?_
    exact pw_iret eL_law_566 h

set_option maxRecDepth 100000 in
theorem rg_L_law_567 {S : Sx} {Q : Option PV → Zm → Prop} {mem : Zm} {x3 : Int}
    (h : (in32 (x3 + 1)) ∧ (0 ≤ x3 + 1 ∧ x3 + 1 < S.1) ∧ (∃ (v3 : Int) (m4 : Zm), Ct1 S mX3_chain [Aq 0, Iq ((S.2 (x3 + 1).toNat).toInt)] mem (some (Iq v3)) m4 ∧ ((in32 (x3 + 1)) ∧ (0 ≤ x3 + 1 ∧ x3 + 1 < S.1) ∧ (∃ (v8 : Int) (m9 : Zm), Ct1 S mX4_chain [Aq 34, Iq ((S.2 (x3 + 1).toNat).toInt)] m4 (some (Iq v8)) m9 ∧ ((((v3 = v8) → (PW S mL_law Q 1537 [some (Aq 103), some (Aq 0), some (Aq 34), some (Iq x3)] [] m9)) ∧ (¬ (v3 = v8) → (Q (some (Iq 0)) m9)))))))) :
    PW S mL_law Q 567 [some (Aq 103), some (Aq 0), some (Aq 34), some (Iq x3)] [] mem := by
  refine pw_aload_n eL_law_567 rfl rfl ?_
  refine pw_aload_n eL_law_568 rfl rfl ?_
  refine pw_iload_n eL_law_569 rfl rfl ?_
  refine pw_iconst eL_law_570 ⟨by decide, by decide⟩ ?_
  obtain ⟨ob1, h⟩ := h
  refine pw_iadd eL_law_571 ob1 ?_
  obtain ⟨ob2, h⟩ := h
  refine pw_scr eL_law_572 ob2 ?_
  obtain ⟨v3, m4, hc5, h⟩ := h
  refine pw_cV (z := mX3_chain) (av := [Iq ((S.2 (x3 + 1).toNat).toInt)]) (st := []) eL_law_573 lk_RL_60 rfl (by decide) (by decide) sh0 rfl rfl (Nat.le_of_ble_eq_true rfl) rfl hc5 ?_
  show PW S mL_law Q 576 [some (Aq 103), some (Aq 0), some (Aq 34), some (Iq x3)] [Iq v3] m4
  refine pw_aload_n eL_law_576 rfl rfl ?_
  refine pw_aload_n eL_law_577 rfl rfl ?_
  refine pw_iload_n eL_law_578 rfl rfl ?_
  refine pw_iconst eL_law_579 ⟨by decide, by decide⟩ ?_
  obtain ⟨ob6, h⟩ := h
  refine pw_iadd eL_law_580 ob6 ?_
  obtain ⟨ob7, h⟩ := h
  refine pw_scr eL_law_581 ob7 ?_
  obtain ⟨v8, m9, hc10, h⟩ := h
  refine pw_cV (z := mX4_chain) (av := [Iq ((S.2 (x3 + 1).toNat).toInt)]) (st := [Iq v3]) eL_law_582 lk_RL_63 rfl (by decide) (by decide) sh34 rfl rfl (Nat.le_of_ble_eq_true rfl) rfl hc10 ?_
  show PW S mL_law Q 585 [some (Aq 103), some (Aq 0), some (Aq 34), some (Iq x3)] [Iq v8, Iq v3] m9
  refine pw_icmp_eq eL_law_585 (fun c11 => ?_) (fun c11 => ?_)
  · have h := h.1 c11
    exact h
  · have h := h.2 c11
    refine pw_iconst eL_law_588 ⟨by decide, by decide⟩ ?_
    exact pw_iret eL_law_589 h

set_option maxRecDepth 100000 in
theorem rg_L_law_590 {S : Sx} {Q : Option PV → Zm → Prop} {mem : Zm} {x3 : Int}
    (h : (in32 (x3 + 1)) ∧ (0 ≤ x3 + 1 ∧ x3 + 1 < S.1) ∧ (in32 (x3 + 2)) ∧ (0 ≤ x3 + 2 ∧ x3 + 2 < S.1) ∧ (in32 (x3 + 3)) ∧ (0 ≤ x3 + 3 ∧ x3 + 3 < S.1) ∧ (∃ (v7 : Int) (m8 : Zm), Ct1 S mX3_ahead [Aq 0, Iq ((S.2 (x3 + 1).toNat).toInt), Iq ((S.2 (x3 + 2).toNat).toInt), Iq ((S.2 (x3 + 3).toNat).toInt)] mem (some (Iq v7)) m8 ∧ ((in32 (x3 + 1)) ∧ (0 ≤ x3 + 1 ∧ x3 + 1 < S.1) ∧ (in32 (x3 + 2)) ∧ (0 ≤ x3 + 2 ∧ x3 + 2 < S.1) ∧ (in32 (x3 + 3)) ∧ (0 ≤ x3 + 3 ∧ x3 + 3 < S.1) ∧ (∃ (v16 : Int) (m17 : Zm), Ct1 S mX4_ahead [Aq 34, Iq ((S.2 (x3 + 1).toNat).toInt), Iq ((S.2 (x3 + 2).toNat).toInt), Iq ((S.2 (x3 + 3).toNat).toInt)] m8 (some (Iq v16)) m17 ∧ ((((v7 = v16) → (PW S mL_law Q 1537 [some (Aq 103), some (Aq 0), some (Aq 34), some (Iq x3)] [] m17)) ∧ (¬ (v7 = v16) → (Q (some (Iq 0)) m17)))))))) :
    PW S mL_law Q 590 [some (Aq 103), some (Aq 0), some (Aq 34), some (Iq x3)] [] mem := by
  refine pw_aload_n eL_law_590 rfl rfl ?_
  refine pw_aload_n eL_law_591 rfl rfl ?_
  refine pw_iload_n eL_law_592 rfl rfl ?_
  refine pw_iconst eL_law_593 ⟨by decide, by decide⟩ ?_
  obtain ⟨ob1, h⟩ := h
  refine pw_iadd eL_law_594 ob1 ?_
  obtain ⟨ob2, h⟩ := h
  refine pw_scr eL_law_595 ob2 ?_
  refine pw_aload_n eL_law_596 rfl rfl ?_
  refine pw_iload_n eL_law_597 rfl rfl ?_
  refine pw_iconst eL_law_598 ⟨by decide, by decide⟩ ?_
  obtain ⟨ob3, h⟩ := h
  refine pw_iadd eL_law_599 ob3 ?_
  obtain ⟨ob4, h⟩ := h
  refine pw_scr eL_law_600 ob4 ?_
  refine pw_aload_n eL_law_601 rfl rfl ?_
  refine pw_iload_n eL_law_602 rfl rfl ?_
  refine pw_iconst eL_law_603 ⟨by decide, by decide⟩ ?_
  obtain ⟨ob5, h⟩ := h
  refine pw_iadd eL_law_604 ob5 ?_
  obtain ⟨ob6, h⟩ := h
  refine pw_scr eL_law_605 ob6 ?_
  obtain ⟨v7, m8, hc9, h⟩ := h
  refine pw_cV (z := mX3_ahead) (av := [Iq ((S.2 (x3 + 1).toNat).toInt), Iq ((S.2 (x3 + 2).toNat).toInt), Iq ((S.2 (x3 + 3).toNat).toInt)]) (st := []) eL_law_606 lk_RL_64 rfl (by decide) (by decide) sh0 rfl rfl (Nat.le_of_ble_eq_true rfl) rfl hc9 ?_
  show PW S mL_law Q 609 [some (Aq 103), some (Aq 0), some (Aq 34), some (Iq x3)] [Iq v7] m8
  refine pw_aload_n eL_law_609 rfl rfl ?_
  refine pw_aload_n eL_law_610 rfl rfl ?_
  refine pw_iload_n eL_law_611 rfl rfl ?_
  refine pw_iconst eL_law_612 ⟨by decide, by decide⟩ ?_
  obtain ⟨ob10, h⟩ := h
  refine pw_iadd eL_law_613 ob10 ?_
  obtain ⟨ob11, h⟩ := h
  refine pw_scr eL_law_614 ob11 ?_
  refine pw_aload_n eL_law_615 rfl rfl ?_
  refine pw_iload_n eL_law_616 rfl rfl ?_
  refine pw_iconst eL_law_617 ⟨by decide, by decide⟩ ?_
  obtain ⟨ob12, h⟩ := h
  refine pw_iadd eL_law_618 ob12 ?_
  obtain ⟨ob13, h⟩ := h
  refine pw_scr eL_law_619 ob13 ?_
  refine pw_aload_n eL_law_620 rfl rfl ?_
  refine pw_iload_n eL_law_621 rfl rfl ?_
  refine pw_iconst eL_law_622 ⟨by decide, by decide⟩ ?_
  obtain ⟨ob14, h⟩ := h
  refine pw_iadd eL_law_623 ob14 ?_
  obtain ⟨ob15, h⟩ := h
  refine pw_scr eL_law_624 ob15 ?_
  obtain ⟨v16, m17, hc18, h⟩ := h
  refine pw_cV (z := mX4_ahead) (av := [Iq ((S.2 (x3 + 1).toNat).toInt), Iq ((S.2 (x3 + 2).toNat).toInt), Iq ((S.2 (x3 + 3).toNat).toInt)]) (st := [Iq v7]) eL_law_625 lk_RL_67 rfl (by decide) (by decide) sh34 rfl rfl (Nat.le_of_ble_eq_true rfl) rfl hc18 ?_
  show PW S mL_law Q 628 [some (Aq 103), some (Aq 0), some (Aq 34), some (Iq x3)] [Iq v16, Iq v7] m17
  refine pw_icmp_eq eL_law_628 (fun c19 => ?_) (fun c19 => ?_)
  · have h := h.1 c19
    exact h
  · have h := h.2 c19
    refine pw_iconst eL_law_631 ⟨by decide, by decide⟩ ?_
    exact pw_iret eL_law_632 h

set_option maxRecDepth 100000 in
theorem rg_L_law_633 {S : Sx} {Q : Option PV → Zm → Prop} {mem : Zm} {x3 : Int}
    (h : (in32 (x3 + 1)) ∧ (0 ≤ x3 + 1 ∧ x3 + 1 < S.1) ∧ (in32 (x3 + 2)) ∧ (0 ≤ x3 + 2 ∧ x3 + 2 < S.1) ∧ (in32 (x3 + 3)) ∧ (0 ≤ x3 + 3 ∧ x3 + 3 < S.1) ∧ (∃ (v7 : Int) (m8 : Zm), Ct1 S mX3_writes [Aq 0, Iq ((S.2 (x3 + 1).toNat).toInt), Iq ((S.2 (x3 + 2).toNat).toInt), Iq ((S.2 (x3 + 3).toNat).toInt)] mem (some (Iq v7)) m8 ∧ ((in32 (x3 + 1)) ∧ (0 ≤ x3 + 1 ∧ x3 + 1 < S.1) ∧ (in32 (x3 + 2)) ∧ (0 ≤ x3 + 2 ∧ x3 + 2 < S.1) ∧ (in32 (x3 + 3)) ∧ (0 ≤ x3 + 3 ∧ x3 + 3 < S.1) ∧ (∃ (v16 : Int) (m17 : Zm), Ct1 S mX4_writes [Aq 34, Iq ((S.2 (x3 + 1).toNat).toInt), Iq ((S.2 (x3 + 2).toNat).toInt), Iq ((S.2 (x3 + 3).toNat).toInt)] m8 (some (Iq v16)) m17 ∧ ((((v7 = v16) → (PW S mL_law Q 1537 [some (Aq 103), some (Aq 0), some (Aq 34), some (Iq x3)] [] m17)) ∧ (¬ (v7 = v16) → (Q (some (Iq 0)) m17)))))))) :
    PW S mL_law Q 633 [some (Aq 103), some (Aq 0), some (Aq 34), some (Iq x3)] [] mem := by
  refine pw_aload_n eL_law_633 rfl rfl ?_
  refine pw_aload_n eL_law_634 rfl rfl ?_
  refine pw_iload_n eL_law_635 rfl rfl ?_
  refine pw_iconst eL_law_636 ⟨by decide, by decide⟩ ?_
  obtain ⟨ob1, h⟩ := h
  refine pw_iadd eL_law_637 ob1 ?_
  obtain ⟨ob2, h⟩ := h
  refine pw_scr eL_law_638 ob2 ?_
  refine pw_aload_n eL_law_639 rfl rfl ?_
  refine pw_iload_n eL_law_640 rfl rfl ?_
  refine pw_iconst eL_law_641 ⟨by decide, by decide⟩ ?_
  obtain ⟨ob3, h⟩ := h
  refine pw_iadd eL_law_642 ob3 ?_
  obtain ⟨ob4, h⟩ := h
  refine pw_scr eL_law_643 ob4 ?_
  refine pw_aload_n eL_law_644 rfl rfl ?_
  refine pw_iload_n eL_law_645 rfl rfl ?_
  refine pw_iconst eL_law_646 ⟨by decide, by decide⟩ ?_
  obtain ⟨ob5, h⟩ := h
  refine pw_iadd eL_law_647 ob5 ?_
  obtain ⟨ob6, h⟩ := h
  refine pw_scr eL_law_648 ob6 ?_
  obtain ⟨v7, m8, hc9, h⟩ := h
  refine pw_cV (z := mX3_writes) (av := [Iq ((S.2 (x3 + 1).toNat).toInt), Iq ((S.2 (x3 + 2).toNat).toInt), Iq ((S.2 (x3 + 3).toNat).toInt)]) (st := []) eL_law_649 lk_RL_68 rfl (by decide) (by decide) sh0 rfl rfl (Nat.le_of_ble_eq_true rfl) rfl hc9 ?_
  show PW S mL_law Q 652 [some (Aq 103), some (Aq 0), some (Aq 34), some (Iq x3)] [Iq v7] m8
  refine pw_aload_n eL_law_652 rfl rfl ?_
  refine pw_aload_n eL_law_653 rfl rfl ?_
  refine pw_iload_n eL_law_654 rfl rfl ?_
  refine pw_iconst eL_law_655 ⟨by decide, by decide⟩ ?_
  obtain ⟨ob10, h⟩ := h
  refine pw_iadd eL_law_656 ob10 ?_
  obtain ⟨ob11, h⟩ := h
  refine pw_scr eL_law_657 ob11 ?_
  refine pw_aload_n eL_law_658 rfl rfl ?_
  refine pw_iload_n eL_law_659 rfl rfl ?_
  refine pw_iconst eL_law_660 ⟨by decide, by decide⟩ ?_
  obtain ⟨ob12, h⟩ := h
  refine pw_iadd eL_law_661 ob12 ?_
  obtain ⟨ob13, h⟩ := h
  refine pw_scr eL_law_662 ob13 ?_
  refine pw_aload_n eL_law_663 rfl rfl ?_
  refine pw_iload_n eL_law_664 rfl rfl ?_
  refine pw_iconst eL_law_665 ⟨by decide, by decide⟩ ?_
  obtain ⟨ob14, h⟩ := h
  refine pw_iadd eL_law_666 ob14 ?_
  obtain ⟨ob15, h⟩ := h
  refine pw_scr eL_law_667 ob15 ?_
  obtain ⟨v16, m17, hc18, h⟩ := h
  refine pw_cV (z := mX4_writes) (av := [Iq ((S.2 (x3 + 1).toNat).toInt), Iq ((S.2 (x3 + 2).toNat).toInt), Iq ((S.2 (x3 + 3).toNat).toInt)]) (st := [Iq v7]) eL_law_668 lk_RL_71 rfl (by decide) (by decide) sh34 rfl rfl (Nat.le_of_ble_eq_true rfl) rfl hc18 ?_
  show PW S mL_law Q 671 [some (Aq 103), some (Aq 0), some (Aq 34), some (Iq x3)] [Iq v16, Iq v7] m17
  refine pw_icmp_eq eL_law_671 (fun c19 => ?_) (fun c19 => ?_)
  · have h := h.1 c19
    exact h
  · have h := h.2 c19
    refine pw_iconst eL_law_674 ⟨by decide, by decide⟩ ?_
    exact pw_iret eL_law_675 h

set_option maxRecDepth 100000 in
theorem rg_L_law_676 {S : Sx} {Q : Option PV → Zm → Prop} {mem : Zm} {x3 : Int}
    (h : (in32 (x3 + 1)) ∧ (0 ≤ x3 + 1 ∧ x3 + 1 < S.1) ∧ (∃ (v3 : Int) (m4 : Zm), Ct1 S mX3_caught [Aq 0, Iq ((S.2 (x3 + 1).toNat).toInt)] mem (some (Iq v3)) m4 ∧ ((in32 (x3 + 1)) ∧ (0 ≤ x3 + 1 ∧ x3 + 1 < S.1) ∧ (∃ (v8 : Int) (m9 : Zm), Ct1 S mX4_caught [Aq 34, Iq ((S.2 (x3 + 1).toNat).toInt)] m4 (some (Iq v8)) m9 ∧ ((((v3 = v8) → (PW S mL_law Q 1537 [some (Aq 103), some (Aq 0), some (Aq 34), some (Iq x3)] [] m9)) ∧ (¬ (v3 = v8) → (Q (some (Iq 0)) m9)))))))) :
    PW S mL_law Q 676 [some (Aq 103), some (Aq 0), some (Aq 34), some (Iq x3)] [] mem := by
  refine pw_aload_n eL_law_676 rfl rfl ?_
  refine pw_aload_n eL_law_677 rfl rfl ?_
  refine pw_iload_n eL_law_678 rfl rfl ?_
  refine pw_iconst eL_law_679 ⟨by decide, by decide⟩ ?_
  obtain ⟨ob1, h⟩ := h
  refine pw_iadd eL_law_680 ob1 ?_
  obtain ⟨ob2, h⟩ := h
  refine pw_scr eL_law_681 ob2 ?_
  obtain ⟨v3, m4, hc5, h⟩ := h
  refine pw_cV (z := mX3_caught) (av := [Iq ((S.2 (x3 + 1).toNat).toInt)]) (st := []) eL_law_682 lk_RL_72 rfl (by decide) (by decide) sh0 rfl rfl (Nat.le_of_ble_eq_true rfl) rfl hc5 ?_
  show PW S mL_law Q 685 [some (Aq 103), some (Aq 0), some (Aq 34), some (Iq x3)] [Iq v3] m4
  refine pw_aload_n eL_law_685 rfl rfl ?_
  refine pw_aload_n eL_law_686 rfl rfl ?_
  refine pw_iload_n eL_law_687 rfl rfl ?_
  refine pw_iconst eL_law_688 ⟨by decide, by decide⟩ ?_
  obtain ⟨ob6, h⟩ := h
  refine pw_iadd eL_law_689 ob6 ?_
  obtain ⟨ob7, h⟩ := h
  refine pw_scr eL_law_690 ob7 ?_
  obtain ⟨v8, m9, hc10, h⟩ := h
  refine pw_cV (z := mX4_caught) (av := [Iq ((S.2 (x3 + 1).toNat).toInt)]) (st := [Iq v3]) eL_law_691 lk_RL_75 rfl (by decide) (by decide) sh34 rfl rfl (Nat.le_of_ble_eq_true rfl) rfl hc10 ?_
  show PW S mL_law Q 694 [some (Aq 103), some (Aq 0), some (Aq 34), some (Iq x3)] [Iq v8, Iq v3] m9
  refine pw_icmp_eq eL_law_694 (fun c11 => ?_) (fun c11 => ?_)
  · have h := h.1 c11
    exact h
  · have h := h.2 c11
    refine pw_iconst eL_law_697 ⟨by decide, by decide⟩ ?_
    exact pw_iret eL_law_698 h

set_option maxRecDepth 100000 in
theorem rg_L_law_699 {S : Sx} {Q : Option PV → Zm → Prop} {mem : Zm} {x3 : Int}
    (h : (in32 (x3 + 1)) ∧ (0 ≤ x3 + 1 ∧ x3 + 1 < S.1) ∧ (in32 (x3 + 2)) ∧ (0 ≤ x3 + 2 ∧ x3 + 2 < S.1) ∧ (∃ (v5 : Int) (m6 : Zm), Ct1 S mX3_when [Aq 0, Iq ((S.2 (x3 + 1).toNat).toInt), Iq ((S.2 (x3 + 2).toNat).toInt)] mem (some (Iq v5)) m6 ∧ ((in32 (x3 + 1)) ∧ (0 ≤ x3 + 1 ∧ x3 + 1 < S.1) ∧ (in32 (x3 + 2)) ∧ (0 ≤ x3 + 2 ∧ x3 + 2 < S.1) ∧ (∃ (v12 : Int) (m13 : Zm), Ct1 S mX4_when [Aq 34, Iq ((S.2 (x3 + 1).toNat).toInt), Iq ((S.2 (x3 + 2).toNat).toInt)] m6 (some (Iq v12)) m13 ∧ ((((v5 = v12) → (PW S mL_law Q 1537 [some (Aq 103), some (Aq 0), some (Aq 34), some (Iq x3)] [] m13)) ∧ (¬ (v5 = v12) → (Q (some (Iq 0)) m13)))))))) :
    PW S mL_law Q 699 [some (Aq 103), some (Aq 0), some (Aq 34), some (Iq x3)] [] mem := by
  refine pw_aload_n eL_law_699 rfl rfl ?_
  refine pw_aload_n eL_law_700 rfl rfl ?_
  refine pw_iload_n eL_law_701 rfl rfl ?_
  refine pw_iconst eL_law_702 ⟨by decide, by decide⟩ ?_
  obtain ⟨ob1, h⟩ := h
  refine pw_iadd eL_law_703 ob1 ?_
  obtain ⟨ob2, h⟩ := h
  refine pw_scr eL_law_704 ob2 ?_
  refine pw_aload_n eL_law_705 rfl rfl ?_
  refine pw_iload_n eL_law_706 rfl rfl ?_
  refine pw_iconst eL_law_707 ⟨by decide, by decide⟩ ?_
  obtain ⟨ob3, h⟩ := h
  refine pw_iadd eL_law_708 ob3 ?_
  obtain ⟨ob4, h⟩ := h
  refine pw_scr eL_law_709 ob4 ?_
  obtain ⟨v5, m6, hc7, h⟩ := h
  refine pw_cV (z := mX3_when) (av := [Iq ((S.2 (x3 + 1).toNat).toInt), Iq ((S.2 (x3 + 2).toNat).toInt)]) (st := []) eL_law_710 lk_RL_76 rfl (by decide) (by decide) sh0 rfl rfl (Nat.le_of_ble_eq_true rfl) rfl hc7 ?_
  show PW S mL_law Q 713 [some (Aq 103), some (Aq 0), some (Aq 34), some (Iq x3)] [Iq v5] m6
  refine pw_aload_n eL_law_713 rfl rfl ?_
  refine pw_aload_n eL_law_714 rfl rfl ?_
  refine pw_iload_n eL_law_715 rfl rfl ?_
  refine pw_iconst eL_law_716 ⟨by decide, by decide⟩ ?_
  obtain ⟨ob8, h⟩ := h
  refine pw_iadd eL_law_717 ob8 ?_
  obtain ⟨ob9, h⟩ := h
  refine pw_scr eL_law_718 ob9 ?_
  refine pw_aload_n eL_law_719 rfl rfl ?_
  refine pw_iload_n eL_law_720 rfl rfl ?_
  refine pw_iconst eL_law_721 ⟨by decide, by decide⟩ ?_
  obtain ⟨ob10, h⟩ := h
  refine pw_iadd eL_law_722 ob10 ?_
  obtain ⟨ob11, h⟩ := h
  refine pw_scr eL_law_723 ob11 ?_
  obtain ⟨v12, m13, hc14, h⟩ := h
  refine pw_cV (z := mX4_when) (av := [Iq ((S.2 (x3 + 1).toNat).toInt), Iq ((S.2 (x3 + 2).toNat).toInt)]) (st := [Iq v5]) eL_law_724 lk_RL_79 rfl (by decide) (by decide) sh34 rfl rfl (Nat.le_of_ble_eq_true rfl) rfl hc14 ?_
  show PW S mL_law Q 727 [some (Aq 103), some (Aq 0), some (Aq 34), some (Iq x3)] [Iq v12, Iq v5] m13
  refine pw_icmp_eq eL_law_727 (fun c15 => ?_) (fun c15 => ?_)
  · have h := h.1 c15
    exact h
  · have h := h.2 c15
    refine pw_iconst eL_law_730 ⟨by decide, by decide⟩ ?_
    exact pw_iret eL_law_731 h

set_option maxRecDepth 100000 in
theorem rg_L_law_732 {S : Sx} {Q : Option PV → Zm → Prop} {mem : Zm} {x3 : Int}
    (h : (in32 (x3 + 1)) ∧ (0 ≤ x3 + 1 ∧ x3 + 1 < S.1) ∧ (in32 (x3 + 2)) ∧ (0 ≤ x3 + 2 ∧ x3 + 2 < S.1) ∧ (∃ (v5 : Int) (m6 : Zm), Ct1 S mX3_copyFrom [Aq 0, Iq ((S.2 (x3 + 1).toNat).toInt), Iq ((S.2 (x3 + 2).toNat).toInt)] mem (some (Iq v5)) m6 ∧ ((in32 (x3 + 1)) ∧ (0 ≤ x3 + 1 ∧ x3 + 1 < S.1) ∧ (in32 (x3 + 2)) ∧ (0 ≤ x3 + 2 ∧ x3 + 2 < S.1) ∧ (∃ (v12 : Int) (m13 : Zm), Ct1 S mX4_copyFrom [Aq 34, Iq ((S.2 (x3 + 1).toNat).toInt), Iq ((S.2 (x3 + 2).toNat).toInt)] m6 (some (Iq v12)) m13 ∧ ((((v5 = v12) → (PW S mL_law Q 1537 [some (Aq 103), some (Aq 0), some (Aq 34), some (Iq x3)] [] m13)) ∧ (¬ (v5 = v12) → (Q (some (Iq 0)) m13)))))))) :
    PW S mL_law Q 732 [some (Aq 103), some (Aq 0), some (Aq 34), some (Iq x3)] [] mem := by
  refine pw_aload_n eL_law_732 rfl rfl ?_
  refine pw_aload_n eL_law_733 rfl rfl ?_
  refine pw_iload_n eL_law_734 rfl rfl ?_
  refine pw_iconst eL_law_735 ⟨by decide, by decide⟩ ?_
  obtain ⟨ob1, h⟩ := h
  refine pw_iadd eL_law_736 ob1 ?_
  obtain ⟨ob2, h⟩ := h
  refine pw_scr eL_law_737 ob2 ?_
  refine pw_aload_n eL_law_738 rfl rfl ?_
  refine pw_iload_n eL_law_739 rfl rfl ?_
  refine pw_iconst eL_law_740 ⟨by decide, by decide⟩ ?_
  obtain ⟨ob3, h⟩ := h
  refine pw_iadd eL_law_741 ob3 ?_
  obtain ⟨ob4, h⟩ := h
  refine pw_scr eL_law_742 ob4 ?_
  obtain ⟨v5, m6, hc7, h⟩ := h
  refine pw_cV (z := mX3_copyFrom) (av := [Iq ((S.2 (x3 + 1).toNat).toInt), Iq ((S.2 (x3 + 2).toNat).toInt)]) (st := []) eL_law_743 lk_RL_80 rfl (by decide) (by decide) sh0 rfl rfl (Nat.le_of_ble_eq_true rfl) rfl hc7 ?_
  show PW S mL_law Q 746 [some (Aq 103), some (Aq 0), some (Aq 34), some (Iq x3)] [Iq v5] m6
  refine pw_aload_n eL_law_746 rfl rfl ?_
  refine pw_aload_n eL_law_747 rfl rfl ?_
  refine pw_iload_n eL_law_748 rfl rfl ?_
  refine pw_iconst eL_law_749 ⟨by decide, by decide⟩ ?_
  obtain ⟨ob8, h⟩ := h
  refine pw_iadd eL_law_750 ob8 ?_
  obtain ⟨ob9, h⟩ := h
  refine pw_scr eL_law_751 ob9 ?_
  refine pw_aload_n eL_law_752 rfl rfl ?_
  refine pw_iload_n eL_law_753 rfl rfl ?_
  refine pw_iconst eL_law_754 ⟨by decide, by decide⟩ ?_
  obtain ⟨ob10, h⟩ := h
  refine pw_iadd eL_law_755 ob10 ?_
  obtain ⟨ob11, h⟩ := h
  refine pw_scr eL_law_756 ob11 ?_
  obtain ⟨v12, m13, hc14, h⟩ := h
  refine pw_cV (z := mX4_copyFrom) (av := [Iq ((S.2 (x3 + 1).toNat).toInt), Iq ((S.2 (x3 + 2).toNat).toInt)]) (st := [Iq v5]) eL_law_757 lk_RL_83 rfl (by decide) (by decide) sh34 rfl rfl (Nat.le_of_ble_eq_true rfl) rfl hc14 ?_
  show PW S mL_law Q 760 [some (Aq 103), some (Aq 0), some (Aq 34), some (Iq x3)] [Iq v12, Iq v5] m13
  refine pw_icmp_eq eL_law_760 (fun c15 => ?_) (fun c15 => ?_)
  · have h := h.1 c15
    exact h
  · have h := h.2 c15
    refine pw_iconst eL_law_763 ⟨by decide, by decide⟩ ?_
    exact pw_iret eL_law_764 h

set_option maxRecDepth 100000 in
theorem rg_L_law_765 {S : Sx} {Q : Option PV → Zm → Prop} {mem : Zm} {x3 : Int}
    (h : (in32 (x3 + 1)) ∧ (0 ≤ x3 + 1 ∧ x3 + 1 < S.1) ∧ (in32 (x3 + 2)) ∧ (0 ≤ x3 + 2 ∧ x3 + 2 < S.1) ∧ (∃ (v5 : Int) (m6 : Zm), Ct1 S mX3_kindFor [Aq 0, Iq ((S.2 (x3 + 1).toNat).toInt), Iq ((S.2 (x3 + 2).toNat).toInt)] mem (some (Iq v5)) m6 ∧ ((in32 (x3 + 1)) ∧ (0 ≤ x3 + 1 ∧ x3 + 1 < S.1) ∧ (in32 (x3 + 2)) ∧ (0 ≤ x3 + 2 ∧ x3 + 2 < S.1) ∧ (∃ (v12 : Int) (m13 : Zm), Ct1 S mX4_kindFor [Aq 34, Iq ((S.2 (x3 + 1).toNat).toInt), Iq ((S.2 (x3 + 2).toNat).toInt)] m6 (some (Iq v12)) m13 ∧ ((((v5 = v12) → (PW S mL_law Q 1537 [some (Aq 103), some (Aq 0), some (Aq 34), some (Iq x3)] [] m13)) ∧ (¬ (v5 = v12) → (Q (some (Iq 0)) m13)))))))) :
    PW S mL_law Q 765 [some (Aq 103), some (Aq 0), some (Aq 34), some (Iq x3)] [] mem := by
  refine pw_aload_n eL_law_765 rfl rfl ?_
  refine pw_aload_n eL_law_766 rfl rfl ?_
  refine pw_iload_n eL_law_767 rfl rfl ?_
  refine pw_iconst eL_law_768 ⟨by decide, by decide⟩ ?_
  obtain ⟨ob1, h⟩ := h
  refine pw_iadd eL_law_769 ob1 ?_
  obtain ⟨ob2, h⟩ := h
  refine pw_scr eL_law_770 ob2 ?_
  refine pw_aload_n eL_law_771 rfl rfl ?_
  refine pw_iload_n eL_law_772 rfl rfl ?_
  refine pw_iconst eL_law_773 ⟨by decide, by decide⟩ ?_
  obtain ⟨ob3, h⟩ := h
  refine pw_iadd eL_law_774 ob3 ?_
  obtain ⟨ob4, h⟩ := h
  refine pw_scr eL_law_775 ob4 ?_
  obtain ⟨v5, m6, hc7, h⟩ := h
  refine pw_cV (z := mX3_kindFor) (av := [Iq ((S.2 (x3 + 1).toNat).toInt), Iq ((S.2 (x3 + 2).toNat).toInt)]) (st := []) eL_law_776 lk_RL_84 rfl (by decide) (by decide) sh0 rfl rfl (Nat.le_of_ble_eq_true rfl) rfl hc7 ?_
  show PW S mL_law Q 779 [some (Aq 103), some (Aq 0), some (Aq 34), some (Iq x3)] [Iq v5] m6
  refine pw_aload_n eL_law_779 rfl rfl ?_
  refine pw_aload_n eL_law_780 rfl rfl ?_
  refine pw_iload_n eL_law_781 rfl rfl ?_
  refine pw_iconst eL_law_782 ⟨by decide, by decide⟩ ?_
  obtain ⟨ob8, h⟩ := h
  refine pw_iadd eL_law_783 ob8 ?_
  obtain ⟨ob9, h⟩ := h
  refine pw_scr eL_law_784 ob9 ?_
  refine pw_aload_n eL_law_785 rfl rfl ?_
  refine pw_iload_n eL_law_786 rfl rfl ?_
  refine pw_iconst eL_law_787 ⟨by decide, by decide⟩ ?_
  obtain ⟨ob10, h⟩ := h
  refine pw_iadd eL_law_788 ob10 ?_
  obtain ⟨ob11, h⟩ := h
  refine pw_scr eL_law_789 ob11 ?_
  obtain ⟨v12, m13, hc14, h⟩ := h
  refine pw_cV (z := mX4_kindFor) (av := [Iq ((S.2 (x3 + 1).toNat).toInt), Iq ((S.2 (x3 + 2).toNat).toInt)]) (st := [Iq v5]) eL_law_790 lk_RL_87 rfl (by decide) (by decide) sh34 rfl rfl (Nat.le_of_ble_eq_true rfl) rfl hc14 ?_
  show PW S mL_law Q 793 [some (Aq 103), some (Aq 0), some (Aq 34), some (Iq x3)] [Iq v12, Iq v5] m13
  refine pw_icmp_eq eL_law_793 (fun c15 => ?_) (fun c15 => ?_)
  · have h := h.1 c15
    exact h
  · have h := h.2 c15
    refine pw_iconst eL_law_796 ⟨by decide, by decide⟩ ?_
    exact pw_iret eL_law_797 h

set_option maxRecDepth 100000 in
theorem rg_L_law_798 {S : Sx} {Q : Option PV → Zm → Prop} {mem : Zm} {x3 : Int}
    (h : (in32 (x3 + 1)) ∧ (0 ≤ x3 + 1 ∧ x3 + 1 < S.1) ∧ (in32 (x3 + 2)) ∧ (0 ≤ x3 + 2 ∧ x3 + 2 < S.1) ∧ (∃ (v5 : Int) (m6 : Zm), Ct1 S mX3_learn [Aq 0, Iq ((S.2 (x3 + 1).toNat).toInt), Iq ((S.2 (x3 + 2).toNat).toInt)] mem (some (Iq v5)) m6 ∧ ((in32 (x3 + 1)) ∧ (0 ≤ x3 + 1 ∧ x3 + 1 < S.1) ∧ (in32 (x3 + 2)) ∧ (0 ≤ x3 + 2 ∧ x3 + 2 < S.1) ∧ (∃ (v12 : Int) (m13 : Zm), Ct1 S mX4_learn [Aq 34, Iq ((S.2 (x3 + 1).toNat).toInt), Iq ((S.2 (x3 + 2).toNat).toInt)] m6 (some (Iq v12)) m13 ∧ ((((v5 = v12) → (PW S mL_law Q 1537 [some (Aq 103), some (Aq 0), some (Aq 34), some (Iq x3)] [] m13)) ∧ (¬ (v5 = v12) → (Q (some (Iq 0)) m13)))))))) :
    PW S mL_law Q 798 [some (Aq 103), some (Aq 0), some (Aq 34), some (Iq x3)] [] mem := by
  refine pw_aload_n eL_law_798 rfl rfl ?_
  refine pw_aload_n eL_law_799 rfl rfl ?_
  refine pw_iload_n eL_law_800 rfl rfl ?_
  refine pw_iconst eL_law_801 ⟨by decide, by decide⟩ ?_
  obtain ⟨ob1, h⟩ := h
  refine pw_iadd eL_law_802 ob1 ?_
  obtain ⟨ob2, h⟩ := h
  refine pw_scr eL_law_803 ob2 ?_
  refine pw_aload_n eL_law_804 rfl rfl ?_
  refine pw_iload_n eL_law_805 rfl rfl ?_
  refine pw_iconst eL_law_806 ⟨by decide, by decide⟩ ?_
  obtain ⟨ob3, h⟩ := h
  refine pw_iadd eL_law_807 ob3 ?_
  obtain ⟨ob4, h⟩ := h
  refine pw_scr eL_law_808 ob4 ?_
  obtain ⟨v5, m6, hc7, h⟩ := h
  refine pw_cV (z := mX3_learn) (av := [Iq ((S.2 (x3 + 1).toNat).toInt), Iq ((S.2 (x3 + 2).toNat).toInt)]) (st := []) eL_law_809 lk_RL_88 rfl (by decide) (by decide) sh0 rfl rfl (Nat.le_of_ble_eq_true rfl) rfl hc7 ?_
  show PW S mL_law Q 812 [some (Aq 103), some (Aq 0), some (Aq 34), some (Iq x3)] [Iq v5] m6
  refine pw_aload_n eL_law_812 rfl rfl ?_
  refine pw_aload_n eL_law_813 rfl rfl ?_
  refine pw_iload_n eL_law_814 rfl rfl ?_
  refine pw_iconst eL_law_815 ⟨by decide, by decide⟩ ?_
  obtain ⟨ob8, h⟩ := h
  refine pw_iadd eL_law_816 ob8 ?_
  obtain ⟨ob9, h⟩ := h
  refine pw_scr eL_law_817 ob9 ?_
  refine pw_aload_n eL_law_818 rfl rfl ?_
  refine pw_iload_n eL_law_819 rfl rfl ?_
  refine pw_iconst eL_law_820 ⟨by decide, by decide⟩ ?_
  obtain ⟨ob10, h⟩ := h
  refine pw_iadd eL_law_821 ob10 ?_
  obtain ⟨ob11, h⟩ := h
  refine pw_scr eL_law_822 ob11 ?_
  obtain ⟨v12, m13, hc14, h⟩ := h
  refine pw_cV (z := mX4_learn) (av := [Iq ((S.2 (x3 + 1).toNat).toInt), Iq ((S.2 (x3 + 2).toNat).toInt)]) (st := [Iq v5]) eL_law_823 lk_RL_91 rfl (by decide) (by decide) sh34 rfl rfl (Nat.le_of_ble_eq_true rfl) rfl hc14 ?_
  show PW S mL_law Q 826 [some (Aq 103), some (Aq 0), some (Aq 34), some (Iq x3)] [Iq v12, Iq v5] m13
  refine pw_icmp_eq eL_law_826 (fun c15 => ?_) (fun c15 => ?_)
  · have h := h.1 c15
    exact h
  · have h := h.2 c15
    refine pw_iconst eL_law_829 ⟨by decide, by decide⟩ ?_
    exact pw_iret eL_law_830 h

set_option maxRecDepth 100000 in
theorem rg_L_law_831 {S : Sx} {Q : Option PV → Zm → Prop} {mem : Zm} {x3 : Int}
    (h : (in32 (x3 + 1)) ∧ (0 ≤ x3 + 1 ∧ x3 + 1 < S.1) ∧ (∃ (v3 : Int) (m4 : Zm), Ct1 S mX3_limitFor [Aq 0, Iq ((S.2 (x3 + 1).toNat).toInt)] mem (some (Iq v3)) m4 ∧ ((in32 (x3 + 1)) ∧ (0 ≤ x3 + 1 ∧ x3 + 1 < S.1) ∧ (∃ (v8 : Int) (m9 : Zm), Ct1 S mX4_limitFor [Aq 34, Iq ((S.2 (x3 + 1).toNat).toInt)] m4 (some (Iq v8)) m9 ∧ ((((v3 = v8) → (PW S mL_law Q 1537 [some (Aq 103), some (Aq 0), some (Aq 34), some (Iq x3)] [] m9)) ∧ (¬ (v3 = v8) → (Q (some (Iq 0)) m9)))))))) :
    PW S mL_law Q 831 [some (Aq 103), some (Aq 0), some (Aq 34), some (Iq x3)] [] mem := by
  refine pw_aload_n eL_law_831 rfl rfl ?_
  refine pw_aload_n eL_law_832 rfl rfl ?_
  refine pw_iload_n eL_law_833 rfl rfl ?_
  refine pw_iconst eL_law_834 ⟨by decide, by decide⟩ ?_
  obtain ⟨ob1, h⟩ := h
  refine pw_iadd eL_law_835 ob1 ?_
  obtain ⟨ob2, h⟩ := h
  refine pw_scr eL_law_836 ob2 ?_
  obtain ⟨v3, m4, hc5, h⟩ := h
  refine pw_cV (z := mX3_limitFor) (av := [Iq ((S.2 (x3 + 1).toNat).toInt)]) (st := []) eL_law_837 lk_RL_92 rfl (by decide) (by decide) sh0 rfl rfl (Nat.le_of_ble_eq_true rfl) rfl hc5 ?_
  show PW S mL_law Q 840 [some (Aq 103), some (Aq 0), some (Aq 34), some (Iq x3)] [Iq v3] m4
  refine pw_aload_n eL_law_840 rfl rfl ?_
  refine pw_aload_n eL_law_841 rfl rfl ?_
  refine pw_iload_n eL_law_842 rfl rfl ?_
  refine pw_iconst eL_law_843 ⟨by decide, by decide⟩ ?_
  obtain ⟨ob6, h⟩ := h
  refine pw_iadd eL_law_844 ob6 ?_
  obtain ⟨ob7, h⟩ := h
  refine pw_scr eL_law_845 ob7 ?_
  obtain ⟨v8, m9, hc10, h⟩ := h
  refine pw_cV (z := mX4_limitFor) (av := [Iq ((S.2 (x3 + 1).toNat).toInt)]) (st := [Iq v3]) eL_law_846 lk_RL_95 rfl (by decide) (by decide) sh34 rfl rfl (Nat.le_of_ble_eq_true rfl) rfl hc10 ?_
  show PW S mL_law Q 849 [some (Aq 103), some (Aq 0), some (Aq 34), some (Iq x3)] [Iq v8, Iq v3] m9
  refine pw_icmp_eq eL_law_849 (fun c11 => ?_) (fun c11 => ?_)
  · have h := h.1 c11
    exact h
  · have h := h.2 c11
    refine pw_iconst eL_law_852 ⟨by decide, by decide⟩ ?_
    exact pw_iret eL_law_853 h

set_option maxRecDepth 100000 in
theorem rg_L_law_854 {S : Sx} {Q : Option PV → Zm → Prop} {mem : Zm} {x3 : Int}
    (h : (in32 (x3 + 1)) ∧ (0 ≤ x3 + 1 ∧ x3 + 1 < S.1) ∧ (∃ (v3 : Int) (m4 : Zm), Ct1 S mX3_forbid [Aq 0, Iq ((S.2 (x3 + 1).toNat).toInt)] mem (some (Iq v3)) m4 ∧ ((in32 (x3 + 1)) ∧ (0 ≤ x3 + 1 ∧ x3 + 1 < S.1) ∧ (∃ (v8 : Int) (m9 : Zm), Ct1 S mX4_forbid [Aq 34, Iq ((S.2 (x3 + 1).toNat).toInt)] m4 (some (Iq v8)) m9 ∧ ((((v3 = v8) → (PW S mL_law Q 1537 [some (Aq 103), some (Aq 0), some (Aq 34), some (Iq x3)] [] m9)) ∧ (¬ (v3 = v8) → (Q (some (Iq 0)) m9)))))))) :
    PW S mL_law Q 854 [some (Aq 103), some (Aq 0), some (Aq 34), some (Iq x3)] [] mem := by
  refine pw_aload_n eL_law_854 rfl rfl ?_
  refine pw_aload_n eL_law_855 rfl rfl ?_
  refine pw_iload_n eL_law_856 rfl rfl ?_
  refine pw_iconst eL_law_857 ⟨by decide, by decide⟩ ?_
  obtain ⟨ob1, h⟩ := h
  refine pw_iadd eL_law_858 ob1 ?_
  obtain ⟨ob2, h⟩ := h
  refine pw_scr eL_law_859 ob2 ?_
  obtain ⟨v3, m4, hc5, h⟩ := h
  refine pw_cV (z := mX3_forbid) (av := [Iq ((S.2 (x3 + 1).toNat).toInt)]) (st := []) eL_law_860 lk_RL_96 rfl (by decide) (by decide) sh0 rfl rfl (Nat.le_of_ble_eq_true rfl) rfl hc5 ?_
  show PW S mL_law Q 863 [some (Aq 103), some (Aq 0), some (Aq 34), some (Iq x3)] [Iq v3] m4
  refine pw_aload_n eL_law_863 rfl rfl ?_
  refine pw_aload_n eL_law_864 rfl rfl ?_
  refine pw_iload_n eL_law_865 rfl rfl ?_
  refine pw_iconst eL_law_866 ⟨by decide, by decide⟩ ?_
  obtain ⟨ob6, h⟩ := h
  refine pw_iadd eL_law_867 ob6 ?_
  obtain ⟨ob7, h⟩ := h
  refine pw_scr eL_law_868 ob7 ?_
  obtain ⟨v8, m9, hc10, h⟩ := h
  refine pw_cV (z := mX4_forbid) (av := [Iq ((S.2 (x3 + 1).toNat).toInt)]) (st := [Iq v3]) eL_law_869 lk_RL_99 rfl (by decide) (by decide) sh34 rfl rfl (Nat.le_of_ble_eq_true rfl) rfl hc10 ?_
  show PW S mL_law Q 872 [some (Aq 103), some (Aq 0), some (Aq 34), some (Iq x3)] [Iq v8, Iq v3] m9
  refine pw_icmp_eq eL_law_872 (fun c11 => ?_) (fun c11 => ?_)
  · have h := h.1 c11
    exact h
  · have h := h.2 c11
    refine pw_iconst eL_law_875 ⟨by decide, by decide⟩ ?_
    exact pw_iret eL_law_876 h

set_option maxRecDepth 100000 in
theorem rg_L_law_877 {S : Sx} {Q : Option PV → Zm → Prop} {mem : Zm} {x3 : Int}
    (h : (in32 (x3 + 1)) ∧ (0 ≤ x3 + 1 ∧ x3 + 1 < S.1) ∧ (in32 (x3 + 2)) ∧ (0 ≤ x3 + 2 ∧ x3 + 2 < S.1) ∧ (∃ (v5 : Int) (m6 : Zm), Ct1 S mX3_biscuitsFor [Aq 0, Iq ((S.2 (x3 + 1).toNat).toInt), Iq ((S.2 (x3 + 2).toNat).toInt)] mem (some (Iq v5)) m6 ∧ ((in32 (x3 + 1)) ∧ (0 ≤ x3 + 1 ∧ x3 + 1 < S.1) ∧ (in32 (x3 + 2)) ∧ (0 ≤ x3 + 2 ∧ x3 + 2 < S.1) ∧ (∃ (v12 : Int) (m13 : Zm), Ct1 S mX4_biscuitsFor [Aq 34, Iq ((S.2 (x3 + 1).toNat).toInt), Iq ((S.2 (x3 + 2).toNat).toInt)] m6 (some (Iq v12)) m13 ∧ ((((v5 = v12) → (PW S mL_law Q 1537 [some (Aq 103), some (Aq 0), some (Aq 34), some (Iq x3)] [] m13)) ∧ (¬ (v5 = v12) → (Q (some (Iq 0)) m13)))))))) :
    PW S mL_law Q 877 [some (Aq 103), some (Aq 0), some (Aq 34), some (Iq x3)] [] mem := by
  refine pw_aload_n eL_law_877 rfl rfl ?_
  refine pw_aload_n eL_law_878 rfl rfl ?_
  refine pw_iload_n eL_law_879 rfl rfl ?_
  refine pw_iconst eL_law_880 ⟨by decide, by decide⟩ ?_
  obtain ⟨ob1, h⟩ := h
  refine pw_iadd eL_law_881 ob1 ?_
  obtain ⟨ob2, h⟩ := h
  refine pw_scr eL_law_882 ob2 ?_
  refine pw_aload_n eL_law_883 rfl rfl ?_
  refine pw_iload_n eL_law_884 rfl rfl ?_
  refine pw_iconst eL_law_885 ⟨by decide, by decide⟩ ?_
  obtain ⟨ob3, h⟩ := h
  refine pw_iadd eL_law_886 ob3 ?_
  obtain ⟨ob4, h⟩ := h
  refine pw_scr eL_law_887 ob4 ?_
  obtain ⟨v5, m6, hc7, h⟩ := h
  refine pw_cV (z := mX3_biscuitsFor) (av := [Iq ((S.2 (x3 + 1).toNat).toInt), Iq ((S.2 (x3 + 2).toNat).toInt)]) (st := []) eL_law_888 lk_RL_100 rfl (by decide) (by decide) sh0 rfl rfl (Nat.le_of_ble_eq_true rfl) rfl hc7 ?_
  show PW S mL_law Q 891 [some (Aq 103), some (Aq 0), some (Aq 34), some (Iq x3)] [Iq v5] m6
  refine pw_aload_n eL_law_891 rfl rfl ?_
  refine pw_aload_n eL_law_892 rfl rfl ?_
  refine pw_iload_n eL_law_893 rfl rfl ?_
  refine pw_iconst eL_law_894 ⟨by decide, by decide⟩ ?_
  obtain ⟨ob8, h⟩ := h
  refine pw_iadd eL_law_895 ob8 ?_
  obtain ⟨ob9, h⟩ := h
  refine pw_scr eL_law_896 ob9 ?_
  refine pw_aload_n eL_law_897 rfl rfl ?_
  refine pw_iload_n eL_law_898 rfl rfl ?_
  refine pw_iconst eL_law_899 ⟨by decide, by decide⟩ ?_
  obtain ⟨ob10, h⟩ := h
  refine pw_iadd eL_law_900 ob10 ?_
  obtain ⟨ob11, h⟩ := h
  refine pw_scr eL_law_901 ob11 ?_
  obtain ⟨v12, m13, hc14, h⟩ := h
  refine pw_cV (z := mX4_biscuitsFor) (av := [Iq ((S.2 (x3 + 1).toNat).toInt), Iq ((S.2 (x3 + 2).toNat).toInt)]) (st := [Iq v5]) eL_law_902 lk_RL_103 rfl (by decide) (by decide) sh34 rfl rfl (Nat.le_of_ble_eq_true rfl) rfl hc14 ?_
  show PW S mL_law Q 905 [some (Aq 103), some (Aq 0), some (Aq 34), some (Iq x3)] [Iq v12, Iq v5] m13
  refine pw_icmp_eq eL_law_905 (fun c15 => ?_) (fun c15 => ?_)
  · have h := h.1 c15
    exact h
  · have h := h.2 c15
    refine pw_iconst eL_law_908 ⟨by decide, by decide⟩ ?_
    exact pw_iret eL_law_909 h

set_option maxRecDepth 100000 in
theorem rg_L_law_910 {S : Sx} {Q : Option PV → Zm → Prop} {mem : Zm} {x3 : Int}
    (h : (in32 (x3 + 1)) ∧ (0 ≤ x3 + 1 ∧ x3 + 1 < S.1) ∧ (in32 (x3 + 2)) ∧ (0 ≤ x3 + 2 ∧ x3 + 2 < S.1) ∧ (∃ (v5 : Int) (m6 : Zm), Ct1 S mX3_sources [Aq 0, Iq ((S.2 (x3 + 1).toNat).toInt), Iq ((S.2 (x3 + 2).toNat).toInt)] mem (some (Iq v5)) m6 ∧ ((in32 (x3 + 1)) ∧ (0 ≤ x3 + 1 ∧ x3 + 1 < S.1) ∧ (in32 (x3 + 2)) ∧ (0 ≤ x3 + 2 ∧ x3 + 2 < S.1) ∧ (∃ (v12 : Int) (m13 : Zm), Ct1 S mX4_sources [Aq 34, Iq ((S.2 (x3 + 1).toNat).toInt), Iq ((S.2 (x3 + 2).toNat).toInt)] m6 (some (Iq v12)) m13 ∧ ((((v5 = v12) → (PW S mL_law Q 1537 [some (Aq 103), some (Aq 0), some (Aq 34), some (Iq x3)] [] m13)) ∧ (¬ (v5 = v12) → (Q (some (Iq 0)) m13)))))))) :
    PW S mL_law Q 910 [some (Aq 103), some (Aq 0), some (Aq 34), some (Iq x3)] [] mem := by
  refine pw_aload_n eL_law_910 rfl rfl ?_
  refine pw_aload_n eL_law_911 rfl rfl ?_
  refine pw_iload_n eL_law_912 rfl rfl ?_
  refine pw_iconst eL_law_913 ⟨by decide, by decide⟩ ?_
  obtain ⟨ob1, h⟩ := h
  refine pw_iadd eL_law_914 ob1 ?_
  obtain ⟨ob2, h⟩ := h
  refine pw_scr eL_law_915 ob2 ?_
  refine pw_aload_n eL_law_916 rfl rfl ?_
  refine pw_iload_n eL_law_917 rfl rfl ?_
  refine pw_iconst eL_law_918 ⟨by decide, by decide⟩ ?_
  obtain ⟨ob3, h⟩ := h
  refine pw_iadd eL_law_919 ob3 ?_
  obtain ⟨ob4, h⟩ := h
  refine pw_scr eL_law_920 ob4 ?_
  obtain ⟨v5, m6, hc7, h⟩ := h
  refine pw_cV (z := mX3_sources) (av := [Iq ((S.2 (x3 + 1).toNat).toInt), Iq ((S.2 (x3 + 2).toNat).toInt)]) (st := []) eL_law_921 lk_RL_104 rfl (by decide) (by decide) sh0 rfl rfl (Nat.le_of_ble_eq_true rfl) rfl hc7 ?_
  show PW S mL_law Q 924 [some (Aq 103), some (Aq 0), some (Aq 34), some (Iq x3)] [Iq v5] m6
  refine pw_aload_n eL_law_924 rfl rfl ?_
  refine pw_aload_n eL_law_925 rfl rfl ?_
  refine pw_iload_n eL_law_926 rfl rfl ?_
  refine pw_iconst eL_law_927 ⟨by decide, by decide⟩ ?_
  obtain ⟨ob8, h⟩ := h
  refine pw_iadd eL_law_928 ob8 ?_
  obtain ⟨ob9, h⟩ := h
  refine pw_scr eL_law_929 ob9 ?_
  refine pw_aload_n eL_law_930 rfl rfl ?_
  refine pw_iload_n eL_law_931 rfl rfl ?_
  refine pw_iconst eL_law_932 ⟨by decide, by decide⟩ ?_
  obtain ⟨ob10, h⟩ := h
  refine pw_iadd eL_law_933 ob10 ?_
  obtain ⟨ob11, h⟩ := h
  refine pw_scr eL_law_934 ob11 ?_
  obtain ⟨v12, m13, hc14, h⟩ := h
  refine pw_cV (z := mX4_sources) (av := [Iq ((S.2 (x3 + 1).toNat).toInt), Iq ((S.2 (x3 + 2).toNat).toInt)]) (st := [Iq v5]) eL_law_935 lk_RL_107 rfl (by decide) (by decide) sh34 rfl rfl (Nat.le_of_ble_eq_true rfl) rfl hc14 ?_
  show PW S mL_law Q 938 [some (Aq 103), some (Aq 0), some (Aq 34), some (Iq x3)] [Iq v12, Iq v5] m13
  refine pw_icmp_eq eL_law_938 (fun c15 => ?_) (fun c15 => ?_)
  · have h := h.1 c15
    exact h
  · have h := h.2 c15
    refine pw_iconst eL_law_941 ⟨by decide, by decide⟩ ?_
    exact pw_iret eL_law_942 h

set_option maxRecDepth 100000 in
theorem rg_L_law_943 {S : Sx} {Q : Option PV → Zm → Prop} {mem : Zm} {x3 : Int}
    (h : (in32 (x3 + 1)) ∧ (0 ≤ x3 + 1 ∧ x3 + 1 < S.1) ∧ (in32 (x3 + 2)) ∧ (0 ≤ x3 + 2 ∧ x3 + 2 < S.1) ∧ (∃ (v5 : Int) (m6 : Zm), Ct1 S mX3_fits [Aq 0, Iq ((S.2 (x3 + 1).toNat).toInt), Iq ((S.2 (x3 + 2).toNat).toInt)] mem (some (Iq v5)) m6 ∧ ((in32 (x3 + 1)) ∧ (0 ≤ x3 + 1 ∧ x3 + 1 < S.1) ∧ (in32 (x3 + 2)) ∧ (0 ≤ x3 + 2 ∧ x3 + 2 < S.1) ∧ (∃ (v12 : Int) (m13 : Zm), Ct1 S mX4_fits [Aq 34, Iq ((S.2 (x3 + 1).toNat).toInt), Iq ((S.2 (x3 + 2).toNat).toInt)] m6 (some (Iq v12)) m13 ∧ ((((v5 = v12) → (PW S mL_law Q 1537 [some (Aq 103), some (Aq 0), some (Aq 34), some (Iq x3)] [] m13)) ∧ (¬ (v5 = v12) → (Q (some (Iq 0)) m13)))))))) :
    PW S mL_law Q 943 [some (Aq 103), some (Aq 0), some (Aq 34), some (Iq x3)] [] mem := by
  refine pw_aload_n eL_law_943 rfl rfl ?_
  refine pw_aload_n eL_law_944 rfl rfl ?_
  refine pw_iload_n eL_law_945 rfl rfl ?_
  refine pw_iconst eL_law_946 ⟨by decide, by decide⟩ ?_
  obtain ⟨ob1, h⟩ := h
  refine pw_iadd eL_law_947 ob1 ?_
  obtain ⟨ob2, h⟩ := h
  refine pw_scr eL_law_948 ob2 ?_
  refine pw_aload_n eL_law_949 rfl rfl ?_
  refine pw_iload_n eL_law_950 rfl rfl ?_
  refine pw_iconst eL_law_951 ⟨by decide, by decide⟩ ?_
  obtain ⟨ob3, h⟩ := h
  refine pw_iadd eL_law_952 ob3 ?_
  obtain ⟨ob4, h⟩ := h
  refine pw_scr eL_law_953 ob4 ?_
  obtain ⟨v5, m6, hc7, h⟩ := h
  refine pw_cV (z := mX3_fits) (av := [Iq ((S.2 (x3 + 1).toNat).toInt), Iq ((S.2 (x3 + 2).toNat).toInt)]) (st := []) eL_law_954 lk_RL_108 rfl (by decide) (by decide) sh0 rfl rfl (Nat.le_of_ble_eq_true rfl) rfl hc7 ?_
  show PW S mL_law Q 957 [some (Aq 103), some (Aq 0), some (Aq 34), some (Iq x3)] [Iq v5] m6
  refine pw_aload_n eL_law_957 rfl rfl ?_
  refine pw_aload_n eL_law_958 rfl rfl ?_
  refine pw_iload_n eL_law_959 rfl rfl ?_
  refine pw_iconst eL_law_960 ⟨by decide, by decide⟩ ?_
  obtain ⟨ob8, h⟩ := h
  refine pw_iadd eL_law_961 ob8 ?_
  obtain ⟨ob9, h⟩ := h
  refine pw_scr eL_law_962 ob9 ?_
  refine pw_aload_n eL_law_963 rfl rfl ?_
  refine pw_iload_n eL_law_964 rfl rfl ?_
  refine pw_iconst eL_law_965 ⟨by decide, by decide⟩ ?_
  obtain ⟨ob10, h⟩ := h
  refine pw_iadd eL_law_966 ob10 ?_
  obtain ⟨ob11, h⟩ := h
  refine pw_scr eL_law_967 ob11 ?_
  obtain ⟨v12, m13, hc14, h⟩ := h
  refine pw_cV (z := mX4_fits) (av := [Iq ((S.2 (x3 + 1).toNat).toInt), Iq ((S.2 (x3 + 2).toNat).toInt)]) (st := [Iq v5]) eL_law_968 lk_RL_111 rfl (by decide) (by decide) sh34 rfl rfl (Nat.le_of_ble_eq_true rfl) rfl hc14 ?_
  show PW S mL_law Q 971 [some (Aq 103), some (Aq 0), some (Aq 34), some (Iq x3)] [Iq v12, Iq v5] m13
  refine pw_icmp_eq eL_law_971 (fun c15 => ?_) (fun c15 => ?_)
  · have h := h.1 c15
    exact h
  · have h := h.2 c15
    refine pw_iconst eL_law_974 ⟨by decide, by decide⟩ ?_
    exact pw_iret eL_law_975 h

set_option maxRecDepth 100000 in
theorem rg_L_law_976 {S : Sx} {Q : Option PV → Zm → Prop} {mem : Zm} {x3 : Int}
    (h : (in32 (x3 + 1)) ∧ (0 ≤ x3 + 1 ∧ x3 + 1 < S.1) ∧ (in32 (x3 + 2)) ∧ (0 ≤ x3 + 2 ∧ x3 + 2 < S.1) ∧ (∃ (v5 : Int) (m6 : Zm), Ct1 S mX3_knew [Aq 0, Iq ((S.2 (x3 + 1).toNat).toInt), Iq ((S.2 (x3 + 2).toNat).toInt)] mem (some (Iq v5)) m6 ∧ ((in32 (x3 + 1)) ∧ (0 ≤ x3 + 1 ∧ x3 + 1 < S.1) ∧ (in32 (x3 + 2)) ∧ (0 ≤ x3 + 2 ∧ x3 + 2 < S.1) ∧ (∃ (v12 : Int) (m13 : Zm), Ct1 S mX4_knew [Aq 34, Iq ((S.2 (x3 + 1).toNat).toInt), Iq ((S.2 (x3 + 2).toNat).toInt)] m6 (some (Iq v12)) m13 ∧ ((((v5 = v12) → (PW S mL_law Q 1537 [some (Aq 103), some (Aq 0), some (Aq 34), some (Iq x3)] [] m13)) ∧ (¬ (v5 = v12) → (Q (some (Iq 0)) m13)))))))) :
    PW S mL_law Q 976 [some (Aq 103), some (Aq 0), some (Aq 34), some (Iq x3)] [] mem := by
  refine pw_aload_n eL_law_976 rfl rfl ?_
  refine pw_aload_n eL_law_977 rfl rfl ?_
  refine pw_iload_n eL_law_978 rfl rfl ?_
  refine pw_iconst eL_law_979 ⟨by decide, by decide⟩ ?_
  obtain ⟨ob1, h⟩ := h
  refine pw_iadd eL_law_980 ob1 ?_
  obtain ⟨ob2, h⟩ := h
  refine pw_scr eL_law_981 ob2 ?_
  refine pw_aload_n eL_law_982 rfl rfl ?_
  refine pw_iload_n eL_law_983 rfl rfl ?_
  refine pw_iconst eL_law_984 ⟨by decide, by decide⟩ ?_
  obtain ⟨ob3, h⟩ := h
  refine pw_iadd eL_law_985 ob3 ?_
  obtain ⟨ob4, h⟩ := h
  refine pw_scr eL_law_986 ob4 ?_
  obtain ⟨v5, m6, hc7, h⟩ := h
  refine pw_cV (z := mX3_knew) (av := [Iq ((S.2 (x3 + 1).toNat).toInt), Iq ((S.2 (x3 + 2).toNat).toInt)]) (st := []) eL_law_987 lk_RL_112 rfl (by decide) (by decide) sh0 rfl rfl (Nat.le_of_ble_eq_true rfl) rfl hc7 ?_
  show PW S mL_law Q 990 [some (Aq 103), some (Aq 0), some (Aq 34), some (Iq x3)] [Iq v5] m6
  refine pw_aload_n eL_law_990 rfl rfl ?_
  refine pw_aload_n eL_law_991 rfl rfl ?_
  refine pw_iload_n eL_law_992 rfl rfl ?_
  refine pw_iconst eL_law_993 ⟨by decide, by decide⟩ ?_
  obtain ⟨ob8, h⟩ := h
  refine pw_iadd eL_law_994 ob8 ?_
  obtain ⟨ob9, h⟩ := h
  refine pw_scr eL_law_995 ob9 ?_
  refine pw_aload_n eL_law_996 rfl rfl ?_
  refine pw_iload_n eL_law_997 rfl rfl ?_
  refine pw_iconst eL_law_998 ⟨by decide, by decide⟩ ?_
  obtain ⟨ob10, h⟩ := h
  refine pw_iadd eL_law_999 ob10 ?_
  obtain ⟨ob11, h⟩ := h
  refine pw_scr eL_law_1000 ob11 ?_
  obtain ⟨v12, m13, hc14, h⟩ := h
  refine pw_cV (z := mX4_knew) (av := [Iq ((S.2 (x3 + 1).toNat).toInt), Iq ((S.2 (x3 + 2).toNat).toInt)]) (st := [Iq v5]) eL_law_1001 lk_RL_115 rfl (by decide) (by decide) sh34 rfl rfl (Nat.le_of_ble_eq_true rfl) rfl hc14 ?_
  show PW S mL_law Q 1004 [some (Aq 103), some (Aq 0), some (Aq 34), some (Iq x3)] [Iq v12, Iq v5] m13
  refine pw_icmp_eq eL_law_1004 (fun c15 => ?_) (fun c15 => ?_)
  · have h := h.1 c15
    exact h
  · have h := h.2 c15
    refine pw_iconst eL_law_1007 ⟨by decide, by decide⟩ ?_
    exact pw_iret eL_law_1008 h

set_option maxRecDepth 100000 in
theorem rg_L_law_1009 {S : Sx} {Q : Option PV → Zm → Prop} {mem : Zm} {x3 : Int}
    (h : (in32 (x3 + 1)) ∧ (0 ≤ x3 + 1 ∧ x3 + 1 < S.1) ∧ (in32 (x3 + 2)) ∧ (0 ≤ x3 + 2 ∧ x3 + 2 < S.1) ∧ (∃ (v5 : Int) (m6 : Zm), Ct1 S mX3_kinds [Aq 0, Iq ((S.2 (x3 + 1).toNat).toInt), Iq ((S.2 (x3 + 2).toNat).toInt)] mem (some (Iq v5)) m6 ∧ ((in32 (x3 + 1)) ∧ (0 ≤ x3 + 1 ∧ x3 + 1 < S.1) ∧ (in32 (x3 + 2)) ∧ (0 ≤ x3 + 2 ∧ x3 + 2 < S.1) ∧ (∃ (v12 : Int) (m13 : Zm), Ct1 S mX4_kinds [Aq 34, Iq ((S.2 (x3 + 1).toNat).toInt), Iq ((S.2 (x3 + 2).toNat).toInt)] m6 (some (Iq v12)) m13 ∧ ((((v5 = v12) → (PW S mL_law Q 1537 [some (Aq 103), some (Aq 0), some (Aq 34), some (Iq x3)] [] m13)) ∧ (¬ (v5 = v12) → (Q (some (Iq 0)) m13)))))))) :
    PW S mL_law Q 1009 [some (Aq 103), some (Aq 0), some (Aq 34), some (Iq x3)] [] mem := by
  refine pw_aload_n eL_law_1009 rfl rfl ?_
  refine pw_aload_n eL_law_1010 rfl rfl ?_
  refine pw_iload_n eL_law_1011 rfl rfl ?_
  refine pw_iconst eL_law_1012 ⟨by decide, by decide⟩ ?_
  obtain ⟨ob1, h⟩ := h
  refine pw_iadd eL_law_1013 ob1 ?_
  obtain ⟨ob2, h⟩ := h
  refine pw_scr eL_law_1014 ob2 ?_
  refine pw_aload_n eL_law_1015 rfl rfl ?_
  refine pw_iload_n eL_law_1016 rfl rfl ?_
  refine pw_iconst eL_law_1017 ⟨by decide, by decide⟩ ?_
  obtain ⟨ob3, h⟩ := h
  refine pw_iadd eL_law_1018 ob3 ?_
  obtain ⟨ob4, h⟩ := h
  refine pw_scr eL_law_1019 ob4 ?_
  obtain ⟨v5, m6, hc7, h⟩ := h
  refine pw_cV (z := mX3_kinds) (av := [Iq ((S.2 (x3 + 1).toNat).toInt), Iq ((S.2 (x3 + 2).toNat).toInt)]) (st := []) eL_law_1020 lk_RL_116 rfl (by decide) (by decide) sh0 rfl rfl (Nat.le_of_ble_eq_true rfl) rfl hc7 ?_
  show PW S mL_law Q 1023 [some (Aq 103), some (Aq 0), some (Aq 34), some (Iq x3)] [Iq v5] m6
  refine pw_aload_n eL_law_1023 rfl rfl ?_
  refine pw_aload_n eL_law_1024 rfl rfl ?_
  refine pw_iload_n eL_law_1025 rfl rfl ?_
  refine pw_iconst eL_law_1026 ⟨by decide, by decide⟩ ?_
  obtain ⟨ob8, h⟩ := h
  refine pw_iadd eL_law_1027 ob8 ?_
  obtain ⟨ob9, h⟩ := h
  refine pw_scr eL_law_1028 ob9 ?_
  refine pw_aload_n eL_law_1029 rfl rfl ?_
  refine pw_iload_n eL_law_1030 rfl rfl ?_
  refine pw_iconst eL_law_1031 ⟨by decide, by decide⟩ ?_
  obtain ⟨ob10, h⟩ := h
  refine pw_iadd eL_law_1032 ob10 ?_
  obtain ⟨ob11, h⟩ := h
  refine pw_scr eL_law_1033 ob11 ?_
  obtain ⟨v12, m13, hc14, h⟩ := h
  refine pw_cV (z := mX4_kinds) (av := [Iq ((S.2 (x3 + 1).toNat).toInt), Iq ((S.2 (x3 + 2).toNat).toInt)]) (st := [Iq v5]) eL_law_1034 lk_RL_119 rfl (by decide) (by decide) sh34 rfl rfl (Nat.le_of_ble_eq_true rfl) rfl hc14 ?_
  show PW S mL_law Q 1037 [some (Aq 103), some (Aq 0), some (Aq 34), some (Iq x3)] [Iq v12, Iq v5] m13
  refine pw_icmp_eq eL_law_1037 (fun c15 => ?_) (fun c15 => ?_)
  · have h := h.1 c15
    exact h
  · have h := h.2 c15
    refine pw_iconst eL_law_1040 ⟨by decide, by decide⟩ ?_
    exact pw_iret eL_law_1041 h

set_option maxRecDepth 100000 in
theorem rg_L_law_1042 {S : Sx} {Q : Option PV → Zm → Prop} {mem : Zm} {x3 : Int}
    (h : (in32 (x3 + 1)) ∧ (0 ≤ x3 + 1 ∧ x3 + 1 < S.1) ∧ (∃ (v3 : Int) (m4 : Zm), Ct1 S mX3_seats [Aq 0, Iq ((S.2 (x3 + 1).toNat).toInt)] mem (some (Iq v3)) m4 ∧ ((in32 (x3 + 1)) ∧ (0 ≤ x3 + 1 ∧ x3 + 1 < S.1) ∧ (∃ (v8 : Int) (m9 : Zm), Ct1 S mX4_seats [Aq 34, Iq ((S.2 (x3 + 1).toNat).toInt)] m4 (some (Iq v8)) m9 ∧ ((((v3 = v8) → (PW S mL_law Q 1537 [some (Aq 103), some (Aq 0), some (Aq 34), some (Iq x3)] [] m9)) ∧ (¬ (v3 = v8) → (Q (some (Iq 0)) m9)))))))) :
    PW S mL_law Q 1042 [some (Aq 103), some (Aq 0), some (Aq 34), some (Iq x3)] [] mem := by
  refine pw_aload_n eL_law_1042 rfl rfl ?_
  refine pw_aload_n eL_law_1043 rfl rfl ?_
  refine pw_iload_n eL_law_1044 rfl rfl ?_
  refine pw_iconst eL_law_1045 ⟨by decide, by decide⟩ ?_
  obtain ⟨ob1, h⟩ := h
  refine pw_iadd eL_law_1046 ob1 ?_
  obtain ⟨ob2, h⟩ := h
  refine pw_scr eL_law_1047 ob2 ?_
  obtain ⟨v3, m4, hc5, h⟩ := h
  refine pw_cV (z := mX3_seats) (av := [Iq ((S.2 (x3 + 1).toNat).toInt)]) (st := []) eL_law_1048 lk_RL_120 rfl (by decide) (by decide) sh0 rfl rfl (Nat.le_of_ble_eq_true rfl) rfl hc5 ?_
  show PW S mL_law Q 1051 [some (Aq 103), some (Aq 0), some (Aq 34), some (Iq x3)] [Iq v3] m4
  refine pw_aload_n eL_law_1051 rfl rfl ?_
  refine pw_aload_n eL_law_1052 rfl rfl ?_
  refine pw_iload_n eL_law_1053 rfl rfl ?_
  refine pw_iconst eL_law_1054 ⟨by decide, by decide⟩ ?_
  obtain ⟨ob6, h⟩ := h
  refine pw_iadd eL_law_1055 ob6 ?_
  obtain ⟨ob7, h⟩ := h
  refine pw_scr eL_law_1056 ob7 ?_
  obtain ⟨v8, m9, hc10, h⟩ := h
  refine pw_cV (z := mX4_seats) (av := [Iq ((S.2 (x3 + 1).toNat).toInt)]) (st := [Iq v3]) eL_law_1057 lk_RL_123 rfl (by decide) (by decide) sh34 rfl rfl (Nat.le_of_ble_eq_true rfl) rfl hc10 ?_
  show PW S mL_law Q 1060 [some (Aq 103), some (Aq 0), some (Aq 34), some (Iq x3)] [Iq v8, Iq v3] m9
  refine pw_icmp_eq eL_law_1060 (fun c11 => ?_) (fun c11 => ?_)
  · have h := h.1 c11
    exact h
  · have h := h.2 c11
    refine pw_iconst eL_law_1063 ⟨by decide, by decide⟩ ?_
    exact pw_iret eL_law_1064 h

set_option maxRecDepth 100000 in
theorem rg_L_law_1065 {S : Sx} {Q : Option PV → Zm → Prop} {mem : Zm} {x3 : Int}
    (h : (in32 (x3 + 1)) ∧ (0 ≤ x3 + 1 ∧ x3 + 1 < S.1) ∧ (in32 (x3 + 2)) ∧ (0 ≤ x3 + 2 ∧ x3 + 2 < S.1) ∧ (in32 (x3 + 3)) ∧ (0 ≤ x3 + 3 ∧ x3 + 3 < S.1) ∧ (∃ (v7 : Int) (m8 : Zm), Ct1 S mX3_odds [Aq 0, Iq ((S.2 (x3 + 1).toNat).toInt), Iq ((S.2 (x3 + 2).toNat).toInt), Iq ((S.2 (x3 + 3).toNat).toInt)] mem (some (Jq v7)) m8 ∧ ((in32 (x3 + 1)) ∧ (0 ≤ x3 + 1 ∧ x3 + 1 < S.1) ∧ (in32 (x3 + 2)) ∧ (0 ≤ x3 + 2 ∧ x3 + 2 < S.1) ∧ (in32 (x3 + 3)) ∧ (0 ≤ x3 + 3 ∧ x3 + 3 < S.1) ∧ (∃ (v16 : Int) (m17 : Zm), Ct1 S mX4_odds [Aq 34, Iq ((S.2 (x3 + 1).toNat).toInt), Iq ((S.2 (x3 + 2).toNat).toInt), Iq ((S.2 (x3 + 3).toNat).toInt)] m8 (some (Jq v16)) m17 ∧ ((((cmpL v7 v16 = 0) → (PW S mL_law Q 1537 [some (Aq 103), some (Aq 0), some (Aq 34), some (Iq x3)] [] m17)) ∧ (¬ (cmpL v7 v16 = 0) → (Q (some (Iq 0)) m17)))))))) :
    PW S mL_law Q 1065 [some (Aq 103), some (Aq 0), some (Aq 34), some (Iq x3)] [] mem := by
  refine pw_aload_n eL_law_1065 rfl rfl ?_
  refine pw_aload_n eL_law_1066 rfl rfl ?_
  refine pw_iload_n eL_law_1067 rfl rfl ?_
  refine pw_iconst eL_law_1068 ⟨by decide, by decide⟩ ?_
  obtain ⟨ob1, h⟩ := h
  refine pw_iadd eL_law_1069 ob1 ?_
  obtain ⟨ob2, h⟩ := h
  refine pw_scr eL_law_1070 ob2 ?_
  refine pw_aload_n eL_law_1071 rfl rfl ?_
  refine pw_iload_n eL_law_1072 rfl rfl ?_
  refine pw_iconst eL_law_1073 ⟨by decide, by decide⟩ ?_
  obtain ⟨ob3, h⟩ := h
  refine pw_iadd eL_law_1074 ob3 ?_
  obtain ⟨ob4, h⟩ := h
  refine pw_scr eL_law_1075 ob4 ?_
  refine pw_aload_n eL_law_1076 rfl rfl ?_
  refine pw_iload_n eL_law_1077 rfl rfl ?_
  refine pw_iconst eL_law_1078 ⟨by decide, by decide⟩ ?_
  obtain ⟨ob5, h⟩ := h
  refine pw_iadd eL_law_1079 ob5 ?_
  obtain ⟨ob6, h⟩ := h
  refine pw_scr eL_law_1080 ob6 ?_
  obtain ⟨v7, m8, hc9, h⟩ := h
  refine pw_cV (z := mX3_odds) (av := [Iq ((S.2 (x3 + 1).toNat).toInt), Iq ((S.2 (x3 + 2).toNat).toInt), Iq ((S.2 (x3 + 3).toNat).toInt)]) (st := []) eL_law_1081 lk_RL_124 rfl (by decide) (by decide) sh0 rfl rfl (Nat.le_of_ble_eq_true rfl) rfl hc9 ?_
  show PW S mL_law Q 1084 [some (Aq 103), some (Aq 0), some (Aq 34), some (Iq x3)] [Jq v7] m8
  refine pw_aload_n eL_law_1084 rfl rfl ?_
  refine pw_aload_n eL_law_1085 rfl rfl ?_
  refine pw_iload_n eL_law_1086 rfl rfl ?_
  refine pw_iconst eL_law_1087 ⟨by decide, by decide⟩ ?_
  obtain ⟨ob10, h⟩ := h
  refine pw_iadd eL_law_1088 ob10 ?_
  obtain ⟨ob11, h⟩ := h
  refine pw_scr eL_law_1089 ob11 ?_
  refine pw_aload_n eL_law_1090 rfl rfl ?_
  refine pw_iload_n eL_law_1091 rfl rfl ?_
  refine pw_iconst eL_law_1092 ⟨by decide, by decide⟩ ?_
  obtain ⟨ob12, h⟩ := h
  refine pw_iadd eL_law_1093 ob12 ?_
  obtain ⟨ob13, h⟩ := h
  refine pw_scr eL_law_1094 ob13 ?_
  refine pw_aload_n eL_law_1095 rfl rfl ?_
  refine pw_iload_n eL_law_1096 rfl rfl ?_
  refine pw_iconst eL_law_1097 ⟨by decide, by decide⟩ ?_
  obtain ⟨ob14, h⟩ := h
  refine pw_iadd eL_law_1098 ob14 ?_
  obtain ⟨ob15, h⟩ := h
  refine pw_scr eL_law_1099 ob15 ?_
  obtain ⟨v16, m17, hc18, h⟩ := h
  refine pw_cV (z := mX4_odds) (av := [Iq ((S.2 (x3 + 1).toNat).toInt), Iq ((S.2 (x3 + 2).toNat).toInt), Iq ((S.2 (x3 + 3).toNat).toInt)]) (st := [Jq v7]) eL_law_1100 lk_RL_128 rfl (by decide) (by decide) sh34 rfl rfl (Nat.le_of_ble_eq_true rfl) rfl hc18 ?_
  show PW S mL_law Q 1103 [some (Aq 103), some (Aq 0), some (Aq 34), some (Iq x3)] [Jq v16, Jq v7] m17
  refine pw_lcmp eL_law_1103 ?_
  refine pw_if_eq eL_law_1104 (fun c19 => ?_) (fun c19 => ?_)
  · have h := h.1 c19
    exact h
  · have h := h.2 c19
    refine pw_iconst eL_law_1107 ⟨by decide, by decide⟩ ?_
    exact pw_iret eL_law_1108 h

set_option maxRecDepth 100000 in
theorem rg_L_law_1109 {S : Sx} {Q : Option PV → Zm → Prop} {mem : Zm} {x3 : Int}
    (h : (in32 (x3 + 1)) ∧ (0 ≤ x3 + 1 ∧ x3 + 1 < S.1) ∧ (∃ (v3 : Int) (m4 : Zm), Ct1 S mX3_seed [Aq 0, Iq ((S.2 (x3 + 1).toNat).toInt)] mem (some (Iq v3)) m4 ∧ ((in32 (x3 + 1)) ∧ (0 ≤ x3 + 1 ∧ x3 + 1 < S.1) ∧ (∃ (v8 : Int) (m9 : Zm), Ct1 S mX4_seed [Aq 34, Iq ((S.2 (x3 + 1).toNat).toInt)] m4 (some (Iq v8)) m9 ∧ ((((v3 = v8) → (PW S mL_law Q 1537 [some (Aq 103), some (Aq 0), some (Aq 34), some (Iq x3)] [] m9)) ∧ (¬ (v3 = v8) → (Q (some (Iq 0)) m9)))))))) :
    PW S mL_law Q 1109 [some (Aq 103), some (Aq 0), some (Aq 34), some (Iq x3)] [] mem := by
  refine pw_aload_n eL_law_1109 rfl rfl ?_
  refine pw_aload_n eL_law_1110 rfl rfl ?_
  refine pw_iload_n eL_law_1111 rfl rfl ?_
  refine pw_iconst eL_law_1112 ⟨by decide, by decide⟩ ?_
  obtain ⟨ob1, h⟩ := h
  refine pw_iadd eL_law_1113 ob1 ?_
  obtain ⟨ob2, h⟩ := h
  refine pw_scr eL_law_1114 ob2 ?_
  obtain ⟨v3, m4, hc5, h⟩ := h
  refine pw_cV (z := mX3_seed) (av := [Iq ((S.2 (x3 + 1).toNat).toInt)]) (st := []) eL_law_1115 lk_RL_129 rfl (by decide) (by decide) sh0 rfl rfl (Nat.le_of_ble_eq_true rfl) rfl hc5 ?_
  show PW S mL_law Q 1118 [some (Aq 103), some (Aq 0), some (Aq 34), some (Iq x3)] [Iq v3] m4
  refine pw_aload_n eL_law_1118 rfl rfl ?_
  refine pw_aload_n eL_law_1119 rfl rfl ?_
  refine pw_iload_n eL_law_1120 rfl rfl ?_
  refine pw_iconst eL_law_1121 ⟨by decide, by decide⟩ ?_
  obtain ⟨ob6, h⟩ := h
  refine pw_iadd eL_law_1122 ob6 ?_
  obtain ⟨ob7, h⟩ := h
  refine pw_scr eL_law_1123 ob7 ?_
  obtain ⟨v8, m9, hc10, h⟩ := h
  refine pw_cV (z := mX4_seed) (av := [Iq ((S.2 (x3 + 1).toNat).toInt)]) (st := [Iq v3]) eL_law_1124 lk_RL_132 rfl (by decide) (by decide) sh34 rfl rfl (Nat.le_of_ble_eq_true rfl) rfl hc10 ?_
  show PW S mL_law Q 1127 [some (Aq 103), some (Aq 0), some (Aq 34), some (Iq x3)] [Iq v8, Iq v3] m9
  refine pw_icmp_eq eL_law_1127 (fun c11 => ?_) (fun c11 => ?_)
  · have h := h.1 c11
    exact h
  · have h := h.2 c11
    refine pw_iconst eL_law_1130 ⟨by decide, by decide⟩ ?_
    exact pw_iret eL_law_1131 h

set_option maxRecDepth 100000 in
theorem rg_L_law_1132 {S : Sx} {Q : Option PV → Zm → Prop} {mem : Zm} {x3 : Int}
    (h : (in32 (x3 + 1)) ∧ (0 ≤ x3 + 1 ∧ x3 + 1 < S.1) ∧ (in32 (x3 + 2)) ∧ (0 ≤ x3 + 2 ∧ x3 + 2 < S.1) ∧ (∃ (v5 : Int) (m6 : Zm), Ct1 S mX3_feed [Aq 0, Iq ((S.2 (x3 + 1).toNat).toInt), Iq ((S.2 (x3 + 2).toNat).toInt)] mem (some (Iq v5)) m6 ∧ ((in32 (x3 + 1)) ∧ (0 ≤ x3 + 1 ∧ x3 + 1 < S.1) ∧ (in32 (x3 + 2)) ∧ (0 ≤ x3 + 2 ∧ x3 + 2 < S.1) ∧ (∃ (v12 : Int) (m13 : Zm), Ct1 S mX4_feed [Aq 34, Iq ((S.2 (x3 + 1).toNat).toInt), Iq ((S.2 (x3 + 2).toNat).toInt)] m6 (some (Iq v12)) m13 ∧ ((((v5 = v12) → (PW S mL_law Q 1537 [some (Aq 103), some (Aq 0), some (Aq 34), some (Iq x3)] [] m13)) ∧ (¬ (v5 = v12) → (Q (some (Iq 0)) m13)))))))) :
    PW S mL_law Q 1132 [some (Aq 103), some (Aq 0), some (Aq 34), some (Iq x3)] [] mem := by
  refine pw_aload_n eL_law_1132 rfl rfl ?_
  refine pw_aload_n eL_law_1133 rfl rfl ?_
  refine pw_iload_n eL_law_1134 rfl rfl ?_
  refine pw_iconst eL_law_1135 ⟨by decide, by decide⟩ ?_
  obtain ⟨ob1, h⟩ := h
  refine pw_iadd eL_law_1136 ob1 ?_
  obtain ⟨ob2, h⟩ := h
  refine pw_scr eL_law_1137 ob2 ?_
  refine pw_aload_n eL_law_1138 rfl rfl ?_
  refine pw_iload_n eL_law_1139 rfl rfl ?_
  refine pw_iconst eL_law_1140 ⟨by decide, by decide⟩ ?_
  obtain ⟨ob3, h⟩ := h
  refine pw_iadd eL_law_1141 ob3 ?_
  obtain ⟨ob4, h⟩ := h
  refine pw_scr eL_law_1142 ob4 ?_
  obtain ⟨v5, m6, hc7, h⟩ := h
  refine pw_cV (z := mX3_feed) (av := [Iq ((S.2 (x3 + 1).toNat).toInt), Iq ((S.2 (x3 + 2).toNat).toInt)]) (st := []) eL_law_1143 lk_RL_133 rfl (by decide) (by decide) sh0 rfl rfl (Nat.le_of_ble_eq_true rfl) rfl hc7 ?_
  show PW S mL_law Q 1146 [some (Aq 103), some (Aq 0), some (Aq 34), some (Iq x3)] [Iq v5] m6
  refine pw_aload_n eL_law_1146 rfl rfl ?_
  refine pw_aload_n eL_law_1147 rfl rfl ?_
  refine pw_iload_n eL_law_1148 rfl rfl ?_
  refine pw_iconst eL_law_1149 ⟨by decide, by decide⟩ ?_
  obtain ⟨ob8, h⟩ := h
  refine pw_iadd eL_law_1150 ob8 ?_
  obtain ⟨ob9, h⟩ := h
  refine pw_scr eL_law_1151 ob9 ?_
  refine pw_aload_n eL_law_1152 rfl rfl ?_
  refine pw_iload_n eL_law_1153 rfl rfl ?_
  refine pw_iconst eL_law_1154 ⟨by decide, by decide⟩ ?_
  obtain ⟨ob10, h⟩ := h
  refine pw_iadd eL_law_1155 ob10 ?_
  obtain ⟨ob11, h⟩ := h
  refine pw_scr eL_law_1156 ob11 ?_
  obtain ⟨v12, m13, hc14, h⟩ := h
  refine pw_cV (z := mX4_feed) (av := [Iq ((S.2 (x3 + 1).toNat).toInt), Iq ((S.2 (x3 + 2).toNat).toInt)]) (st := [Iq v5]) eL_law_1157 lk_RL_136 rfl (by decide) (by decide) sh34 rfl rfl (Nat.le_of_ble_eq_true rfl) rfl hc14 ?_
  show PW S mL_law Q 1160 [some (Aq 103), some (Aq 0), some (Aq 34), some (Iq x3)] [Iq v12, Iq v5] m13
  refine pw_icmp_eq eL_law_1160 (fun c15 => ?_) (fun c15 => ?_)
  · have h := h.1 c15
    exact h
  · have h := h.2 c15
    refine pw_iconst eL_law_1163 ⟨by decide, by decide⟩ ?_
    exact pw_iret eL_law_1164 h

set_option maxRecDepth 100000 in
theorem rg_L_law_1165 {S : Sx} {Q : Option PV → Zm → Prop} {mem : Zm} {x3 : Int}
    (h : (∃ (v1 : Int) (m2 : Zm), Ct1 S mX3_wipe [Aq 0] mem (some (Iq v1)) m2 ∧ ((∃ (v4 : Int) (m5 : Zm), Ct1 S mX4_wipe [Aq 34] m2 (some (Iq v4)) m5 ∧ ((((v1 = v4) → (PW S mL_law Q 1537 [some (Aq 103), some (Aq 0), some (Aq 34), some (Iq x3)] [] m5)) ∧ (¬ (v1 = v4) → (Q (some (Iq 0)) m5)))))))) :
    PW S mL_law Q 1165 [some (Aq 103), some (Aq 0), some (Aq 34), some (Iq x3)] [] mem := by
  refine pw_aload_n eL_law_1165 rfl rfl ?_
  obtain ⟨v1, m2, hc3, h⟩ := h
  refine pw_cV (z := mX3_wipe) (av := []) (st := []) eL_law_1166 lk_RL_137 rfl (by decide) (by decide) sh0 rfl rfl (Nat.le_of_ble_eq_true rfl) rfl hc3 ?_
  show PW S mL_law Q 1169 [some (Aq 103), some (Aq 0), some (Aq 34), some (Iq x3)] [Iq v1] m2
  refine pw_aload_n eL_law_1169 rfl rfl ?_
  obtain ⟨v4, m5, hc6, h⟩ := h
  refine pw_cV (z := mX4_wipe) (av := []) (st := [Iq v1]) eL_law_1170 lk_RL_141 rfl (by decide) (by decide) sh34 rfl rfl (Nat.le_of_ble_eq_true rfl) rfl hc6 ?_
  show PW S mL_law Q 1173 [some (Aq 103), some (Aq 0), some (Aq 34), some (Iq x3)] [Iq v4, Iq v1] m5
  refine pw_icmp_eq eL_law_1173 (fun c7 => ?_) (fun c7 => ?_)
  · have h := h.1 c7
    exact h
  · have h := h.2 c7
    refine pw_iconst eL_law_1176 ⟨by decide, by decide⟩ ?_
    exact pw_iret eL_law_1177 h

set_option maxRecDepth 100000 in
theorem rg_L_law_1178 {S : Sx} {Q : Option PV → Zm → Prop} {mem : Zm} {x3 : Int}
    (h : (∃ (v1 : Int) (m2 : Zm), Ct1 S mX3_text [Aq 0] mem (some (Iq v1)) m2 ∧ ((∃ (v4 : Int) (m5 : Zm), Ct1 S mX4_text [Aq 34] m2 (some (Iq v4)) m5 ∧ ((((v1 = v4) → (PW S mL_law Q 1537 [some (Aq 103), some (Aq 0), some (Aq 34), some (Iq x3)] [] m5)) ∧ (¬ (v1 = v4) → (Q (some (Iq 0)) m5)))))))) :
    PW S mL_law Q 1178 [some (Aq 103), some (Aq 0), some (Aq 34), some (Iq x3)] [] mem := by
  refine pw_aload_n eL_law_1178 rfl rfl ?_
  obtain ⟨v1, m2, hc3, h⟩ := h
  refine pw_cV (z := mX3_text) (av := []) (st := []) eL_law_1179 lk_RL_142 rfl (by decide) (by decide) sh0 rfl rfl (Nat.le_of_ble_eq_true rfl) rfl hc3 ?_
  show PW S mL_law Q 1182 [some (Aq 103), some (Aq 0), some (Aq 34), some (Iq x3)] [Iq v1] m2
  refine pw_aload_n eL_law_1182 rfl rfl ?_
  obtain ⟨v4, m5, hc6, h⟩ := h
  refine pw_cV (z := mX4_text) (av := []) (st := [Iq v1]) eL_law_1183 lk_RL_145 rfl (by decide) (by decide) sh34 rfl rfl (Nat.le_of_ble_eq_true rfl) rfl hc6 ?_
  show PW S mL_law Q 1186 [some (Aq 103), some (Aq 0), some (Aq 34), some (Iq x3)] [Iq v4, Iq v1] m5
  refine pw_icmp_eq eL_law_1186 (fun c7 => ?_) (fun c7 => ?_)
  · have h := h.1 c7
    exact h
  · have h := h.2 c7
    refine pw_iconst eL_law_1189 ⟨by decide, by decide⟩ ?_
    exact pw_iret eL_law_1190 h

set_option maxRecDepth 100000 in
theorem rg_L_law_1191 {S : Sx} {Q : Option PV → Zm → Prop} {mem : Zm} {x3 : Int}
    (h : (in32 (x3 + 1)) ∧ (0 ≤ x3 + 1 ∧ x3 + 1 < S.1) ∧ (in32 (x3 + 2)) ∧ (0 ≤ x3 + 2 ∧ x3 + 2 < S.1) ∧ (∃ (v5 : Int) (m6 : Zm), Ct1 S mX3_hold [Aq 0, Iq ((S.2 (x3 + 1).toNat).toInt), Iq ((S.2 (x3 + 2).toNat).toInt)] mem (some (Iq v5)) m6 ∧ ((in32 (x3 + 1)) ∧ (0 ≤ x3 + 1 ∧ x3 + 1 < S.1) ∧ (in32 (x3 + 2)) ∧ (0 ≤ x3 + 2 ∧ x3 + 2 < S.1) ∧ (∃ (v12 : Int) (m13 : Zm), Ct1 S mX4_hold [Aq 34, Iq ((S.2 (x3 + 1).toNat).toInt), Iq ((S.2 (x3 + 2).toNat).toInt)] m6 (some (Iq v12)) m13 ∧ ((((v5 = v12) → (PW S mL_law Q 1537 [some (Aq 103), some (Aq 0), some (Aq 34), some (Iq x3)] [] m13)) ∧ (¬ (v5 = v12) → (Q (some (Iq 0)) m13)))))))) :
    PW S mL_law Q 1191 [some (Aq 103), some (Aq 0), some (Aq 34), some (Iq x3)] [] mem := by
  refine pw_aload_n eL_law_1191 rfl rfl ?_
  refine pw_aload_n eL_law_1192 rfl rfl ?_
  refine pw_iload_n eL_law_1193 rfl rfl ?_
  refine pw_iconst eL_law_1194 ⟨by decide, by decide⟩ ?_
  obtain ⟨ob1, h⟩ := h
  refine pw_iadd eL_law_1195 ob1 ?_
  obtain ⟨ob2, h⟩ := h
  refine pw_scr eL_law_1196 ob2 ?_
  refine pw_aload_n eL_law_1197 rfl rfl ?_
  refine pw_iload_n eL_law_1198 rfl rfl ?_
  refine pw_iconst eL_law_1199 ⟨by decide, by decide⟩ ?_
  obtain ⟨ob3, h⟩ := h
  refine pw_iadd eL_law_1200 ob3 ?_
  obtain ⟨ob4, h⟩ := h
  refine pw_scr eL_law_1201 ob4 ?_
  obtain ⟨v5, m6, hc7, h⟩ := h
  refine pw_cV (z := mX3_hold) (av := [Iq ((S.2 (x3 + 1).toNat).toInt), Iq ((S.2 (x3 + 2).toNat).toInt)]) (st := []) eL_law_1202 lk_RL_146 rfl (by decide) (by decide) sh0 rfl rfl (Nat.le_of_ble_eq_true rfl) rfl hc7 ?_
  show PW S mL_law Q 1205 [some (Aq 103), some (Aq 0), some (Aq 34), some (Iq x3)] [Iq v5] m6
  refine pw_aload_n eL_law_1205 rfl rfl ?_
  refine pw_aload_n eL_law_1206 rfl rfl ?_
  refine pw_iload_n eL_law_1207 rfl rfl ?_
  refine pw_iconst eL_law_1208 ⟨by decide, by decide⟩ ?_
  obtain ⟨ob8, h⟩ := h
  refine pw_iadd eL_law_1209 ob8 ?_
  obtain ⟨ob9, h⟩ := h
  refine pw_scr eL_law_1210 ob9 ?_
  refine pw_aload_n eL_law_1211 rfl rfl ?_
  refine pw_iload_n eL_law_1212 rfl rfl ?_
  refine pw_iconst eL_law_1213 ⟨by decide, by decide⟩ ?_
  obtain ⟨ob10, h⟩ := h
  refine pw_iadd eL_law_1214 ob10 ?_
  obtain ⟨ob11, h⟩ := h
  refine pw_scr eL_law_1215 ob11 ?_
  obtain ⟨v12, m13, hc14, h⟩ := h
  refine pw_cV (z := mX4_hold) (av := [Iq ((S.2 (x3 + 1).toNat).toInt), Iq ((S.2 (x3 + 2).toNat).toInt)]) (st := [Iq v5]) eL_law_1216 lk_RL_149 rfl (by decide) (by decide) sh34 rfl rfl (Nat.le_of_ble_eq_true rfl) rfl hc14 ?_
  show PW S mL_law Q 1219 [some (Aq 103), some (Aq 0), some (Aq 34), some (Iq x3)] [Iq v12, Iq v5] m13
  refine pw_icmp_eq eL_law_1219 (fun c15 => ?_) (fun c15 => ?_)
  · have h := h.1 c15
    exact h
  · have h := h.2 c15
    refine pw_iconst eL_law_1222 ⟨by decide, by decide⟩ ?_
    exact pw_iret eL_law_1223 h

set_option maxRecDepth 100000 in
theorem rg_L_law_1224 {S : Sx} {Q : Option PV → Zm → Prop} {mem : Zm} {x3 : Int}
    (h : (in32 (x3 + 1)) ∧ (0 ≤ x3 + 1 ∧ x3 + 1 < S.1) ∧ (in32 (x3 + 2)) ∧ (0 ≤ x3 + 2 ∧ x3 + 2 < S.1) ∧ (∃ (v5 : Int) (m6 : Zm), Ct1 S mX3_as [Aq 0, Iq ((S.2 (x3 + 1).toNat).toInt), Iq ((S.2 (x3 + 2).toNat).toInt)] mem (some (Iq v5)) m6 ∧ ((in32 (x3 + 1)) ∧ (0 ≤ x3 + 1 ∧ x3 + 1 < S.1) ∧ (in32 (x3 + 2)) ∧ (0 ≤ x3 + 2 ∧ x3 + 2 < S.1) ∧ (∃ (v12 : Int) (m13 : Zm), Ct1 S mX4_as [Aq 34, Iq ((S.2 (x3 + 1).toNat).toInt), Iq ((S.2 (x3 + 2).toNat).toInt)] m6 (some (Iq v12)) m13 ∧ ((((v5 = v12) → (PW S mL_law Q 1537 [some (Aq 103), some (Aq 0), some (Aq 34), some (Iq x3)] [] m13)) ∧ (¬ (v5 = v12) → (Q (some (Iq 0)) m13)))))))) :
    PW S mL_law Q 1224 [some (Aq 103), some (Aq 0), some (Aq 34), some (Iq x3)] [] mem := by
  refine pw_aload_n eL_law_1224 rfl rfl ?_
  refine pw_aload_n eL_law_1225 rfl rfl ?_
  refine pw_iload_n eL_law_1226 rfl rfl ?_
  refine pw_iconst eL_law_1227 ⟨by decide, by decide⟩ ?_
  obtain ⟨ob1, h⟩ := h
  refine pw_iadd eL_law_1228 ob1 ?_
  obtain ⟨ob2, h⟩ := h
  refine pw_scr eL_law_1229 ob2 ?_
  refine pw_aload_n eL_law_1230 rfl rfl ?_
  refine pw_iload_n eL_law_1231 rfl rfl ?_
  refine pw_iconst eL_law_1232 ⟨by decide, by decide⟩ ?_
  obtain ⟨ob3, h⟩ := h
  refine pw_iadd eL_law_1233 ob3 ?_
  obtain ⟨ob4, h⟩ := h
  refine pw_scr eL_law_1234 ob4 ?_
  obtain ⟨v5, m6, hc7, h⟩ := h
  refine pw_cV (z := mX3_as) (av := [Iq ((S.2 (x3 + 1).toNat).toInt), Iq ((S.2 (x3 + 2).toNat).toInt)]) (st := []) eL_law_1235 lk_RL_150 rfl (by decide) (by decide) sh0 rfl rfl (Nat.le_of_ble_eq_true rfl) rfl hc7 ?_
  show PW S mL_law Q 1238 [some (Aq 103), some (Aq 0), some (Aq 34), some (Iq x3)] [Iq v5] m6
  refine pw_aload_n eL_law_1238 rfl rfl ?_
  refine pw_aload_n eL_law_1239 rfl rfl ?_
  refine pw_iload_n eL_law_1240 rfl rfl ?_
  refine pw_iconst eL_law_1241 ⟨by decide, by decide⟩ ?_
  obtain ⟨ob8, h⟩ := h
  refine pw_iadd eL_law_1242 ob8 ?_
  obtain ⟨ob9, h⟩ := h
  refine pw_scr eL_law_1243 ob9 ?_
  refine pw_aload_n eL_law_1244 rfl rfl ?_
  refine pw_iload_n eL_law_1245 rfl rfl ?_
  refine pw_iconst eL_law_1246 ⟨by decide, by decide⟩ ?_
  obtain ⟨ob10, h⟩ := h
  refine pw_iadd eL_law_1247 ob10 ?_
  obtain ⟨ob11, h⟩ := h
  refine pw_scr eL_law_1248 ob11 ?_
  obtain ⟨v12, m13, hc14, h⟩ := h
  refine pw_cV (z := mX4_as) (av := [Iq ((S.2 (x3 + 1).toNat).toInt), Iq ((S.2 (x3 + 2).toNat).toInt)]) (st := [Iq v5]) eL_law_1249 lk_RL_153 rfl (by decide) (by decide) sh34 rfl rfl (Nat.le_of_ble_eq_true rfl) rfl hc14 ?_
  show PW S mL_law Q 1252 [some (Aq 103), some (Aq 0), some (Aq 34), some (Iq x3)] [Iq v12, Iq v5] m13
  refine pw_icmp_eq eL_law_1252 (fun c15 => ?_) (fun c15 => ?_)
  · have h := h.1 c15
    exact h
  · have h := h.2 c15
    refine pw_iconst eL_law_1255 ⟨by decide, by decide⟩ ?_
    exact pw_iret eL_law_1256 h

set_option maxRecDepth 100000 in
theorem rg_L_law_1257 {S : Sx} {Q : Option PV → Zm → Prop} {mem : Zm} {x3 : Int}
    (h : (in32 (x3 + 1)) ∧ (0 ≤ x3 + 1 ∧ x3 + 1 < S.1) ∧ (in32 (x3 + 2)) ∧ (0 ≤ x3 + 2 ∧ x3 + 2 < S.1) ∧ (in32 (x3 + 3)) ∧ (0 ≤ x3 + 3 ∧ x3 + 3 < S.1) ∧ (∃ (v7 : Int) (m8 : Zm), Ct1 S mX3_sheet [Aq 0, Iq ((S.2 (x3 + 1).toNat).toInt), Iq ((S.2 (x3 + 2).toNat).toInt), Iq ((S.2 (x3 + 3).toNat).toInt)] mem (some (Iq v7)) m8 ∧ ((in32 (x3 + 1)) ∧ (0 ≤ x3 + 1 ∧ x3 + 1 < S.1) ∧ (in32 (x3 + 2)) ∧ (0 ≤ x3 + 2 ∧ x3 + 2 < S.1) ∧ (in32 (x3 + 3)) ∧ (0 ≤ x3 + 3 ∧ x3 + 3 < S.1) ∧ (∃ (v16 : Int) (m17 : Zm), Ct1 S mX4_sheet [Aq 34, Iq ((S.2 (x3 + 1).toNat).toInt), Iq ((S.2 (x3 + 2).toNat).toInt), Iq ((S.2 (x3 + 3).toNat).toInt)] m8 (some (Iq v16)) m17 ∧ ((((v7 = v16) → (PW S mL_law Q 1537 [some (Aq 103), some (Aq 0), some (Aq 34), some (Iq x3)] [] m17)) ∧ (¬ (v7 = v16) → (Q (some (Iq 0)) m17)))))))) :
    PW S mL_law Q 1257 [some (Aq 103), some (Aq 0), some (Aq 34), some (Iq x3)] [] mem := by
  refine pw_aload_n eL_law_1257 rfl rfl ?_
  refine pw_aload_n eL_law_1258 rfl rfl ?_
  refine pw_iload_n eL_law_1259 rfl rfl ?_
  refine pw_iconst eL_law_1260 ⟨by decide, by decide⟩ ?_
  obtain ⟨ob1, h⟩ := h
  refine pw_iadd eL_law_1261 ob1 ?_
  obtain ⟨ob2, h⟩ := h
  refine pw_scr eL_law_1262 ob2 ?_
  refine pw_aload_n eL_law_1263 rfl rfl ?_
  refine pw_iload_n eL_law_1264 rfl rfl ?_
  refine pw_iconst eL_law_1265 ⟨by decide, by decide⟩ ?_
  obtain ⟨ob3, h⟩ := h
  refine pw_iadd eL_law_1266 ob3 ?_
  obtain ⟨ob4, h⟩ := h
  refine pw_scr eL_law_1267 ob4 ?_
  refine pw_aload_n eL_law_1268 rfl rfl ?_
  refine pw_iload_n eL_law_1269 rfl rfl ?_
  refine pw_iconst eL_law_1270 ⟨by decide, by decide⟩ ?_
  obtain ⟨ob5, h⟩ := h
  refine pw_iadd eL_law_1271 ob5 ?_
  obtain ⟨ob6, h⟩ := h
  refine pw_scr eL_law_1272 ob6 ?_
  obtain ⟨v7, m8, hc9, h⟩ := h
  refine pw_cV (z := mX3_sheet) (av := [Iq ((S.2 (x3 + 1).toNat).toInt), Iq ((S.2 (x3 + 2).toNat).toInt), Iq ((S.2 (x3 + 3).toNat).toInt)]) (st := []) eL_law_1273 lk_RL_154 rfl (by decide) (by decide) sh0 rfl rfl (Nat.le_of_ble_eq_true rfl) rfl hc9 ?_
  show PW S mL_law Q 1276 [some (Aq 103), some (Aq 0), some (Aq 34), some (Iq x3)] [Iq v7] m8
  refine pw_aload_n eL_law_1276 rfl rfl ?_
  refine pw_aload_n eL_law_1277 rfl rfl ?_
  refine pw_iload_n eL_law_1278 rfl rfl ?_
  refine pw_iconst eL_law_1279 ⟨by decide, by decide⟩ ?_
  obtain ⟨ob10, h⟩ := h
  refine pw_iadd eL_law_1280 ob10 ?_
  obtain ⟨ob11, h⟩ := h
  refine pw_scr eL_law_1281 ob11 ?_
  refine pw_aload_n eL_law_1282 rfl rfl ?_
  refine pw_iload_n eL_law_1283 rfl rfl ?_
  refine pw_iconst eL_law_1284 ⟨by decide, by decide⟩ ?_
  obtain ⟨ob12, h⟩ := h
  refine pw_iadd eL_law_1285 ob12 ?_
  obtain ⟨ob13, h⟩ := h
  refine pw_scr eL_law_1286 ob13 ?_
  refine pw_aload_n eL_law_1287 rfl rfl ?_
  refine pw_iload_n eL_law_1288 rfl rfl ?_
  refine pw_iconst eL_law_1289 ⟨by decide, by decide⟩ ?_
  obtain ⟨ob14, h⟩ := h
  refine pw_iadd eL_law_1290 ob14 ?_
  obtain ⟨ob15, h⟩ := h
  refine pw_scr eL_law_1291 ob15 ?_
  obtain ⟨v16, m17, hc18, h⟩ := h
  refine pw_cV (z := mX4_sheet) (av := [Iq ((S.2 (x3 + 1).toNat).toInt), Iq ((S.2 (x3 + 2).toNat).toInt), Iq ((S.2 (x3 + 3).toNat).toInt)]) (st := [Iq v7]) eL_law_1292 lk_RL_157 rfl (by decide) (by decide) sh34 rfl rfl (Nat.le_of_ble_eq_true rfl) rfl hc18 ?_
  show PW S mL_law Q 1295 [some (Aq 103), some (Aq 0), some (Aq 34), some (Iq x3)] [Iq v16, Iq v7] m17
  refine pw_icmp_eq eL_law_1295 (fun c19 => ?_) (fun c19 => ?_)
  · have h := h.1 c19
    exact h
  · have h := h.2 c19
    refine pw_iconst eL_law_1298 ⟨by decide, by decide⟩ ?_
    exact pw_iret eL_law_1299 h

set_option maxRecDepth 100000 in
theorem rg_L_law_1300 {S : Sx} {Q : Option PV → Zm → Prop} {mem : Zm} {x3 : Int}
    (h : (in32 (x3 + 1)) ∧ (0 ≤ x3 + 1 ∧ x3 + 1 < S.1) ∧ (in32 (x3 + 2)) ∧ (0 ≤ x3 + 2 ∧ x3 + 2 < S.1) ∧ (in32 (x3 + 3)) ∧ (0 ≤ x3 + 3 ∧ x3 + 3 < S.1) ∧ (∃ (v7 : Int) (m8 : Zm), Ct1 S mX3_write [Aq 0, Iq ((S.2 (x3 + 1).toNat).toInt), Iq ((S.2 (x3 + 2).toNat).toInt), Iq ((S.2 (x3 + 3).toNat).toInt)] mem (some (Iq v7)) m8 ∧ ((in32 (x3 + 1)) ∧ (0 ≤ x3 + 1 ∧ x3 + 1 < S.1) ∧ (in32 (x3 + 2)) ∧ (0 ≤ x3 + 2 ∧ x3 + 2 < S.1) ∧ (in32 (x3 + 3)) ∧ (0 ≤ x3 + 3 ∧ x3 + 3 < S.1) ∧ (∃ (v16 : Int) (m17 : Zm), Ct1 S mX4_write [Aq 34, Iq ((S.2 (x3 + 1).toNat).toInt), Iq ((S.2 (x3 + 2).toNat).toInt), Iq ((S.2 (x3 + 3).toNat).toInt)] m8 (some (Iq v16)) m17 ∧ ((((v7 = v16) → (PW S mL_law Q 1537 [some (Aq 103), some (Aq 0), some (Aq 34), some (Iq x3)] [] m17)) ∧ (¬ (v7 = v16) → (Q (some (Iq 0)) m17)))))))) :
    PW S mL_law Q 1300 [some (Aq 103), some (Aq 0), some (Aq 34), some (Iq x3)] [] mem := by
  refine pw_aload_n eL_law_1300 rfl rfl ?_
  refine pw_aload_n eL_law_1301 rfl rfl ?_
  refine pw_iload_n eL_law_1302 rfl rfl ?_
  refine pw_iconst eL_law_1303 ⟨by decide, by decide⟩ ?_
  obtain ⟨ob1, h⟩ := h
  refine pw_iadd eL_law_1304 ob1 ?_
  obtain ⟨ob2, h⟩ := h
  refine pw_scr eL_law_1305 ob2 ?_
  refine pw_aload_n eL_law_1306 rfl rfl ?_
  refine pw_iload_n eL_law_1307 rfl rfl ?_
  refine pw_iconst eL_law_1308 ⟨by decide, by decide⟩ ?_
  obtain ⟨ob3, h⟩ := h
  refine pw_iadd eL_law_1309 ob3 ?_
  obtain ⟨ob4, h⟩ := h
  refine pw_scr eL_law_1310 ob4 ?_
  refine pw_aload_n eL_law_1311 rfl rfl ?_
  refine pw_iload_n eL_law_1312 rfl rfl ?_
  refine pw_iconst eL_law_1313 ⟨by decide, by decide⟩ ?_
  obtain ⟨ob5, h⟩ := h
  refine pw_iadd eL_law_1314 ob5 ?_
  obtain ⟨ob6, h⟩ := h
  refine pw_scr eL_law_1315 ob6 ?_
  obtain ⟨v7, m8, hc9, h⟩ := h
  refine pw_cV (z := mX3_write) (av := [Iq ((S.2 (x3 + 1).toNat).toInt), Iq ((S.2 (x3 + 2).toNat).toInt), Iq ((S.2 (x3 + 3).toNat).toInt)]) (st := []) eL_law_1316 lk_RL_158 rfl (by decide) (by decide) sh0 rfl rfl (Nat.le_of_ble_eq_true rfl) rfl hc9 ?_
  show PW S mL_law Q 1319 [some (Aq 103), some (Aq 0), some (Aq 34), some (Iq x3)] [Iq v7] m8
  refine pw_aload_n eL_law_1319 rfl rfl ?_
  refine pw_aload_n eL_law_1320 rfl rfl ?_
  refine pw_iload_n eL_law_1321 rfl rfl ?_
  refine pw_iconst eL_law_1322 ⟨by decide, by decide⟩ ?_
  obtain ⟨ob10, h⟩ := h
  refine pw_iadd eL_law_1323 ob10 ?_
  obtain ⟨ob11, h⟩ := h
  refine pw_scr eL_law_1324 ob11 ?_
  refine pw_aload_n eL_law_1325 rfl rfl ?_
  refine pw_iload_n eL_law_1326 rfl rfl ?_
  refine pw_iconst eL_law_1327 ⟨by decide, by decide⟩ ?_
  obtain ⟨ob12, h⟩ := h
  refine pw_iadd eL_law_1328 ob12 ?_
  obtain ⟨ob13, h⟩ := h
  refine pw_scr eL_law_1329 ob13 ?_
  refine pw_aload_n eL_law_1330 rfl rfl ?_
  refine pw_iload_n eL_law_1331 rfl rfl ?_
  refine pw_iconst eL_law_1332 ⟨by decide, by decide⟩ ?_
  obtain ⟨ob14, h⟩ := h
  refine pw_iadd eL_law_1333 ob14 ?_
  obtain ⟨ob15, h⟩ := h
  refine pw_scr eL_law_1334 ob15 ?_
  obtain ⟨v16, m17, hc18, h⟩ := h
  refine pw_cV (z := mX4_write) (av := [Iq ((S.2 (x3 + 1).toNat).toInt), Iq ((S.2 (x3 + 2).toNat).toInt), Iq ((S.2 (x3 + 3).toNat).toInt)]) (st := [Iq v7]) eL_law_1335 lk_RL_161 rfl (by decide) (by decide) sh34 rfl rfl (Nat.le_of_ble_eq_true rfl) rfl hc18 ?_
  show PW S mL_law Q 1338 [some (Aq 103), some (Aq 0), some (Aq 34), some (Iq x3)] [Iq v16, Iq v7] m17
  refine pw_icmp_eq eL_law_1338 (fun c19 => ?_) (fun c19 => ?_)
  · have h := h.1 c19
    exact h
  · have h := h.2 c19
    refine pw_iconst eL_law_1341 ⟨by decide, by decide⟩ ?_
    exact pw_iret eL_law_1342 h

set_option maxRecDepth 100000 in
theorem rg_L_law_1343 {S : Sx} {Q : Option PV → Zm → Prop} {mem : Zm} {x3 : Int}
    (h : (in32 (x3 + 1)) ∧ (0 ≤ x3 + 1 ∧ x3 + 1 < S.1) ∧ (in32 (x3 + 2)) ∧ (0 ≤ x3 + 2 ∧ x3 + 2 < S.1) ∧ (in32 (x3 + 3)) ∧ (0 ≤ x3 + 3 ∧ x3 + 3 < S.1) ∧ (in32 (x3 + 4)) ∧ (0 ≤ x3 + 4 ∧ x3 + 4 < S.1) ∧ (in32 (x3 + 5)) ∧ (0 ≤ x3 + 5 ∧ x3 + 5 < S.1) ∧ (∃ (v11 : Int) (m12 : Zm), Ct1 S mX3_copy [Aq 0, Iq ((S.2 (x3 + 1).toNat).toInt), Iq ((S.2 (x3 + 2).toNat).toInt), Iq ((S.2 (x3 + 3).toNat).toInt), Iq ((S.2 (x3 + 4).toNat).toInt), Iq ((S.2 (x3 + 5).toNat).toInt)] mem (some (Iq v11)) m12 ∧ ((in32 (x3 + 1)) ∧ (0 ≤ x3 + 1 ∧ x3 + 1 < S.1) ∧ (in32 (x3 + 2)) ∧ (0 ≤ x3 + 2 ∧ x3 + 2 < S.1) ∧ (in32 (x3 + 3)) ∧ (0 ≤ x3 + 3 ∧ x3 + 3 < S.1) ∧ (in32 (x3 + 4)) ∧ (0 ≤ x3 + 4 ∧ x3 + 4 < S.1) ∧ (in32 (x3 + 5)) ∧ (0 ≤ x3 + 5 ∧ x3 + 5 < S.1) ∧ (∃ (v24 : Int) (m25 : Zm), Ct1 S mX4_copy [Aq 34, Iq ((S.2 (x3 + 1).toNat).toInt), Iq ((S.2 (x3 + 2).toNat).toInt), Iq ((S.2 (x3 + 3).toNat).toInt), Iq ((S.2 (x3 + 4).toNat).toInt), Iq ((S.2 (x3 + 5).toNat).toInt)] m12 (some (Iq v24)) m25 ∧ ((((v11 = v24) → (PW S mL_law Q 1537 [some (Aq 103), some (Aq 0), some (Aq 34), some (Iq x3)] [] m25)) ∧ (¬ (v11 = v24) → (Q (some (Iq 0)) m25)))))))) :
    PW S mL_law Q 1343 [some (Aq 103), some (Aq 0), some (Aq 34), some (Iq x3)] [] mem := by
  refine pw_aload_n eL_law_1343 rfl rfl ?_
  refine pw_aload_n eL_law_1344 rfl rfl ?_
  refine pw_iload_n eL_law_1345 rfl rfl ?_
  refine pw_iconst eL_law_1346 ⟨by decide, by decide⟩ ?_
  obtain ⟨ob1, h⟩ := h
  refine pw_iadd eL_law_1347 ob1 ?_
  obtain ⟨ob2, h⟩ := h
  refine pw_scr eL_law_1348 ob2 ?_
  refine pw_aload_n eL_law_1349 rfl rfl ?_
  refine pw_iload_n eL_law_1350 rfl rfl ?_
  refine pw_iconst eL_law_1351 ⟨by decide, by decide⟩ ?_
  obtain ⟨ob3, h⟩ := h
  refine pw_iadd eL_law_1352 ob3 ?_
  obtain ⟨ob4, h⟩ := h
  refine pw_scr eL_law_1353 ob4 ?_
  refine pw_aload_n eL_law_1354 rfl rfl ?_
  refine pw_iload_n eL_law_1355 rfl rfl ?_
  refine pw_iconst eL_law_1356 ⟨by decide, by decide⟩ ?_
  obtain ⟨ob5, h⟩ := h
  refine pw_iadd eL_law_1357 ob5 ?_
  obtain ⟨ob6, h⟩ := h
  refine pw_scr eL_law_1358 ob6 ?_
  refine pw_aload_n eL_law_1359 rfl rfl ?_
  refine pw_iload_n eL_law_1360 rfl rfl ?_
  refine pw_iconst eL_law_1361 ⟨by decide, by decide⟩ ?_
  obtain ⟨ob7, h⟩ := h
  refine pw_iadd eL_law_1362 ob7 ?_
  obtain ⟨ob8, h⟩ := h
  refine pw_scr eL_law_1363 ob8 ?_
  refine pw_aload_n eL_law_1364 rfl rfl ?_
  refine pw_iload_n eL_law_1365 rfl rfl ?_
  refine pw_iconst eL_law_1366 ⟨by decide, by decide⟩ ?_
  obtain ⟨ob9, h⟩ := h
  refine pw_iadd eL_law_1367 ob9 ?_
  obtain ⟨ob10, h⟩ := h
  refine pw_scr eL_law_1368 ob10 ?_
  obtain ⟨v11, m12, hc13, h⟩ := h
  refine pw_cV (z := mX3_copy) (av := [Iq ((S.2 (x3 + 1).toNat).toInt), Iq ((S.2 (x3 + 2).toNat).toInt), Iq ((S.2 (x3 + 3).toNat).toInt), Iq ((S.2 (x3 + 4).toNat).toInt), Iq ((S.2 (x3 + 5).toNat).toInt)]) (st := []) eL_law_1369 lk_RL_162 rfl (by decide) (by decide) sh0 rfl rfl (Nat.le_of_ble_eq_true rfl) rfl hc13 ?_
  show PW S mL_law Q 1372 [some (Aq 103), some (Aq 0), some (Aq 34), some (Iq x3)] [Iq v11] m12
  refine pw_aload_n eL_law_1372 rfl rfl ?_
  refine pw_aload_n eL_law_1373 rfl rfl ?_
  refine pw_iload_n eL_law_1374 rfl rfl ?_
  refine pw_iconst eL_law_1375 ⟨by decide, by decide⟩ ?_
  obtain ⟨ob14, h⟩ := h
  refine pw_iadd eL_law_1376 ob14 ?_
  obtain ⟨ob15, h⟩ := h
  refine pw_scr eL_law_1377 ob15 ?_
  refine pw_aload_n eL_law_1378 rfl rfl ?_
  refine pw_iload_n eL_law_1379 rfl rfl ?_
  refine pw_iconst eL_law_1380 ⟨by decide, by decide⟩ ?_
  obtain ⟨ob16, h⟩ := h
  refine pw_iadd eL_law_1381 ob16 ?_
  obtain ⟨ob17, h⟩ := h
  refine pw_scr eL_law_1382 ob17 ?_
  refine pw_aload_n eL_law_1383 rfl rfl ?_
  refine pw_iload_n eL_law_1384 rfl rfl ?_
  refine pw_iconst eL_law_1385 ⟨by decide, by decide⟩ ?_
  obtain ⟨ob18, h⟩ := h
  refine pw_iadd eL_law_1386 ob18 ?_
  obtain ⟨ob19, h⟩ := h
  refine pw_scr eL_law_1387 ob19 ?_
  refine pw_aload_n eL_law_1388 rfl rfl ?_
  refine pw_iload_n eL_law_1389 rfl rfl ?_
  refine pw_iconst eL_law_1390 ⟨by decide, by decide⟩ ?_
  obtain ⟨ob20, h⟩ := h
  refine pw_iadd eL_law_1391 ob20 ?_
  obtain ⟨ob21, h⟩ := h
  refine pw_scr eL_law_1392 ob21 ?_
  refine pw_aload_n eL_law_1393 rfl rfl ?_
  refine pw_iload_n eL_law_1394 rfl rfl ?_
  refine pw_iconst eL_law_1395 ⟨by decide, by decide⟩ ?_
  obtain ⟨ob22, h⟩ := h
  refine pw_iadd eL_law_1396 ob22 ?_
  obtain ⟨ob23, h⟩ := h
  refine pw_scr eL_law_1397 ob23 ?_
  obtain ⟨v24, m25, hc26, h⟩ := h
  refine pw_cV (z := mX4_copy) (av := [Iq ((S.2 (x3 + 1).toNat).toInt), Iq ((S.2 (x3 + 2).toNat).toInt), Iq ((S.2 (x3 + 3).toNat).toInt), Iq ((S.2 (x3 + 4).toNat).toInt), Iq ((S.2 (x3 + 5).toNat).toInt)]) (st := [Iq v11]) eL_law_1398 lk_RL_166 rfl (by decide) (by decide) sh34 rfl rfl (Nat.le_of_ble_eq_true rfl) rfl hc26 ?_
  show PW S mL_law Q 1401 [some (Aq 103), some (Aq 0), some (Aq 34), some (Iq x3)] [Iq v24, Iq v11] m25
  refine pw_icmp_eq eL_law_1401 (fun c27 => ?_) (fun c27 => ?_)
  · have h := h.1 c27
    exact h
  · have h := h.2 c27
    refine pw_iconst eL_law_1404 ⟨by decide, by decide⟩ ?_
    exact pw_iret eL_law_1405 h

set_option maxRecDepth 100000 in
theorem rg_L_law_1406 {S : Sx} {Q : Option PV → Zm → Prop} {mem : Zm} {x3 : Int}
    (h : (in32 (x3 + 1)) ∧ (0 ≤ x3 + 1 ∧ x3 + 1 < S.1) ∧ (∃ (v3 : Int) (m4 : Zm), Ct1 S mX3_load [Aq 0, Iq ((S.2 (x3 + 1).toNat).toInt)] mem (some (Iq v3)) m4 ∧ ((in32 (x3 + 1)) ∧ (0 ≤ x3 + 1 ∧ x3 + 1 < S.1) ∧ (∃ (v8 : Int) (m9 : Zm), Ct1 S mX4_load [Aq 34, Iq ((S.2 (x3 + 1).toNat).toInt)] m4 (some (Iq v8)) m9 ∧ ((((v3 = v8) → (PW S mL_law Q 1537 [some (Aq 103), some (Aq 0), some (Aq 34), some (Iq x3)] [] m9)) ∧ (¬ (v3 = v8) → (Q (some (Iq 0)) m9)))))))) :
    PW S mL_law Q 1406 [some (Aq 103), some (Aq 0), some (Aq 34), some (Iq x3)] [] mem := by
  refine pw_aload_n eL_law_1406 rfl rfl ?_
  refine pw_aload_n eL_law_1407 rfl rfl ?_
  refine pw_iload_n eL_law_1408 rfl rfl ?_
  refine pw_iconst eL_law_1409 ⟨by decide, by decide⟩ ?_
  obtain ⟨ob1, h⟩ := h
  refine pw_iadd eL_law_1410 ob1 ?_
  obtain ⟨ob2, h⟩ := h
  refine pw_scr eL_law_1411 ob2 ?_
  obtain ⟨v3, m4, hc5, h⟩ := h
  refine pw_cV (z := mX3_load) (av := [Iq ((S.2 (x3 + 1).toNat).toInt)]) (st := []) eL_law_1412 lk_RL_167 rfl (by decide) (by decide) sh0 rfl rfl (Nat.le_of_ble_eq_true rfl) rfl hc5 ?_
  show PW S mL_law Q 1415 [some (Aq 103), some (Aq 0), some (Aq 34), some (Iq x3)] [Iq v3] m4
  refine pw_aload_n eL_law_1415 rfl rfl ?_
  refine pw_aload_n eL_law_1416 rfl rfl ?_
  refine pw_iload_n eL_law_1417 rfl rfl ?_
  refine pw_iconst eL_law_1418 ⟨by decide, by decide⟩ ?_
  obtain ⟨ob6, h⟩ := h
  refine pw_iadd eL_law_1419 ob6 ?_
  obtain ⟨ob7, h⟩ := h
  refine pw_scr eL_law_1420 ob7 ?_
  obtain ⟨v8, m9, hc10, h⟩ := h
  refine pw_cV (z := mX4_load) (av := [Iq ((S.2 (x3 + 1).toNat).toInt)]) (st := [Iq v3]) eL_law_1421 lk_RL_170 rfl (by decide) (by decide) sh34 rfl rfl (Nat.le_of_ble_eq_true rfl) rfl hc10 ?_
  show PW S mL_law Q 1424 [some (Aq 103), some (Aq 0), some (Aq 34), some (Iq x3)] [Iq v8, Iq v3] m9
  refine pw_icmp_eq eL_law_1424 (fun c11 => ?_) (fun c11 => ?_)
  · have h := h.1 c11
    exact h
  · have h := h.2 c11
    refine pw_iconst eL_law_1427 ⟨by decide, by decide⟩ ?_
    exact pw_iret eL_law_1428 h

set_option maxRecDepth 100000 in
theorem rg_L_law_1429 {S : Sx} {Q : Option PV → Zm → Prop} {mem : Zm} {x3 : Int}
    (h : (in32 (x3 + 1)) ∧ (0 ≤ x3 + 1 ∧ x3 + 1 < S.1) ∧ (∃ (v3 : Int) (m4 : Zm), Ct1 S mX3_judge [Aq 0, Iq ((S.2 (x3 + 1).toNat).toInt)] mem (some (Iq v3)) m4 ∧ ((in32 (x3 + 1)) ∧ (0 ≤ x3 + 1 ∧ x3 + 1 < S.1) ∧ (∃ (v8 : Int) (m9 : Zm), Ct1 S mX4_judge [Aq 34, Iq ((S.2 (x3 + 1).toNat).toInt)] m4 (some (Iq v8)) m9 ∧ ((((v3 = v8) → (PW S mL_law Q 1537 [some (Aq 103), some (Aq 0), some (Aq 34), some (Iq x3)] [] m9)) ∧ (¬ (v3 = v8) → (Q (some (Iq 0)) m9)))))))) :
    PW S mL_law Q 1429 [some (Aq 103), some (Aq 0), some (Aq 34), some (Iq x3)] [] mem := by
  refine pw_aload_n eL_law_1429 rfl rfl ?_
  refine pw_aload_n eL_law_1430 rfl rfl ?_
  refine pw_iload_n eL_law_1431 rfl rfl ?_
  refine pw_iconst eL_law_1432 ⟨by decide, by decide⟩ ?_
  obtain ⟨ob1, h⟩ := h
  refine pw_iadd eL_law_1433 ob1 ?_
  obtain ⟨ob2, h⟩ := h
  refine pw_scr eL_law_1434 ob2 ?_
  obtain ⟨v3, m4, hc5, h⟩ := h
  refine pw_cV (z := mX3_judge) (av := [Iq ((S.2 (x3 + 1).toNat).toInt)]) (st := []) eL_law_1435 lk_RL_171 rfl (by decide) (by decide) sh0 rfl rfl (Nat.le_of_ble_eq_true rfl) rfl hc5 ?_
  show PW S mL_law Q 1438 [some (Aq 103), some (Aq 0), some (Aq 34), some (Iq x3)] [Iq v3] m4
  refine pw_aload_n eL_law_1438 rfl rfl ?_
  refine pw_aload_n eL_law_1439 rfl rfl ?_
  refine pw_iload_n eL_law_1440 rfl rfl ?_
  refine pw_iconst eL_law_1441 ⟨by decide, by decide⟩ ?_
  obtain ⟨ob6, h⟩ := h
  refine pw_iadd eL_law_1442 ob6 ?_
  obtain ⟨ob7, h⟩ := h
  refine pw_scr eL_law_1443 ob7 ?_
  obtain ⟨v8, m9, hc10, h⟩ := h
  refine pw_cV (z := mX4_judge) (av := [Iq ((S.2 (x3 + 1).toNat).toInt)]) (st := [Iq v3]) eL_law_1444 lk_RL_174 rfl (by decide) (by decide) sh34 rfl rfl (Nat.le_of_ble_eq_true rfl) rfl hc10 ?_
  show PW S mL_law Q 1447 [some (Aq 103), some (Aq 0), some (Aq 34), some (Iq x3)] [Iq v8, Iq v3] m9
  refine pw_icmp_eq eL_law_1447 (fun c11 => ?_) (fun c11 => ?_)
  · have h := h.1 c11
    exact h
  · have h := h.2 c11
    refine pw_iconst eL_law_1450 ⟨by decide, by decide⟩ ?_
    exact pw_iret eL_law_1451 h

set_option maxRecDepth 100000 in
theorem rg_L_law_1452 {S : Sx} {Q : Option PV → Zm → Prop} {mem : Zm} {x3 : Int}
    (h : (∃ (v1 : Int) (m2 : Zm), Ct1 S mX3_image [Aq 0] mem (some (Iq v1)) m2 ∧ ((∃ (v4 : Int) (m5 : Zm), Ct1 S mX4_image [Aq 34] m2 (some (Iq v4)) m5 ∧ ((((v1 = v4) → (PW S mL_law Q 1537 [some (Aq 103), some (Aq 0), some (Aq 34), some (Iq x3)] [] m5)) ∧ (¬ (v1 = v4) → (Q (some (Iq 0)) m5)))))))) :
    PW S mL_law Q 1452 [some (Aq 103), some (Aq 0), some (Aq 34), some (Iq x3)] [] mem := by
  refine pw_aload_n eL_law_1452 rfl rfl ?_
  obtain ⟨v1, m2, hc3, h⟩ := h
  refine pw_cV (z := mX3_image) (av := []) (st := []) eL_law_1453 lk_RL_175 rfl (by decide) (by decide) sh0 rfl rfl (Nat.le_of_ble_eq_true rfl) rfl hc3 ?_
  show PW S mL_law Q 1456 [some (Aq 103), some (Aq 0), some (Aq 34), some (Iq x3)] [Iq v1] m2
  refine pw_aload_n eL_law_1456 rfl rfl ?_
  obtain ⟨v4, m5, hc6, h⟩ := h
  refine pw_cV (z := mX4_image) (av := []) (st := [Iq v1]) eL_law_1457 lk_RL_178 rfl (by decide) (by decide) sh34 rfl rfl (Nat.le_of_ble_eq_true rfl) rfl hc6 ?_
  show PW S mL_law Q 1460 [some (Aq 103), some (Aq 0), some (Aq 34), some (Iq x3)] [Iq v4, Iq v1] m5
  refine pw_icmp_eq eL_law_1460 (fun c7 => ?_) (fun c7 => ?_)
  · have h := h.1 c7
    exact h
  · have h := h.2 c7
    refine pw_iconst eL_law_1463 ⟨by decide, by decide⟩ ?_
    exact pw_iret eL_law_1464 h

set_option maxRecDepth 100000 in
theorem rg_L_law_1465 {S : Sx} {Q : Option PV → Zm → Prop} {mem : Zm} {x3 : Int}
    (h : (∃ (v1 : Int) (m2 : Zm), Ct1 S mX3_undo [Aq 0] mem (some (Iq v1)) m2 ∧ ((∃ (v4 : Int) (m5 : Zm), Ct1 S mX4_undo [Aq 34] m2 (some (Iq v4)) m5 ∧ ((((v1 = v4) → (PW S mL_law Q 1537 [some (Aq 103), some (Aq 0), some (Aq 34), some (Iq x3)] [] m5)) ∧ (¬ (v1 = v4) → (Q (some (Iq 0)) m5)))))))) :
    PW S mL_law Q 1465 [some (Aq 103), some (Aq 0), some (Aq 34), some (Iq x3)] [] mem := by
  refine pw_aload_n eL_law_1465 rfl rfl ?_
  obtain ⟨v1, m2, hc3, h⟩ := h
  refine pw_cV (z := mX3_undo) (av := []) (st := []) eL_law_1466 lk_RL_179 rfl (by decide) (by decide) sh0 rfl rfl (Nat.le_of_ble_eq_true rfl) rfl hc3 ?_
  show PW S mL_law Q 1469 [some (Aq 103), some (Aq 0), some (Aq 34), some (Iq x3)] [Iq v1] m2
  refine pw_aload_n eL_law_1469 rfl rfl ?_
  obtain ⟨v4, m5, hc6, h⟩ := h
  refine pw_cV (z := mX4_undo) (av := []) (st := [Iq v1]) eL_law_1470 lk_RL_182 rfl (by decide) (by decide) sh34 rfl rfl (Nat.le_of_ble_eq_true rfl) rfl hc6 ?_
  show PW S mL_law Q 1473 [some (Aq 103), some (Aq 0), some (Aq 34), some (Iq x3)] [Iq v4, Iq v1] m5
  refine pw_icmp_eq eL_law_1473 (fun c7 => ?_) (fun c7 => ?_)
  · have h := h.1 c7
    exact h
  · have h := h.2 c7
    refine pw_iconst eL_law_1476 ⟨by decide, by decide⟩ ?_
    exact pw_iret eL_law_1477 h

set_option maxRecDepth 100000 in
theorem rg_L_law_1478 {S : Sx} {Q : Option PV → Zm → Prop} {mem : Zm} {x3 : Int}
    (h : (∃ (v1 : Int) (m2 : Zm), Ct1 S mX3_tear [Aq 0] mem (some (Iq v1)) m2 ∧ ((∃ (v4 : Int) (m5 : Zm), Ct1 S mX4_tear [Aq 34] m2 (some (Iq v4)) m5 ∧ ((((v1 = v4) → (PW S mL_law Q 1537 [some (Aq 103), some (Aq 0), some (Aq 34), some (Iq x3)] [] m5)) ∧ (¬ (v1 = v4) → (Q (some (Iq 0)) m5)))))))) :
    PW S mL_law Q 1478 [some (Aq 103), some (Aq 0), some (Aq 34), some (Iq x3)] [] mem := by
  refine pw_aload_n eL_law_1478 rfl rfl ?_
  obtain ⟨v1, m2, hc3, h⟩ := h
  refine pw_cV (z := mX3_tear) (av := []) (st := []) eL_law_1479 lk_RL_183 rfl (by decide) (by decide) sh0 rfl rfl (Nat.le_of_ble_eq_true rfl) rfl hc3 ?_
  show PW S mL_law Q 1482 [some (Aq 103), some (Aq 0), some (Aq 34), some (Iq x3)] [Iq v1] m2
  refine pw_aload_n eL_law_1482 rfl rfl ?_
  obtain ⟨v4, m5, hc6, h⟩ := h
  refine pw_cV (z := mX4_tear) (av := []) (st := [Iq v1]) eL_law_1483 lk_RL_186 rfl (by decide) (by decide) sh34 rfl rfl (Nat.le_of_ble_eq_true rfl) rfl hc6 ?_
  show PW S mL_law Q 1486 [some (Aq 103), some (Aq 0), some (Aq 34), some (Iq x3)] [Iq v4, Iq v1] m5
  refine pw_icmp_eq eL_law_1486 (fun c7 => ?_) (fun c7 => ?_)
  · have h := h.1 c7
    exact h
  · have h := h.2 c7
    refine pw_iconst eL_law_1489 ⟨by decide, by decide⟩ ?_
    exact pw_iret eL_law_1490 h

set_option maxRecDepth 100000 in
theorem rg_L_law_1491 {S : Sx} {Q : Option PV → Zm → Prop} {mem : Zm} {x3 : Int}
    (h : (in32 (x3 + 1)) ∧ (0 ≤ x3 + 1 ∧ x3 + 1 < S.1) ∧ (∃ (v3 : Int) (m4 : Zm), Ct1 S mX3_count [Aq 0, Iq ((S.2 (x3 + 1).toNat).toInt)] mem (some (Iq v3)) m4 ∧ ((in32 (x3 + 1)) ∧ (0 ≤ x3 + 1 ∧ x3 + 1 < S.1) ∧ (∃ (v8 : Int) (m9 : Zm), Ct1 S mX4_count [Aq 34, Iq ((S.2 (x3 + 1).toNat).toInt)] m4 (some (Iq v8)) m9 ∧ ((((v3 = v8) → (PW S mL_law Q 1537 [some (Aq 103), some (Aq 0), some (Aq 34), some (Iq x3)] [] m9)) ∧ (¬ (v3 = v8) → (Q (some (Iq 0)) m9)))))))) :
    PW S mL_law Q 1491 [some (Aq 103), some (Aq 0), some (Aq 34), some (Iq x3)] [] mem := by
  refine pw_aload_n eL_law_1491 rfl rfl ?_
  refine pw_aload_n eL_law_1492 rfl rfl ?_
  refine pw_iload_n eL_law_1493 rfl rfl ?_
  refine pw_iconst eL_law_1494 ⟨by decide, by decide⟩ ?_
  obtain ⟨ob1, h⟩ := h
  refine pw_iadd eL_law_1495 ob1 ?_
  obtain ⟨ob2, h⟩ := h
  refine pw_scr eL_law_1496 ob2 ?_
  obtain ⟨v3, m4, hc5, h⟩ := h
  refine pw_cV (z := mX3_count) (av := [Iq ((S.2 (x3 + 1).toNat).toInt)]) (st := []) eL_law_1497 lk_RL_187 rfl (by decide) (by decide) sh0 rfl rfl (Nat.le_of_ble_eq_true rfl) rfl hc5 ?_
  show PW S mL_law Q 1500 [some (Aq 103), some (Aq 0), some (Aq 34), some (Iq x3)] [Iq v3] m4
  refine pw_aload_n eL_law_1500 rfl rfl ?_
  refine pw_aload_n eL_law_1501 rfl rfl ?_
  refine pw_iload_n eL_law_1502 rfl rfl ?_
  refine pw_iconst eL_law_1503 ⟨by decide, by decide⟩ ?_
  obtain ⟨ob6, h⟩ := h
  refine pw_iadd eL_law_1504 ob6 ?_
  obtain ⟨ob7, h⟩ := h
  refine pw_scr eL_law_1505 ob7 ?_
  obtain ⟨v8, m9, hc10, h⟩ := h
  refine pw_cV (z := mX4_count) (av := [Iq ((S.2 (x3 + 1).toNat).toInt)]) (st := [Iq v3]) eL_law_1506 lk_RL_190 rfl (by decide) (by decide) sh34 rfl rfl (Nat.le_of_ble_eq_true rfl) rfl hc10 ?_
  show PW S mL_law Q 1509 [some (Aq 103), some (Aq 0), some (Aq 34), some (Iq x3)] [Iq v8, Iq v3] m9
  refine pw_icmp_eq eL_law_1509 (fun c11 => ?_) (fun c11 => ?_)
  · have h := h.1 c11
    exact h
  · have h := h.2 c11
    refine pw_iconst eL_law_1512 ⟨by decide, by decide⟩ ?_
    exact pw_iret eL_law_1513 h

set_option maxRecDepth 100000 in
theorem rg_L_law_1514 {S : Sx} {Q : Option PV → Zm → Prop} {mem : Zm} {x3 : Int}
    (h : (in32 (x3 + 1)) ∧ (0 ≤ x3 + 1 ∧ x3 + 1 < S.1) ∧ (∃ (v3 : Int) (m4 : Zm), Ct1 S mX3_status [Aq 0, Iq ((S.2 (x3 + 1).toNat).toInt)] mem (some (Iq v3)) m4 ∧ ((in32 (x3 + 1)) ∧ (0 ≤ x3 + 1 ∧ x3 + 1 < S.1) ∧ (∃ (v8 : Int) (m9 : Zm), Ct1 S mX4_status [Aq 34, Iq ((S.2 (x3 + 1).toNat).toInt)] m4 (some (Iq v8)) m9 ∧ ((((v3 = v8) → (PW S mL_law Q 1537 [some (Aq 103), some (Aq 0), some (Aq 34), some (Iq x3)] [] m9)) ∧ (¬ (v3 = v8) → (Q (some (Iq 0)) m9)))))))) :
    PW S mL_law Q 1514 [some (Aq 103), some (Aq 0), some (Aq 34), some (Iq x3)] [] mem := by
  refine pw_aload_n eL_law_1514 rfl rfl ?_
  refine pw_aload_n eL_law_1515 rfl rfl ?_
  refine pw_iload_n eL_law_1516 rfl rfl ?_
  refine pw_iconst eL_law_1517 ⟨by decide, by decide⟩ ?_
  obtain ⟨ob1, h⟩ := h
  refine pw_iadd eL_law_1518 ob1 ?_
  obtain ⟨ob2, h⟩ := h
  refine pw_scr eL_law_1519 ob2 ?_
  obtain ⟨v3, m4, hc5, h⟩ := h
  refine pw_cV (z := mX3_status) (av := [Iq ((S.2 (x3 + 1).toNat).toInt)]) (st := []) eL_law_1520 lk_RL_191 rfl (by decide) (by decide) sh0 rfl rfl (Nat.le_of_ble_eq_true rfl) rfl hc5 ?_
  show PW S mL_law Q 1523 [some (Aq 103), some (Aq 0), some (Aq 34), some (Iq x3)] [Iq v3] m4
  refine pw_aload_n eL_law_1523 rfl rfl ?_
  refine pw_aload_n eL_law_1524 rfl rfl ?_
  refine pw_iload_n eL_law_1525 rfl rfl ?_
  refine pw_iconst eL_law_1526 ⟨by decide, by decide⟩ ?_
  obtain ⟨ob6, h⟩ := h
  refine pw_iadd eL_law_1527 ob6 ?_
  obtain ⟨ob7, h⟩ := h
  refine pw_scr eL_law_1528 ob7 ?_
  obtain ⟨v8, m9, hc10, h⟩ := h
  refine pw_cV (z := mX4_status) (av := [Iq ((S.2 (x3 + 1).toNat).toInt)]) (st := [Iq v3]) eL_law_1529 lk_RL_194 rfl (by decide) (by decide) sh34 rfl rfl (Nat.le_of_ble_eq_true rfl) rfl hc10 ?_
  show PW S mL_law Q 1532 [some (Aq 103), some (Aq 0), some (Aq 34), some (Iq x3)] [Iq v8, Iq v3] m9
  refine pw_icmp_eq eL_law_1532 (fun c11 => ?_) (fun c11 => ?_)
  · have h := h.1 c11
    exact h
  · have h := h.2 c11
    refine pw_iconst eL_law_1535 ⟨by decide, by decide⟩ ?_
    exact pw_iret eL_law_1536 h

set_option maxRecDepth 100000 in
theorem rg_L_law_1537 {S : Sx} {Q : Option PV → Zm → Prop} {mem : Zm} {x3 : Int}
    (h : (in32 (x3 + 6)) ∧ PW S mL_law Q 18 [some (Aq 103), some (Aq 0), some (Aq 34), some (Iq (x3 + 6))] [] mem) :
    PW S mL_law Q 1537 [some (Aq 103), some (Aq 0), some (Aq 34), some (Iq x3)] [] mem := by
  obtain ⟨ob1, h⟩ := h
  refine pw_iinc (ls2 := [some (Aq 103), some (Aq 0), some (Aq 34), some (Iq (x3 + 6))]) eL_law_1537 rfl ob1 rfl ?_
  refine pw_goto eL_law_1540 ?_
  exact h
end RG

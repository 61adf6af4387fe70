/-! ===== what the arrays hold at the start ===== -/
def fR (i : Nat) : Nat → Int32 := fun j => Int32.ofInt (if j < i then 11 * (j : Int) + 14 else 0)
def fS (i : Nat) : Nat → Int32 := fun j => Int32.ofInt (if j < i then -1 else 0)
def fB : Nat → Int32 := fun j => Int32.ofInt (if j < 4 then -1 else 0)
def fG (i : Nat) : Nat → Int32 := fun j => Int32.ofInt (if j = 2 then 1 else if j = 3 then 2 else if 4 ≤ j ∧ j < 4 + i then 11 * ((j : Int) - 4) + 14 else 0)
def fG2 (i : Nat) : Nat → Int32 := fun j => Int32.ofInt (if j = 2 then 1 else if j = 3 then 2 else if 4 ≤ j ∧ j < 12 then 11 * ((j : Int) - 4) + 14 else if 124 ≤ j ∧ j < 124 + i then -1 else 0)
theorem fR_0 : fR 0 = fun _ => 0 := by
  funext j
  unfold fR
  rw [if_neg (by omega)]
  rfl
theorem fS_0 : fS 0 = fun _ => 0 := by
  funext j
  unfold fS
  rw [if_neg (by omega)]
  rfl
theorem fR_up (i : Nat) : upd (fR i) i (Int32.ofInt (11 * (i : Int) + 14)) = fR (i + 1) := by
  funext j
  unfold upd fR
  by_cases h : j = i
  · rw [if_pos h, if_pos (by omega), h]
  · rw [if_neg h]
    by_cases h2 : j < i
    · rw [if_pos h2, if_pos (by omega)]
    · rw [if_neg h2, if_neg (by omega)]
theorem fS_up (i : Nat) : upd (fS i) i (-1) = fS (i + 1) := by
  funext j
  unfold upd fS
  by_cases h : j = i
  · rw [if_pos h, if_pos (by omega)]
    decide
  · rw [if_neg h]
    by_cases h2 : j < i
    · rw [if_pos h2, if_pos (by omega)]
    · rw [if_neg h2, if_neg (by omega)]
theorem fB_eq : upd (upd (upd (upd (fun _ => 0) 0 (-1)) 1 (-1)) 2 (-1)) 3 (-1) = fB := by
  funext j
  unfold upd fB
  by_cases h : j < 4
  · rw [if_pos h]
    rcases (show j = 0 ∨ j = 1 ∨ j = 2 ∨ j = 3 by omega) with rfl | rfl | rfl | rfl <;> decide
  · rw [if_neg h, if_neg (by omega), if_neg (by omega), if_neg (by omega), if_neg (by omega)]
    rfl
theorem fG_0 : upd (upd (fun _ => 0) 2 1) 3 2 = fG 0 := by
  funext j
  unfold upd fG
  by_cases h2 : j = 2
  · subst h2; decide
  · by_cases h3 : j = 3
    · subst h3; decide
    · rw [if_neg h3, if_neg h2, if_neg h2, if_neg h3, if_neg (by omega)]
      rfl
theorem fG_up (i : Nat) : upd (fG i) (4 + i) (Int32.ofInt (11 * (i : Int) + 14)) = fG (i + 1) := by
  funext j
  unfold upd fG
  by_cases h : j = 4 + i
  · rw [if_pos h, if_neg (by omega), if_neg (by omega), if_pos (by omega)]
    congr 1
    omega
  · rw [if_neg h]
    by_cases h2 : j = 2
    · rw [if_pos h2, if_pos h2]
    · by_cases h3 : j = 3
      · rw [if_neg h2, if_pos h3, if_neg h2, if_pos h3]
      · rw [if_neg h2, if_neg h3, if_neg h2, if_neg h3]
        by_cases h4 : 4 ≤ j ∧ j < 4 + i
        · rw [if_pos h4, if_pos (by omega)]
        · rw [if_neg h4, if_neg (by omega)]
theorem fG2_0 : fG 8 = fG2 0 := by
  funext j
  unfold fG fG2
  by_cases h2 : j = 2
  · rw [if_pos h2, if_pos h2]
  · by_cases h3 : j = 3
    · rw [if_neg h2, if_pos h3, if_neg h2, if_pos h3]
    · rw [if_neg h2, if_neg h3, if_neg h2, if_neg h3]
      by_cases h4 : 4 ≤ j ∧ j < 12
      · rw [if_pos (by omega), if_pos h4]
      · rw [if_neg (by omega), if_neg h4, if_neg (by omega)]
theorem fG2_up (i : Nat) : upd (fG2 i) (124 + i) (-1) = fG2 (i + 1) := by
  funext j
  unfold upd fG2
  by_cases h : j = 124 + i
  · rw [if_pos h, if_neg (by omega), if_neg (by omega), if_neg (by omega), if_pos (by omega)]
    decide
  · rw [if_neg h]
    by_cases h2 : j = 2
    · rw [if_pos h2, if_pos h2]
    · by_cases h3 : j = 3
      · rw [if_neg h2, if_pos h3, if_neg h2, if_pos h3]
      · rw [if_neg h2, if_neg h3, if_neg h2, if_neg h3]
        by_cases h4 : 4 ≤ j ∧ j < 12
        · rw [if_pos h4, if_pos h4]
        · rw [if_neg h4, if_neg h4]
          by_cases h5 : 124 ≤ j ∧ j < 124 + i
          · rw [if_pos h5, if_pos (by omega)]
          · rw [if_neg h5, if_neg (by omega)]
theorem lI_8 : ∀ i : Nat, i < 8 → ¬ (8 : Int32) ≤ Int32.ofNat i := by decide
theorem lI_10 : ∀ i : Nat, i < 10 → ¬ (10 : Int32) ≤ Int32.ofNat i := by decide
theorem lI_mul : ∀ i : Nat, i < 8 → (11 : Int32) * Int32.ofNat i = Int32.ofInt (11 * (i : Int)) := by decide
theorem lI_add : ∀ i : Nat, i < 8 → Int32.ofInt (11 * (i : Int)) + 14 = Int32.ofInt (11 * (i : Int) + 14) := by decide
theorem lI_in8 : ∀ i : Nat, i < 8 → vp_in (Int32.ofNat i) 8 := by unfold vp_in; decide
theorem lI_in10 : ∀ i : Nat, i < 10 → vp_in (Int32.ofNat i) 10 := by unfold vp_in; decide
theorem lI_in4 : ∀ i : Nat, i < 8 → vp_in (Int32.ofNat (4 + i)) 134 := by unfold vp_in; decide
theorem lI_in124 : ∀ i : Nat, i < 10 → vp_in (Int32.ofNat (124 + i)) 134 := by unfold vp_in; decide
theorem lI_to : ∀ i : Nat, i < 10 → (Int32.ofNat i).toNatClampNeg = i := by decide
theorem lI_to4 : ∀ i : Nat, i < 8 → (Int32.ofNat (4 + i)).toNatClampNeg = 4 + i := by decide
theorem lI_to124 : ∀ i : Nat, i < 10 → (Int32.ofNat (124 + i)).toNatClampNeg = 124 + i := by decide
theorem lI_4 : ∀ i : Nat, i < 8 → (4 : Int32) + Int32.ofNat i = Int32.ofNat (4 + i) := by decide
theorem lI_124 : ∀ i : Nat, i < 10 → (124 : Int32) + Int32.ofNat i = Int32.ofNat (124 + i) := by decide
theorem lI_s : ∀ i : Nat, i < 10 → Int32.ofNat i + Int32.ofInt 1 = Int32.ofNat (i + 1) := by decide
set_option maxHeartbeats 4000000 in
set_option maxRecDepth 100000 in
theorem fill_loop {D : va_G} {C : Cz} {A : Nat → Prop} {p : Program} {l : Launch} {e : Env} {R : Room} {s : State} {m : MethodId} {args : Array Value} {below : List Frame} {meth : Method} {c : Code} {QF : State → Prop} {cells slots : Nat} {a : Nat} (hend : PZ mJ7_fill_53178 D C A p l e R s m args below meth c QF cells slots [(a, .inl (C.1, 10, .inl (fS 10)))] 20 [(2, .int 10), (3, .int 10), (0, .ref a), (1, .int (-1))] []) : ∀ k i : Nat, i + k = 10 → PZ mJ7_fill_53178 D C A p l e R s m args below meth c QF cells slots [(a, .inl (C.1, 10, .inl (fS i)))] 5 [(2, .int (Int32.ofNat i)), (3, .int 10), (0, .ref a), (1, .int (-1))] [] := by
  intro k
  induction k with
  | zero =>
    intro i hi
    obtain rfl : i = 10 := by omega
    refine cz_iload eJ7_fill_53178_5 rfl 0 rfl ?_
    refine cz_iload eJ7_fill_53178_6 rfl 1 rfl ?_
    refine cz_ge_t eJ7_fill_53178_7 (by decide) ?_
    exact hend
  | succ k ih =>
    intro i hi
    have hi2 : i < 10 := by omega
    refine cz_iload eJ7_fill_53178_5 rfl 0 rfl ?_
    refine cz_iload eJ7_fill_53178_6 rfl 1 rfl ?_
    refine cz_ge_f eJ7_fill_53178_7 (lI_10 i hi2) ?_
    refine cz_aload eJ7_fill_53178_10 rfl 2 rfl ?_
    refine cz_iload eJ7_fill_53178_11 rfl 0 rfl ?_
    refine cz_iload eJ7_fill_53178_12 rfl 3 rfl ?_
    refine cz_iast (ws2 := [(a, .inl (C.1, 10, .inl (fS (i + 1))))]) eJ7_fill_53178_13 0 rfl (lI_in10 i hi2) (by rw [lI_to i (by omega), fS_up i]; rfl) ?_
    refine cz_iinc (lv2 := [(2, .int (Int32.ofNat (i + 1))), (3, .int 10), (0, .ref a), (1, .int (-1))]) (v := Int32.ofNat (i + 1)) eJ7_fill_53178_14 0 rfl (lI_s i (by omega)) (by decide) rfl ?_
    exact cz_goto eJ7_fill_53178_17 (ih (i + 1) (by omega))
set_option maxHeartbeats 4000000 in
set_option maxRecDepth 100000 in
theorem ct_fill0 : CtF (fun _ => 0) (fS 10) := by
  refine CtF.of ?_
  intro D C A p l e s m below meth c QF a hend
  refine cz_iconst (v := 0) eJ7_fill_53178_0 (by decide) ?_
  refine cz_istore (lv2 := [(2, .int 0), (0, .ref a), (1, .int (-1))]) eJ7_fill_53178_1 rfl (by decide) rfl ?_
  refine cz_aload eJ7_fill_53178_2 rfl 1 rfl ?_
  refine cz_alen (v := 10) eJ7_fill_53178_3 0 rfl (by decide) ?_
  refine cz_istore (lv2 := [(3, .int 10), (2, .int 0), (0, .ref a), (1, .int (-1))]) eJ7_fill_53178_4 rfl (by decide) rfl ?_
  refine cz_lv (lv2 := [(2, .int 0), (3, .int 10), (0, .ref a), (1, .int (-1))]) [1, 0, 2, 3] rfl ?_
  refine cz_ws (ws2 := wF C a (fS 0)) (by rw [fS_0]) ?_
  exact fill_loop (hend _) 10 0 rfl
abbrev outX0 (C : Cz) (h0 : Nat) (u : Nat → Nat) : va_W := [(h0, .inr (0, [.ref (u 1), .ref (u 2), .ref (u 3), .ref (u 4), .ref (u 5), .ref (u 6), .int 2, .int 0, .int 0, .int 1])), ((u 1), .inl (C.1, 8, .inl (fR 8))), ((u 2), .inl (C.1, 48, .inl (fun _ => 0))), ((u 3), .inl (C.1, 64, .inl (fun _ => 0))), ((u 4), .inl (C.1, 10, .inl (fS 10))), ((u 5), .inl (C.1, 8, .inl (fun _ => 0))), ((u 6), .inl (C.1, 8, .inl (fun _ => 0)))]
set_option maxHeartbeats 4000000 in
set_option maxRecDepth 100000 in
theorem room_loop {D : va_G} {C : Cz} {A : Nat → Prop} {p : Program} {l : Launch} {e : Env} {R : Room} {s : State} {m : MethodId} {args : Array Value} {below : List Frame} {meth : Method} {c : Code} {QF : State → Prop} {cells slots : Nat} {h0 a1 a2 a3 a4 a5 a6 : Nat} (hend : PZ mX0_init D C A p l e R s m args below meth c QF cells slots [(h0, .inr (0, [.ref a1, .ref a2, .ref a3, .ref a4, .ref a5, .ref a6, .int 2, .int 0, .int 0, .int 1])), (a1, .inl (C.1, 8, .inl (fR 8))), (a2, .inl (C.1, 48, .inl (fun _ => 0))), (a3, .inl (C.1, 64, .inl (fun _ => 0))), (a4, .inl (C.1, 10, .inl (fun _ => 0))), (a5, .inl (C.1, 8, .inl (fun _ => 0))), (a6, .inl (C.1, 8, .inl (fun _ => 0)))] 99 [(1, .int 8), (0, .ref h0)] []) : ∀ k i : Nat, i + k = 8 → PZ mX0_init D C A p l e R s m args below meth c QF cells slots [(h0, .inr (0, [.ref a1, .ref a2, .ref a3, .ref a4, .ref a5, .ref a6, .int 2, .int 0, .int 0, .int 1])), (a1, .inl (C.1, 8, .inl (fR i))), (a2, .inl (C.1, 48, .inl (fun _ => 0))), (a3, .inl (C.1, 64, .inl (fun _ => 0))), (a4, .inl (C.1, 10, .inl (fun _ => 0))), (a5, .inl (C.1, 8, .inl (fun _ => 0))), (a6, .inl (C.1, 8, .inl (fun _ => 0)))] 74 [(1, .int (Int32.ofNat i)), (0, .ref h0)] [] := by
  intro k
  induction k with
  | zero =>
    intro i hi
    obtain rfl : i = 8 := by omega
    refine cz_iload eX0_init_74 rfl 0 rfl ?_
    refine cz_bipush (v := 8) eX0_init_75 (by decide) ?_
    refine cz_ge_t eX0_init_77 (by decide) ?_
    exact hend
  | succ k ih =>
    intro i hi
    have hi2 : i < 8 := by omega
    refine cz_iload eX0_init_74 rfl 0 rfl ?_
    refine cz_bipush (v := 8) eX0_init_75 (by decide) ?_
    refine cz_ge_f eX0_init_77 (lI_8 i hi2) ?_
    refine cz_aload eX0_init_80 rfl 1 rfl ?_
    refine cz_get (v := .ref a1) (T := TX0) (N := 10) (ci := 0) eX0_init_81 inX0 0 rfl rfl 0 (by decide) (in_gt 81 (by decide +kernel) rfl) rfl ?_
    refine cz_iload eX0_init_84 rfl 0 rfl ?_
    refine cz_bipush (v := 11) eX0_init_85 (by decide) ?_
    refine cz_iload eX0_init_87 rfl 0 rfl ?_
    refine cz_imul (v := Int32.ofInt (11 * (i : Int))) eX0_init_88 (lI_mul i hi2) ?_
    refine cz_bipush (v := 14) eX0_init_89 (by decide) ?_
    refine cz_iadd (v := Int32.ofInt (11 * (i : Int) + 14)) eX0_init_91 (lI_add i hi2) ?_
    refine cz_iast (ws2 := [(h0, .inr (0, [.ref a1, .ref a2, .ref a3, .ref a4, .ref a5, .ref a6, .int 2, .int 0, .int 0, .int 1])), (a1, .inl (C.1, 8, .inl (fR (i + 1)))), (a2, .inl (C.1, 48, .inl (fun _ => 0))), (a3, .inl (C.1, 64, .inl (fun _ => 0))), (a4, .inl (C.1, 10, .inl (fun _ => 0))), (a5, .inl (C.1, 8, .inl (fun _ => 0))), (a6, .inl (C.1, 8, .inl (fun _ => 0)))]) eX0_init_92 1 rfl (lI_in8 i hi2) (by rw [lI_to i (by omega), fR_up i]; rfl) ?_
    refine cz_iinc (lv2 := [(1, .int (Int32.ofNat (i + 1))), (0, .ref h0)]) (v := Int32.ofNat (i + 1)) eX0_init_93 0 rfl (lI_s i (by omega)) (by decide) rfl ?_
    exact cz_goto eX0_init_96 (ih (i + 1) (by omega))
set_option maxHeartbeats 4000000 in
set_option maxRecDepth 100000 in
theorem ct_X0i : Ctr mX0_init 6 146 0 [.null, .null, .null, .null, .null, .null, .int 0, .int 0, .int 0, .int 0] outX0 (fun _ => True) := by
  refine Ctr.of (by decide) (Nat.le_of_ble_eq_true rfl) rfl rfl ?_
  intro D C A p l e s m below meth c QF h0 hin hE hend
  refine cz_aload eX0_init_0 rfl 0 rfl ?_
  refine cz_obj eX0_init_1 (in_gt 77 (by decide +kernel) rfl) (Nat.le_of_ble_eq_true rfl) (Nat.le_of_ble_eq_true rfl) (Nat.le_of_ble_eq_true rfl) ?_
  refine cz_aload eX0_init_4 rfl 0 rfl ?_
  refine cz_bipush (v := 8) eX0_init_5 (by decide) ?_
  refine cz_newi (N := 8) eX0_init_7 (by decide) (by decide) (Nat.le_of_ble_eq_true rfl) (Nat.le_of_ble_eq_true rfl) (Nat.le_of_ble_eq_true rfl) (fun q7 => ?_)
  refine cz_ws (ws2 := [(h0, .inr (0, [.null, .null, .null, .null, .null, .null, .int 0, .int 0, .int 0, .int 0])), (q7, .inl (C.1, 8, .inl (fun _ => 0)))]) rfl ?_
  refine cz_putF (ty := tyX0 0) (T := TX0) (N := 10) (ci := 0) (ws2 := [(h0, .inr (0, [.ref q7, .null, .null, .null, .null, .null, .int 0, .int 0, .int 0, .int 0])), (q7, .inl (C.1, 8, .inl (fun _ => 0)))]) tyX0 hin eX0_init_9 inX0 tyX0_ok nmX0 0 rfl rfl 0 (by decide) (in_gt 81 (by decide +kernel) rfl) rfl rfl (by decide +kernel) rfl rfl (Nat.le_of_ble_eq_true rfl) rfl ?_
  refine cz_aload eX0_init_12 rfl 0 rfl ?_
  refine cz_bipush (v := 48) eX0_init_13 (by decide) ?_
  refine cz_newi (N := 48) eX0_init_15 (by decide) (by decide) (Nat.le_of_ble_eq_true rfl) (Nat.le_of_ble_eq_true rfl) (Nat.le_of_ble_eq_true rfl) (fun q15 => ?_)
  refine cz_ws (ws2 := [(h0, .inr (0, [.ref q7, .null, .null, .null, .null, .null, .int 0, .int 0, .int 0, .int 0])), (q7, .inl (C.1, 8, .inl (fun _ => 0))), (q15, .inl (C.1, 48, .inl (fun _ => 0)))]) rfl ?_
  refine cz_putF (ty := tyX0 1) (T := TX0) (N := 10) (ci := 0) (ws2 := [(h0, .inr (0, [.ref q7, .ref q15, .null, .null, .null, .null, .int 0, .int 0, .int 0, .int 0])), (q7, .inl (C.1, 8, .inl (fun _ => 0))), (q15, .inl (C.1, 48, .inl (fun _ => 0)))]) tyX0 hin eX0_init_17 inX0 tyX0_ok nmX0 0 rfl rfl 1 (by decide) (in_gt 84 (by decide +kernel) rfl) rfl rfl (by decide +kernel) rfl rfl (Nat.le_of_ble_eq_true rfl) rfl ?_
  refine cz_aload eX0_init_20 rfl 0 rfl ?_
  refine cz_bipush (v := 64) eX0_init_21 (by decide) ?_
  refine cz_newi (N := 64) eX0_init_23 (by decide) (by decide) (Nat.le_of_ble_eq_true rfl) (Nat.le_of_ble_eq_true rfl) (Nat.le_of_ble_eq_true rfl) (fun q23 => ?_)
  refine cz_ws (ws2 := [(h0, .inr (0, [.ref q7, .ref q15, .null, .null, .null, .null, .int 0, .int 0, .int 0, .int 0])), (q7, .inl (C.1, 8, .inl (fun _ => 0))), (q15, .inl (C.1, 48, .inl (fun _ => 0))), (q23, .inl (C.1, 64, .inl (fun _ => 0)))]) rfl ?_
  refine cz_putF (ty := tyX0 2) (T := TX0) (N := 10) (ci := 0) (ws2 := [(h0, .inr (0, [.ref q7, .ref q15, .ref q23, .null, .null, .null, .int 0, .int 0, .int 0, .int 0])), (q7, .inl (C.1, 8, .inl (fun _ => 0))), (q15, .inl (C.1, 48, .inl (fun _ => 0))), (q23, .inl (C.1, 64, .inl (fun _ => 0)))]) tyX0 hin eX0_init_25 inX0 tyX0_ok nmX0 0 rfl rfl 2 (by decide) (in_gt 85 (by decide +kernel) rfl) rfl rfl (by decide +kernel) rfl rfl (Nat.le_of_ble_eq_true rfl) rfl ?_
  refine cz_aload eX0_init_28 rfl 0 rfl ?_
  refine cz_bipush (v := 10) eX0_init_29 (by decide) ?_
  refine cz_newi (N := 10) eX0_init_31 (by decide) (by decide) (Nat.le_of_ble_eq_true rfl) (Nat.le_of_ble_eq_true rfl) (Nat.le_of_ble_eq_true rfl) (fun q31 => ?_)
  refine cz_ws (ws2 := [(h0, .inr (0, [.ref q7, .ref q15, .ref q23, .null, .null, .null, .int 0, .int 0, .int 0, .int 0])), (q7, .inl (C.1, 8, .inl (fun _ => 0))), (q15, .inl (C.1, 48, .inl (fun _ => 0))), (q23, .inl (C.1, 64, .inl (fun _ => 0))), (q31, .inl (C.1, 10, .inl (fun _ => 0)))]) rfl ?_
  refine cz_putF (ty := tyX0 3) (T := TX0) (N := 10) (ci := 0) (ws2 := [(h0, .inr (0, [.ref q7, .ref q15, .ref q23, .ref q31, .null, .null, .int 0, .int 0, .int 0, .int 0])), (q7, .inl (C.1, 8, .inl (fun _ => 0))), (q15, .inl (C.1, 48, .inl (fun _ => 0))), (q23, .inl (C.1, 64, .inl (fun _ => 0))), (q31, .inl (C.1, 10, .inl (fun _ => 0)))]) tyX0 hin eX0_init_33 inX0 tyX0_ok nmX0 0 rfl rfl 3 (by decide) (in_gt 86 (by decide +kernel) rfl) rfl rfl (by decide +kernel) rfl rfl (Nat.le_of_ble_eq_true rfl) rfl ?_
  refine cz_aload eX0_init_36 rfl 0 rfl ?_
  refine cz_bipush (v := 8) eX0_init_37 (by decide) ?_
  refine cz_newi (N := 8) eX0_init_39 (by decide) (by decide) (Nat.le_of_ble_eq_true rfl) (Nat.le_of_ble_eq_true rfl) (Nat.le_of_ble_eq_true rfl) (fun q39 => ?_)
  refine cz_ws (ws2 := [(h0, .inr (0, [.ref q7, .ref q15, .ref q23, .ref q31, .null, .null, .int 0, .int 0, .int 0, .int 0])), (q7, .inl (C.1, 8, .inl (fun _ => 0))), (q15, .inl (C.1, 48, .inl (fun _ => 0))), (q23, .inl (C.1, 64, .inl (fun _ => 0))), (q31, .inl (C.1, 10, .inl (fun _ => 0))), (q39, .inl (C.1, 8, .inl (fun _ => 0)))]) rfl ?_
  refine cz_putF (ty := tyX0 4) (T := TX0) (N := 10) (ci := 0) (ws2 := [(h0, .inr (0, [.ref q7, .ref q15, .ref q23, .ref q31, .ref q39, .null, .int 0, .int 0, .int 0, .int 0])), (q7, .inl (C.1, 8, .inl (fun _ => 0))), (q15, .inl (C.1, 48, .inl (fun _ => 0))), (q23, .inl (C.1, 64, .inl (fun _ => 0))), (q31, .inl (C.1, 10, .inl (fun _ => 0))), (q39, .inl (C.1, 8, .inl (fun _ => 0)))]) tyX0 hin eX0_init_41 inX0 tyX0_ok nmX0 0 rfl rfl 4 (by decide) (in_gt 88 (by decide +kernel) rfl) rfl rfl (by decide +kernel) rfl rfl (Nat.le_of_ble_eq_true rfl) rfl ?_
  refine cz_aload eX0_init_44 rfl 0 rfl ?_
  refine cz_bipush (v := 8) eX0_init_45 (by decide) ?_
  refine cz_newi (N := 8) eX0_init_47 (by decide) (by decide) (Nat.le_of_ble_eq_true rfl) (Nat.le_of_ble_eq_true rfl) (Nat.le_of_ble_eq_true rfl) (fun q47 => ?_)
  refine cz_ws (ws2 := [(h0, .inr (0, [.ref q7, .ref q15, .ref q23, .ref q31, .ref q39, .null, .int 0, .int 0, .int 0, .int 0])), (q7, .inl (C.1, 8, .inl (fun _ => 0))), (q15, .inl (C.1, 48, .inl (fun _ => 0))), (q23, .inl (C.1, 64, .inl (fun _ => 0))), (q31, .inl (C.1, 10, .inl (fun _ => 0))), (q39, .inl (C.1, 8, .inl (fun _ => 0))), (q47, .inl (C.1, 8, .inl (fun _ => 0)))]) rfl ?_
  refine cz_putF (ty := tyX0 5) (T := TX0) (N := 10) (ci := 0) (ws2 := [(h0, .inr (0, [.ref q7, .ref q15, .ref q23, .ref q31, .ref q39, .ref q47, .int 0, .int 0, .int 0, .int 0])), (q7, .inl (C.1, 8, .inl (fun _ => 0))), (q15, .inl (C.1, 48, .inl (fun _ => 0))), (q23, .inl (C.1, 64, .inl (fun _ => 0))), (q31, .inl (C.1, 10, .inl (fun _ => 0))), (q39, .inl (C.1, 8, .inl (fun _ => 0))), (q47, .inl (C.1, 8, .inl (fun _ => 0)))]) tyX0 hin eX0_init_49 inX0 tyX0_ok nmX0 0 rfl rfl 5 (by decide) (in_gt 89 (by decide +kernel) rfl) rfl rfl (by decide +kernel) rfl rfl (Nat.le_of_ble_eq_true rfl) rfl ?_
  refine cz_aload eX0_init_52 rfl 0 rfl ?_
  refine cz_iconst (v := 2) eX0_init_53 (by decide) ?_
  refine cz_put (ty := tyX0 6) (T := TX0) (N := 10) (ci := 0) (ws2 := [(h0, .inr (0, [.ref q7, .ref q15, .ref q23, .ref q31, .ref q39, .ref q47, .int 2, .int 0, .int 0, .int 0])), (q7, .inl (C.1, 8, .inl (fun _ => 0))), (q15, .inl (C.1, 48, .inl (fun _ => 0))), (q23, .inl (C.1, 64, .inl (fun _ => 0))), (q31, .inl (C.1, 10, .inl (fun _ => 0))), (q39, .inl (C.1, 8, .inl (fun _ => 0))), (q47, .inl (C.1, 8, .inl (fun _ => 0)))]) tyX0 eX0_init_54 inX0 tyX0_ok nmX0 0 rfl rfl 6 (by decide) (in_gt 90 (by decide +kernel) rfl) rfl (by decide +kernel) rfl rfl (Nat.le_of_ble_eq_true rfl) rfl ?_
  refine cz_aload eX0_init_57 rfl 0 rfl ?_
  refine cz_iconst (v := 0) eX0_init_58 (by decide) ?_
  refine cz_put (ty := tyX0 7) (T := TX0) (N := 10) (ci := 0) (ws2 := [(h0, .inr (0, [.ref q7, .ref q15, .ref q23, .ref q31, .ref q39, .ref q47, .int 2, .int 0, .int 0, .int 0])), (q7, .inl (C.1, 8, .inl (fun _ => 0))), (q15, .inl (C.1, 48, .inl (fun _ => 0))), (q23, .inl (C.1, 64, .inl (fun _ => 0))), (q31, .inl (C.1, 10, .inl (fun _ => 0))), (q39, .inl (C.1, 8, .inl (fun _ => 0))), (q47, .inl (C.1, 8, .inl (fun _ => 0)))]) tyX0 eX0_init_59 inX0 tyX0_ok nmX0 0 rfl rfl 7 (by decide) (in_gt 93 (by decide +kernel) rfl) rfl (by decide +kernel) rfl rfl (Nat.le_of_ble_eq_true rfl) rfl ?_
  refine cz_aload eX0_init_62 rfl 0 rfl ?_
  refine cz_iconst (v := 0) eX0_init_63 (by decide) ?_
  refine cz_put (ty := tyX0 8) (T := TX0) (N := 10) (ci := 0) (ws2 := [(h0, .inr (0, [.ref q7, .ref q15, .ref q23, .ref q31, .ref q39, .ref q47, .int 2, .int 0, .int 0, .int 0])), (q7, .inl (C.1, 8, .inl (fun _ => 0))), (q15, .inl (C.1, 48, .inl (fun _ => 0))), (q23, .inl (C.1, 64, .inl (fun _ => 0))), (q31, .inl (C.1, 10, .inl (fun _ => 0))), (q39, .inl (C.1, 8, .inl (fun _ => 0))), (q47, .inl (C.1, 8, .inl (fun _ => 0)))]) tyX0 eX0_init_64 inX0 tyX0_ok nmX0 0 rfl rfl 8 (by decide) (in_gt 96 (by decide +kernel) rfl) rfl (by decide +kernel) rfl rfl (Nat.le_of_ble_eq_true rfl) rfl ?_
  refine cz_aload eX0_init_67 rfl 0 rfl ?_
  refine cz_iconst (v := 1) eX0_init_68 (by decide) ?_
  refine cz_put (ty := tyX0 9) (T := TX0) (N := 10) (ci := 0) (ws2 := [(h0, .inr (0, [.ref q7, .ref q15, .ref q23, .ref q31, .ref q39, .ref q47, .int 2, .int 0, .int 0, .int 1])), (q7, .inl (C.1, 8, .inl (fun _ => 0))), (q15, .inl (C.1, 48, .inl (fun _ => 0))), (q23, .inl (C.1, 64, .inl (fun _ => 0))), (q31, .inl (C.1, 10, .inl (fun _ => 0))), (q39, .inl (C.1, 8, .inl (fun _ => 0))), (q47, .inl (C.1, 8, .inl (fun _ => 0)))]) tyX0 eX0_init_69 inX0 tyX0_ok nmX0 0 rfl rfl 9 (by decide) (in_gt 98 (by decide +kernel) rfl) rfl (by decide +kernel) rfl rfl (Nat.le_of_ble_eq_true rfl) rfl ?_
  refine cz_iconst (v := 0) eX0_init_72 (by decide) ?_
  refine cz_istore (lv2 := [(1, .int 0), (0, .ref h0)]) eX0_init_73 rfl (by decide) rfl ?_
  refine cz_ws (ws2 := [(h0, .inr (0, [.ref q7, .ref q15, .ref q23, .ref q31, .ref q39, .ref q47, .int 2, .int 0, .int 0, .int 1])), (q7, .inl (C.1, 8, .inl (fR 0))), (q15, .inl (C.1, 48, .inl (fun _ => 0))), (q23, .inl (C.1, 64, .inl (fun _ => 0))), (q31, .inl (C.1, 10, .inl (fun _ => 0))), (q39, .inl (C.1, 8, .inl (fun _ => 0))), (q47, .inl (C.1, 8, .inl (fun _ => 0)))]) (by rw [fR_0]) ?_
  refine room_loop ?_ 8 0 rfl
  refine cz_aload eX0_init_99 rfl 1 rfl ?_
  refine cz_get (v := .ref q31) (T := TX0) (N := 10) (ci := 0) eX0_init_100 inX0 0 rfl rfl 3 (by decide) (in_gt 86 (by decide +kernel) rfl) rfl ?_
  refine cz_iconst (v := -1) eX0_init_103 (by decide) ?_
  refine cz_fill (wr := [(h0, .inr (0, [.ref q7, .ref q15, .ref q23, .ref q31, .ref q39, .ref q47, .int 2, .int 0, .int 0, .int 1])), (q7, .inl (C.1, 8, .inl (fR 8))), (q15, .inl (C.1, 48, .inl (fun _ => 0))), (q23, .inl (C.1, 64, .inl (fun _ => 0))), (q39, .inl (C.1, 8, .inl (fun _ => 0))), (q47, .inl (C.1, 8, .inl (fun _ => 0)))]) eX0_init_104 ct_fill0 (in_gt 78 (by decide +kernel) rfl) (Nat.le_of_ble_eq_true rfl) (Nat.le_of_ble_eq_true rfl) (Nat.le_of_ble_eq_true rfl) (Nat.le_of_ble_eq_true rfl) (Nat.le_of_ble_eq_true rfl) [0, 1, 2, 3, 5, 6] 4 rfl rfl (by decide) (by decide) ?_
  refine cz_sub (ws2 := [(h0, .inr (0, [.ref q7, .ref q15, .ref q23, .ref q31, .ref q39, .ref q47, .int 2, .int 0, .int 0, .int 1])), (q7, .inl (C.1, 8, .inl (fR 8))), (q15, .inl (C.1, 48, .inl (fun _ => 0))), (q23, .inl (C.1, 64, .inl (fun _ => 0))), (q31, .inl (C.1, 10, .inl (fS 10))), (q39, .inl (C.1, 8, .inl (fun _ => 0))), (q47, .inl (C.1, 8, .inl (fun _ => 0)))]) [0, 1, 2, 3, 6, 4, 5] (by decide) rfl rfl ?_
  exact hend (fun k => [h0, q7, q15, q23, q31, q39, q47].getD k 0) 107 _ eX0_init_107

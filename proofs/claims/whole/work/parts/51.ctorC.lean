/-! ===== the constructor of SumsCopiedModel ===== -/
abbrev outX4 (C : Cz) (h0 : Nat) (u : Nat → Nat) : va_W := [(h0, .inr (4, [.ref (u 1), .ref (u 2), .ref (u 3), .ref (u 4), .int 0, .ref (u 5), .ref (u 6), .int 0, .ref (u 7), .ref (u 8), .ref (u 9), .int 0, .int 0, .int 0, .int 0, .int 0, .int 0, .int 0])), ((u 1), .inl (C.1, 134, .inl (fG2 10))), ((u 2), .inl (C.1, 134, .inl (fun _ => 0))), ((u 3), .inl (C.1, 134, .inl (fun _ => 0))), ((u 4), .inl (C.1, 134, .inl (fun _ => 0))), ((u 5), .inl (C.1, 8, .inl (fun _ => 0))), ((u 6), .inl (C.1, 120, .inl (fun _ => 0))), ((u 7), .inl (C.1, 4, .inl fB)), ((u 8), .inl (C.1, 4, .inl (fun _ => 0))), ((u 9), .inl (C.1, 160, .inl (fun _ => 0)))]
set_option maxHeartbeats 4000000 in
set_option maxRecDepth 100000 in
theorem model_loop1 {D : va_G} {C : Cz} {A : Nat → Prop} {p : Program} {l : Launch} {e : Env} {R : Room} {s : State} {m : MethodId} {args : Array Value} {below : List Frame} {meth : Method} {c : Code} {QF : State → Prop} {cells slots : Nat} {h0 a1 a2 a3 a4 a5 a6 a7 a8 a9 : Nat} (hend : PZ mX4_init D C A p l e R s m args below meth c QF cells slots [(h0, .inr (4, [.ref a1, .ref a2, .ref a3, .ref a4, .int 0, .ref a5, .ref a6, .int 0, .ref a7, .ref a8, .ref a9, .int 0, .int 0, .int 0, .int 0, .int 0, .int 0, .int 0])), (a1, .inl (C.1, 134, .inl (fG 8))), (a2, .inl (C.1, 134, .inl (fun _ => 0))), (a3, .inl (C.1, 134, .inl (fun _ => 0))), (a4, .inl (C.1, 134, .inl (fun _ => 0))), (a5, .inl (C.1, 8, .inl (fun _ => 0))), (a6, .inl (C.1, 120, .inl (fun _ => 0))), (a7, .inl (C.1, 4, .inl fB)), (a8, .inl (C.1, 4, .inl (fun _ => 0))), (a9, .inl (C.1, 160, .inl (fun _ => 0)))] 138 [(1, .int 8), (0, .ref h0)] []) : ∀ k i : Nat, i + k = 8 → PZ mX4_init D C A p l e R s m args below meth c QF cells slots [(h0, .inr (4, [.ref a1, .ref a2, .ref a3, .ref a4, .int 0, .ref a5, .ref a6, .int 0, .ref a7, .ref a8, .ref a9, .int 0, .int 0, .int 0, .int 0, .int 0, .int 0, .int 0])), (a1, .inl (C.1, 134, .inl (fG i))), (a2, .inl (C.1, 134, .inl (fun _ => 0))), (a3, .inl (C.1, 134, .inl (fun _ => 0))), (a4, .inl (C.1, 134, .inl (fun _ => 0))), (a5, .inl (C.1, 8, .inl (fun _ => 0))), (a6, .inl (C.1, 120, .inl (fun _ => 0))), (a7, .inl (C.1, 4, .inl fB)), (a8, .inl (C.1, 4, .inl (fun _ => 0))), (a9, .inl (C.1, 160, .inl (fun _ => 0)))] 111 [(1, .int (Int32.ofNat i)), (0, .ref h0)] [] := by
  intro k
  induction k with
  | zero =>
    intro i hi
    obtain rfl : i = 8 := by omega
    refine cz_iload eX4_init_111 rfl 0 rfl ?_
    refine cz_bipush (v := 8) eX4_init_112 (by decide) ?_
    refine cz_ge_t eX4_init_114 (by decide) ?_
    exact hend
  | succ k ih =>
    intro i hi
    have hi2 : i < 8 := by omega
    refine cz_iload eX4_init_111 rfl 0 rfl ?_
    refine cz_bipush (v := 8) eX4_init_112 (by decide) ?_
    refine cz_ge_f eX4_init_114 (lI_8 i hi2) ?_
    refine cz_aload eX4_init_117 rfl 1 rfl ?_
    refine cz_get (v := .ref a1) (T := TX4) (N := 18) (ci := 4) eX4_init_118 inX4 0 rfl rfl 0 (by decide) (in_gt 656 (by decide +kernel) rfl) rfl ?_
    refine cz_iconst (v := 4) eX4_init_121 (by decide) ?_
    refine cz_iload eX4_init_122 rfl 0 rfl ?_
    refine cz_iadd (v := Int32.ofNat (4 + i)) eX4_init_123 (lI_4 i hi2) ?_
    refine cz_bipush (v := 11) eX4_init_124 (by decide) ?_
    refine cz_iload eX4_init_126 rfl 0 rfl ?_
    refine cz_imul (v := Int32.ofInt (11 * (i : Int))) eX4_init_127 (lI_mul i hi2) ?_
    refine cz_bipush (v := 14) eX4_init_128 (by decide) ?_
    refine cz_iadd (v := Int32.ofInt (11 * (i : Int) + 14)) eX4_init_130 (lI_add i hi2) ?_
    refine cz_iast (ws2 := [(h0, .inr (4, [.ref a1, .ref a2, .ref a3, .ref a4, .int 0, .ref a5, .ref a6, .int 0, .ref a7, .ref a8, .ref a9, .int 0, .int 0, .int 0, .int 0, .int 0, .int 0, .int 0])), (a1, .inl (C.1, 134, .inl (fG (i + 1)))), (a2, .inl (C.1, 134, .inl (fun _ => 0))), (a3, .inl (C.1, 134, .inl (fun _ => 0))), (a4, .inl (C.1, 134, .inl (fun _ => 0))), (a5, .inl (C.1, 8, .inl (fun _ => 0))), (a6, .inl (C.1, 120, .inl (fun _ => 0))), (a7, .inl (C.1, 4, .inl fB)), (a8, .inl (C.1, 4, .inl (fun _ => 0))), (a9, .inl (C.1, 160, .inl (fun _ => 0)))]) eX4_init_131 1 rfl (lI_in4 i hi2) (by rw [lI_to4 i (by omega), fG_up i]; rfl) ?_
    refine cz_iinc (lv2 := [(1, .int (Int32.ofNat (i + 1))), (0, .ref h0)]) (v := Int32.ofNat (i + 1)) eX4_init_132 0 rfl (lI_s i (by omega)) (by decide) rfl ?_
    exact cz_goto eX4_init_135 (ih (i + 1) (by omega))
set_option maxHeartbeats 4000000 in
set_option maxRecDepth 100000 in
theorem model_loop2 {D : va_G} {C : Cz} {A : Nat → Prop} {p : Program} {l : Launch} {e : Env} {R : Room} {s : State} {m : MethodId} {args : Array Value} {below : List Frame} {meth : Method} {c : Code} {QF : State → Prop} {cells slots : Nat} {h0 a1 a2 a3 a4 a5 a6 a7 a8 a9 : Nat} (hend : PZ mX4_init D C A p l e R s m args below meth c QF cells slots [(h0, .inr (4, [.ref a1, .ref a2, .ref a3, .ref a4, .int 0, .ref a5, .ref a6, .int 0, .ref a7, .ref a8, .ref a9, .int 0, .int 0, .int 0, .int 0, .int 0, .int 0, .int 0])), (a1, .inl (C.1, 134, .inl (fG2 10))), (a2, .inl (C.1, 134, .inl (fun _ => 0))), (a3, .inl (C.1, 134, .inl (fun _ => 0))), (a4, .inl (C.1, 134, .inl (fun _ => 0))), (a5, .inl (C.1, 8, .inl (fun _ => 0))), (a6, .inl (C.1, 120, .inl (fun _ => 0))), (a7, .inl (C.1, 4, .inl fB)), (a8, .inl (C.1, 4, .inl (fun _ => 0))), (a9, .inl (C.1, 160, .inl (fun _ => 0)))] 162 [(1, .int 10), (0, .ref h0)] []) : ∀ k i : Nat, i + k = 10 → PZ mX4_init D C A p l e R s m args below meth c QF cells slots [(h0, .inr (4, [.ref a1, .ref a2, .ref a3, .ref a4, .int 0, .ref a5, .ref a6, .int 0, .ref a7, .ref a8, .ref a9, .int 0, .int 0, .int 0, .int 0, .int 0, .int 0, .int 0])), (a1, .inl (C.1, 134, .inl (fG2 i))), (a2, .inl (C.1, 134, .inl (fun _ => 0))), (a3, .inl (C.1, 134, .inl (fun _ => 0))), (a4, .inl (C.1, 134, .inl (fun _ => 0))), (a5, .inl (C.1, 8, .inl (fun _ => 0))), (a6, .inl (C.1, 120, .inl (fun _ => 0))), (a7, .inl (C.1, 4, .inl fB)), (a8, .inl (C.1, 4, .inl (fun _ => 0))), (a9, .inl (C.1, 160, .inl (fun _ => 0)))] 140 [(1, .int (Int32.ofNat i)), (0, .ref h0)] [] := by
  intro k
  induction k with
  | zero =>
    intro i hi
    obtain rfl : i = 10 := by omega
    refine cz_iload eX4_init_140 rfl 0 rfl ?_
    refine cz_bipush (v := 10) eX4_init_141 (by decide) ?_
    refine cz_ge_t eX4_init_143 (by decide) ?_
    exact hend
  | succ k ih =>
    intro i hi
    have hi2 : i < 10 := by omega
    refine cz_iload eX4_init_140 rfl 0 rfl ?_
    refine cz_bipush (v := 10) eX4_init_141 (by decide) ?_
    refine cz_ge_f eX4_init_143 (lI_10 i hi2) ?_
    refine cz_aload eX4_init_146 rfl 1 rfl ?_
    refine cz_get (v := .ref a1) (T := TX4) (N := 18) (ci := 4) eX4_init_147 inX4 0 rfl rfl 0 (by decide) (in_gt 656 (by decide +kernel) rfl) rfl ?_
    refine cz_bipush (v := 124) eX4_init_150 (by decide) ?_
    refine cz_iload eX4_init_152 rfl 0 rfl ?_
    refine cz_iadd (v := Int32.ofNat (124 + i)) eX4_init_153 (lI_124 i hi2) ?_
    refine cz_iconst (v := -1) eX4_init_154 (by decide) ?_
    refine cz_iast (ws2 := [(h0, .inr (4, [.ref a1, .ref a2, .ref a3, .ref a4, .int 0, .ref a5, .ref a6, .int 0, .ref a7, .ref a8, .ref a9, .int 0, .int 0, .int 0, .int 0, .int 0, .int 0, .int 0])), (a1, .inl (C.1, 134, .inl (fG2 (i + 1)))), (a2, .inl (C.1, 134, .inl (fun _ => 0))), (a3, .inl (C.1, 134, .inl (fun _ => 0))), (a4, .inl (C.1, 134, .inl (fun _ => 0))), (a5, .inl (C.1, 8, .inl (fun _ => 0))), (a6, .inl (C.1, 120, .inl (fun _ => 0))), (a7, .inl (C.1, 4, .inl fB)), (a8, .inl (C.1, 4, .inl (fun _ => 0))), (a9, .inl (C.1, 160, .inl (fun _ => 0)))]) eX4_init_155 1 rfl (lI_in124 i hi2) (by rw [lI_to124 i (by omega), fG2_up i]; rfl) ?_
    refine cz_iinc (lv2 := [(1, .int (Int32.ofNat (i + 1))), (0, .ref h0)]) (v := Int32.ofNat (i + 1)) eX4_init_156 0 rfl (lI_s i (by omega)) (by decide) rfl ?_
    exact cz_goto eX4_init_159 (ih (i + 1) (by omega))
set_option maxHeartbeats 4000000 in
set_option maxRecDepth 100000 in
theorem ct_X4i : Ctr mX4_init 9 832 4 [.null, .null, .null, .null, .int 0, .null, .null, .int 0, .null, .null, .null, .int 0, .int 0, .int 0, .int 0, .int 0, .int 0, .int 0] outX4 (fun _ => True) := by
  refine Ctr.of (by decide) (Nat.le_of_ble_eq_true rfl) rfl rfl ?_
  intro D C A p l e s m below meth c QF h0 hin hE hend
  refine cz_aload eX4_init_0 rfl 0 rfl ?_
  refine cz_obj eX4_init_1 (in_gt 655 (by decide +kernel) rfl) (Nat.le_of_ble_eq_true rfl) (Nat.le_of_ble_eq_true rfl) (Nat.le_of_ble_eq_true rfl) ?_
  refine cz_aload eX4_init_4 rfl 0 rfl ?_
  refine cz_sipush (v := 134) eX4_init_5 (by decide) ?_
  refine cz_newi (N := 134) eX4_init_8 (by decide) (by decide) (Nat.le_of_ble_eq_true rfl) (Nat.le_of_ble_eq_true rfl) (Nat.le_of_ble_eq_true rfl) (fun q8 => ?_)
  refine cz_ws (ws2 := [(h0, .inr (4, [.null, .null, .null, .null, .int 0, .null, .null, .int 0, .null, .null, .null, .int 0, .int 0, .int 0, .int 0, .int 0, .int 0, .int 0])), (q8, .inl (C.1, 134, .inl (fun _ => 0)))]) rfl ?_
  refine cz_putF (ty := tyX4 0) (T := TX4) (N := 18) (ci := 4) (ws2 := [(h0, .inr (4, [.ref q8, .null, .null, .null, .int 0, .null, .null, .int 0, .null, .null, .null, .int 0, .int 0, .int 0, .int 0, .int 0, .int 0, .int 0])), (q8, .inl (C.1, 134, .inl (fun _ => 0)))]) tyX4 hin eX4_init_10 inX4 tyX4_ok nmX4 0 rfl rfl 0 (by decide) (in_gt 656 (by decide +kernel) rfl) rfl rfl (by decide +kernel) rfl rfl (Nat.le_of_ble_eq_true rfl) rfl ?_
  refine cz_aload eX4_init_13 rfl 0 rfl ?_
  refine cz_sipush (v := 134) eX4_init_14 (by decide) ?_
  refine cz_newi (N := 134) eX4_init_17 (by decide) (by decide) (Nat.le_of_ble_eq_true rfl) (Nat.le_of_ble_eq_true rfl) (Nat.le_of_ble_eq_true rfl) (fun q17 => ?_)
  refine cz_ws (ws2 := [(h0, .inr (4, [.ref q8, .null, .null, .null, .int 0, .null, .null, .int 0, .null, .null, .null, .int 0, .int 0, .int 0, .int 0, .int 0, .int 0, .int 0])), (q8, .inl (C.1, 134, .inl (fun _ => 0))), (q17, .inl (C.1, 134, .inl (fun _ => 0)))]) rfl ?_
  refine cz_putF (ty := tyX4 1) (T := TX4) (N := 18) (ci := 4) (ws2 := [(h0, .inr (4, [.ref q8, .ref q17, .null, .null, .int 0, .null, .null, .int 0, .null, .null, .null, .int 0, .int 0, .int 0, .int 0, .int 0, .int 0, .int 0])), (q8, .inl (C.1, 134, .inl (fun _ => 0))), (q17, .inl (C.1, 134, .inl (fun _ => 0)))]) tyX4 hin eX4_init_19 inX4 tyX4_ok nmX4 0 rfl rfl 1 (by decide) (in_gt 657 (by decide +kernel) rfl) rfl rfl (by decide +kernel) rfl rfl (Nat.le_of_ble_eq_true rfl) rfl ?_
  refine cz_aload eX4_init_22 rfl 0 rfl ?_
  refine cz_sipush (v := 134) eX4_init_23 (by decide) ?_
  refine cz_newi (N := 134) eX4_init_26 (by decide) (by decide) (Nat.le_of_ble_eq_true rfl) (Nat.le_of_ble_eq_true rfl) (Nat.le_of_ble_eq_true rfl) (fun q26 => ?_)
  refine cz_ws (ws2 := [(h0, .inr (4, [.ref q8, .ref q17, .null, .null, .int 0, .null, .null, .int 0, .null, .null, .null, .int 0, .int 0, .int 0, .int 0, .int 0, .int 0, .int 0])), (q8, .inl (C.1, 134, .inl (fun _ => 0))), (q17, .inl (C.1, 134, .inl (fun _ => 0))), (q26, .inl (C.1, 134, .inl (fun _ => 0)))]) rfl ?_
  refine cz_putF (ty := tyX4 2) (T := TX4) (N := 18) (ci := 4) (ws2 := [(h0, .inr (4, [.ref q8, .ref q17, .ref q26, .null, .int 0, .null, .null, .int 0, .null, .null, .null, .int 0, .int 0, .int 0, .int 0, .int 0, .int 0, .int 0])), (q8, .inl (C.1, 134, .inl (fun _ => 0))), (q17, .inl (C.1, 134, .inl (fun _ => 0))), (q26, .inl (C.1, 134, .inl (fun _ => 0)))]) tyX4 hin eX4_init_28 inX4 tyX4_ok nmX4 0 rfl rfl 2 (by decide) (in_gt 658 (by decide +kernel) rfl) rfl rfl (by decide +kernel) rfl rfl (Nat.le_of_ble_eq_true rfl) rfl ?_
  refine cz_aload eX4_init_31 rfl 0 rfl ?_
  refine cz_sipush (v := 134) eX4_init_32 (by decide) ?_
  refine cz_newi (N := 134) eX4_init_35 (by decide) (by decide) (Nat.le_of_ble_eq_true rfl) (Nat.le_of_ble_eq_true rfl) (Nat.le_of_ble_eq_true rfl) (fun q35 => ?_)
  refine cz_ws (ws2 := [(h0, .inr (4, [.ref q8, .ref q17, .ref q26, .null, .int 0, .null, .null, .int 0, .null, .null, .null, .int 0, .int 0, .int 0, .int 0, .int 0, .int 0, .int 0])), (q8, .inl (C.1, 134, .inl (fun _ => 0))), (q17, .inl (C.1, 134, .inl (fun _ => 0))), (q26, .inl (C.1, 134, .inl (fun _ => 0))), (q35, .inl (C.1, 134, .inl (fun _ => 0)))]) rfl ?_
  refine cz_putF (ty := tyX4 3) (T := TX4) (N := 18) (ci := 4) (ws2 := [(h0, .inr (4, [.ref q8, .ref q17, .ref q26, .ref q35, .int 0, .null, .null, .int 0, .null, .null, .null, .int 0, .int 0, .int 0, .int 0, .int 0, .int 0, .int 0])), (q8, .inl (C.1, 134, .inl (fun _ => 0))), (q17, .inl (C.1, 134, .inl (fun _ => 0))), (q26, .inl (C.1, 134, .inl (fun _ => 0))), (q35, .inl (C.1, 134, .inl (fun _ => 0)))]) tyX4 hin eX4_init_37 inX4 tyX4_ok nmX4 0 rfl rfl 3 (by decide) (in_gt 659 (by decide +kernel) rfl) rfl rfl (by decide +kernel) rfl rfl (Nat.le_of_ble_eq_true rfl) rfl ?_
  refine cz_aload eX4_init_40 rfl 0 rfl ?_
  refine cz_bipush (v := 8) eX4_init_41 (by decide) ?_
  refine cz_newi (N := 8) eX4_init_43 (by decide) (by decide) (Nat.le_of_ble_eq_true rfl) (Nat.le_of_ble_eq_true rfl) (Nat.le_of_ble_eq_true rfl) (fun q43 => ?_)
  refine cz_ws (ws2 := [(h0, .inr (4, [.ref q8, .ref q17, .ref q26, .ref q35, .int 0, .null, .null, .int 0, .null, .null, .null, .int 0, .int 0, .int 0, .int 0, .int 0, .int 0, .int 0])), (q8, .inl (C.1, 134, .inl (fun _ => 0))), (q17, .inl (C.1, 134, .inl (fun _ => 0))), (q26, .inl (C.1, 134, .inl (fun _ => 0))), (q35, .inl (C.1, 134, .inl (fun _ => 0))), (q43, .inl (C.1, 8, .inl (fun _ => 0)))]) rfl ?_
  refine cz_putF (ty := tyX4 5) (T := TX4) (N := 18) (ci := 4) (ws2 := [(h0, .inr (4, [.ref q8, .ref q17, .ref q26, .ref q35, .int 0, .ref q43, .null, .int 0, .null, .null, .null, .int 0, .int 0, .int 0, .int 0, .int 0, .int 0, .int 0])), (q8, .inl (C.1, 134, .inl (fun _ => 0))), (q17, .inl (C.1, 134, .inl (fun _ => 0))), (q26, .inl (C.1, 134, .inl (fun _ => 0))), (q35, .inl (C.1, 134, .inl (fun _ => 0))), (q43, .inl (C.1, 8, .inl (fun _ => 0)))]) tyX4 hin eX4_init_45 inX4 tyX4_ok nmX4 0 rfl rfl 5 (by decide) (in_gt 661 (by decide +kernel) rfl) rfl rfl (by decide +kernel) rfl rfl (Nat.le_of_ble_eq_true rfl) rfl ?_
  refine cz_aload eX4_init_48 rfl 0 rfl ?_
  refine cz_bipush (v := 120) eX4_init_49 (by decide) ?_
  refine cz_newi (N := 120) eX4_init_51 (by decide) (by decide) (Nat.le_of_ble_eq_true rfl) (Nat.le_of_ble_eq_true rfl) (Nat.le_of_ble_eq_true rfl) (fun q51 => ?_)
  refine cz_ws (ws2 := [(h0, .inr (4, [.ref q8, .ref q17, .ref q26, .ref q35, .int 0, .ref q43, .null, .int 0, .null, .null, .null, .int 0, .int 0, .int 0, .int 0, .int 0, .int 0, .int 0])), (q8, .inl (C.1, 134, .inl (fun _ => 0))), (q17, .inl (C.1, 134, .inl (fun _ => 0))), (q26, .inl (C.1, 134, .inl (fun _ => 0))), (q35, .inl (C.1, 134, .inl (fun _ => 0))), (q43, .inl (C.1, 8, .inl (fun _ => 0))), (q51, .inl (C.1, 120, .inl (fun _ => 0)))]) rfl ?_
  refine cz_putF (ty := tyX4 6) (T := TX4) (N := 18) (ci := 4) (ws2 := [(h0, .inr (4, [.ref q8, .ref q17, .ref q26, .ref q35, .int 0, .ref q43, .ref q51, .int 0, .null, .null, .null, .int 0, .int 0, .int 0, .int 0, .int 0, .int 0, .int 0])), (q8, .inl (C.1, 134, .inl (fun _ => 0))), (q17, .inl (C.1, 134, .inl (fun _ => 0))), (q26, .inl (C.1, 134, .inl (fun _ => 0))), (q35, .inl (C.1, 134, .inl (fun _ => 0))), (q43, .inl (C.1, 8, .inl (fun _ => 0))), (q51, .inl (C.1, 120, .inl (fun _ => 0)))]) tyX4 hin eX4_init_53 inX4 tyX4_ok nmX4 0 rfl rfl 6 (by decide) (in_gt 662 (by decide +kernel) rfl) rfl rfl (by decide +kernel) rfl rfl (Nat.le_of_ble_eq_true rfl) rfl ?_
  refine cz_aload eX4_init_56 rfl 0 rfl ?_
  refine cz_iconst (v := 4) eX4_init_57 (by decide) ?_
  refine cz_newi (N := 4) eX4_init_58 (by decide) (by decide) (Nat.le_of_ble_eq_true rfl) (Nat.le_of_ble_eq_true rfl) (Nat.le_of_ble_eq_true rfl) (fun q58 => ?_)
  refine cz_ws (ws2 := [(h0, .inr (4, [.ref q8, .ref q17, .ref q26, .ref q35, .int 0, .ref q43, .ref q51, .int 0, .null, .null, .null, .int 0, .int 0, .int 0, .int 0, .int 0, .int 0, .int 0])), (q8, .inl (C.1, 134, .inl (fun _ => 0))), (q17, .inl (C.1, 134, .inl (fun _ => 0))), (q26, .inl (C.1, 134, .inl (fun _ => 0))), (q35, .inl (C.1, 134, .inl (fun _ => 0))), (q43, .inl (C.1, 8, .inl (fun _ => 0))), (q51, .inl (C.1, 120, .inl (fun _ => 0))), (q58, .inl (C.1, 4, .inl (fun _ => 0)))]) rfl ?_
  refine cz_dup eX4_init_60 ?_
  refine cz_iconst (v := 0) eX4_init_61 (by decide) ?_
  refine cz_iconst (v := -1) eX4_init_62 (by decide) ?_
  refine cz_iast (ws2 := [(h0, .inr (4, [.ref q8, .ref q17, .ref q26, .ref q35, .int 0, .ref q43, .ref q51, .int 0, .null, .null, .null, .int 0, .int 0, .int 0, .int 0, .int 0, .int 0, .int 0])), (q8, .inl (C.1, 134, .inl (fun _ => 0))), (q17, .inl (C.1, 134, .inl (fun _ => 0))), (q26, .inl (C.1, 134, .inl (fun _ => 0))), (q35, .inl (C.1, 134, .inl (fun _ => 0))), (q43, .inl (C.1, 8, .inl (fun _ => 0))), (q51, .inl (C.1, 120, .inl (fun _ => 0))), (q58, .inl (C.1, 4, .inl (upd (fun _ => 0) 0 (-1))))]) eX4_init_63 7 rfl (by unfold vp_in; decide) rfl ?_
  refine cz_dup eX4_init_64 ?_
  refine cz_iconst (v := 1) eX4_init_65 (by decide) ?_
  refine cz_iconst (v := -1) eX4_init_66 (by decide) ?_
  refine cz_iast (ws2 := [(h0, .inr (4, [.ref q8, .ref q17, .ref q26, .ref q35, .int 0, .ref q43, .ref q51, .int 0, .null, .null, .null, .int 0, .int 0, .int 0, .int 0, .int 0, .int 0, .int 0])), (q8, .inl (C.1, 134, .inl (fun _ => 0))), (q17, .inl (C.1, 134, .inl (fun _ => 0))), (q26, .inl (C.1, 134, .inl (fun _ => 0))), (q35, .inl (C.1, 134, .inl (fun _ => 0))), (q43, .inl (C.1, 8, .inl (fun _ => 0))), (q51, .inl (C.1, 120, .inl (fun _ => 0))), (q58, .inl (C.1, 4, .inl (upd (upd (fun _ => 0) 0 (-1)) 1 (-1))))]) eX4_init_67 7 rfl (by unfold vp_in; decide) rfl ?_
  refine cz_dup eX4_init_68 ?_
  refine cz_iconst (v := 2) eX4_init_69 (by decide) ?_
  refine cz_iconst (v := -1) eX4_init_70 (by decide) ?_
  refine cz_iast (ws2 := [(h0, .inr (4, [.ref q8, .ref q17, .ref q26, .ref q35, .int 0, .ref q43, .ref q51, .int 0, .null, .null, .null, .int 0, .int 0, .int 0, .int 0, .int 0, .int 0, .int 0])), (q8, .inl (C.1, 134, .inl (fun _ => 0))), (q17, .inl (C.1, 134, .inl (fun _ => 0))), (q26, .inl (C.1, 134, .inl (fun _ => 0))), (q35, .inl (C.1, 134, .inl (fun _ => 0))), (q43, .inl (C.1, 8, .inl (fun _ => 0))), (q51, .inl (C.1, 120, .inl (fun _ => 0))), (q58, .inl (C.1, 4, .inl (upd (upd (upd (fun _ => 0) 0 (-1)) 1 (-1)) 2 (-1))))]) eX4_init_71 7 rfl (by unfold vp_in; decide) rfl ?_
  refine cz_dup eX4_init_72 ?_
  refine cz_iconst (v := 3) eX4_init_73 (by decide) ?_
  refine cz_iconst (v := -1) eX4_init_74 (by decide) ?_
  refine cz_iast (ws2 := [(h0, .inr (4, [.ref q8, .ref q17, .ref q26, .ref q35, .int 0, .ref q43, .ref q51, .int 0, .null, .null, .null, .int 0, .int 0, .int 0, .int 0, .int 0, .int 0, .int 0])), (q8, .inl (C.1, 134, .inl (fun _ => 0))), (q17, .inl (C.1, 134, .inl (fun _ => 0))), (q26, .inl (C.1, 134, .inl (fun _ => 0))), (q35, .inl (C.1, 134, .inl (fun _ => 0))), (q43, .inl (C.1, 8, .inl (fun _ => 0))), (q51, .inl (C.1, 120, .inl (fun _ => 0))), (q58, .inl (C.1, 4, .inl (upd (upd (upd (upd (fun _ => 0) 0 (-1)) 1 (-1)) 2 (-1)) 3 (-1))))]) eX4_init_75 7 rfl (by unfold vp_in; decide) rfl ?_
  refine cz_ws (ws2 := [(h0, .inr (4, [.ref q8, .ref q17, .ref q26, .ref q35, .int 0, .ref q43, .ref q51, .int 0, .null, .null, .null, .int 0, .int 0, .int 0, .int 0, .int 0, .int 0, .int 0])), (q8, .inl (C.1, 134, .inl (fun _ => 0))), (q17, .inl (C.1, 134, .inl (fun _ => 0))), (q26, .inl (C.1, 134, .inl (fun _ => 0))), (q35, .inl (C.1, 134, .inl (fun _ => 0))), (q43, .inl (C.1, 8, .inl (fun _ => 0))), (q51, .inl (C.1, 120, .inl (fun _ => 0))), (q58, .inl (C.1, 4, .inl fB))]) (by rw [← fB_eq]) ?_
  refine cz_putF (ty := tyX4 8) (T := TX4) (N := 18) (ci := 4) (ws2 := [(h0, .inr (4, [.ref q8, .ref q17, .ref q26, .ref q35, .int 0, .ref q43, .ref q51, .int 0, .ref q58, .null, .null, .int 0, .int 0, .int 0, .int 0, .int 0, .int 0, .int 0])), (q8, .inl (C.1, 134, .inl (fun _ => 0))), (q17, .inl (C.1, 134, .inl (fun _ => 0))), (q26, .inl (C.1, 134, .inl (fun _ => 0))), (q35, .inl (C.1, 134, .inl (fun _ => 0))), (q43, .inl (C.1, 8, .inl (fun _ => 0))), (q51, .inl (C.1, 120, .inl (fun _ => 0))), (q58, .inl (C.1, 4, .inl fB))]) tyX4 hin eX4_init_76 inX4 tyX4_ok nmX4 0 rfl rfl 8 (by decide) (in_gt 664 (by decide +kernel) rfl) rfl rfl (by decide +kernel) rfl rfl (Nat.le_of_ble_eq_true rfl) rfl ?_
  refine cz_aload eX4_init_79 rfl 0 rfl ?_
  refine cz_iconst (v := 4) eX4_init_80 (by decide) ?_
  refine cz_newi (N := 4) eX4_init_81 (by decide) (by decide) (Nat.le_of_ble_eq_true rfl) (Nat.le_of_ble_eq_true rfl) (Nat.le_of_ble_eq_true rfl) (fun q81 => ?_)
  refine cz_ws (ws2 := [(h0, .inr (4, [.ref q8, .ref q17, .ref q26, .ref q35, .int 0, .ref q43, .ref q51, .int 0, .ref q58, .null, .null, .int 0, .int 0, .int 0, .int 0, .int 0, .int 0, .int 0])), (q8, .inl (C.1, 134, .inl (fun _ => 0))), (q17, .inl (C.1, 134, .inl (fun _ => 0))), (q26, .inl (C.1, 134, .inl (fun _ => 0))), (q35, .inl (C.1, 134, .inl (fun _ => 0))), (q43, .inl (C.1, 8, .inl (fun _ => 0))), (q51, .inl (C.1, 120, .inl (fun _ => 0))), (q58, .inl (C.1, 4, .inl fB)), (q81, .inl (C.1, 4, .inl (fun _ => 0)))]) rfl ?_
  refine cz_putF (ty := tyX4 9) (T := TX4) (N := 18) (ci := 4) (ws2 := [(h0, .inr (4, [.ref q8, .ref q17, .ref q26, .ref q35, .int 0, .ref q43, .ref q51, .int 0, .ref q58, .ref q81, .null, .int 0, .int 0, .int 0, .int 0, .int 0, .int 0, .int 0])), (q8, .inl (C.1, 134, .inl (fun _ => 0))), (q17, .inl (C.1, 134, .inl (fun _ => 0))), (q26, .inl (C.1, 134, .inl (fun _ => 0))), (q35, .inl (C.1, 134, .inl (fun _ => 0))), (q43, .inl (C.1, 8, .inl (fun _ => 0))), (q51, .inl (C.1, 120, .inl (fun _ => 0))), (q58, .inl (C.1, 4, .inl fB)), (q81, .inl (C.1, 4, .inl (fun _ => 0)))]) tyX4 hin eX4_init_83 inX4 tyX4_ok nmX4 0 rfl rfl 9 (by decide) (in_gt 665 (by decide +kernel) rfl) rfl rfl (by decide +kernel) rfl rfl (Nat.le_of_ble_eq_true rfl) rfl ?_
  refine cz_aload eX4_init_86 rfl 0 rfl ?_
  refine cz_sipush (v := 160) eX4_init_87 (by decide) ?_
  refine cz_newi (N := 160) eX4_init_90 (by decide) (by decide) (Nat.le_of_ble_eq_true rfl) (Nat.le_of_ble_eq_true rfl) (Nat.le_of_ble_eq_true rfl) (fun q90 => ?_)
  refine cz_ws (ws2 := [(h0, .inr (4, [.ref q8, .ref q17, .ref q26, .ref q35, .int 0, .ref q43, .ref q51, .int 0, .ref q58, .ref q81, .null, .int 0, .int 0, .int 0, .int 0, .int 0, .int 0, .int 0])), (q8, .inl (C.1, 134, .inl (fun _ => 0))), (q17, .inl (C.1, 134, .inl (fun _ => 0))), (q26, .inl (C.1, 134, .inl (fun _ => 0))), (q35, .inl (C.1, 134, .inl (fun _ => 0))), (q43, .inl (C.1, 8, .inl (fun _ => 0))), (q51, .inl (C.1, 120, .inl (fun _ => 0))), (q58, .inl (C.1, 4, .inl fB)), (q81, .inl (C.1, 4, .inl (fun _ => 0))), (q90, .inl (C.1, 160, .inl (fun _ => 0)))]) rfl ?_
  refine cz_putF (ty := tyX4 10) (T := TX4) (N := 18) (ci := 4) (ws2 := [(h0, .inr (4, [.ref q8, .ref q17, .ref q26, .ref q35, .int 0, .ref q43, .ref q51, .int 0, .ref q58, .ref q81, .ref q90, .int 0, .int 0, .int 0, .int 0, .int 0, .int 0, .int 0])), (q8, .inl (C.1, 134, .inl (fun _ => 0))), (q17, .inl (C.1, 134, .inl (fun _ => 0))), (q26, .inl (C.1, 134, .inl (fun _ => 0))), (q35, .inl (C.1, 134, .inl (fun _ => 0))), (q43, .inl (C.1, 8, .inl (fun _ => 0))), (q51, .inl (C.1, 120, .inl (fun _ => 0))), (q58, .inl (C.1, 4, .inl fB)), (q81, .inl (C.1, 4, .inl (fun _ => 0))), (q90, .inl (C.1, 160, .inl (fun _ => 0)))]) tyX4 hin eX4_init_92 inX4 tyX4_ok nmX4 0 rfl rfl 10 (by decide) (in_gt 666 (by decide +kernel) rfl) rfl rfl (by decide +kernel) rfl rfl (Nat.le_of_ble_eq_true rfl) rfl ?_
  refine cz_aload eX4_init_95 rfl 0 rfl ?_
  refine cz_get (v := .ref q8) (T := TX4) (N := 18) (ci := 4) eX4_init_96 inX4 0 rfl rfl 0 (by decide) (in_gt 656 (by decide +kernel) rfl) rfl ?_
  refine cz_iconst (v := 2) eX4_init_99 (by decide) ?_
  refine cz_iconst (v := 1) eX4_init_100 (by decide) ?_
  refine cz_iast (ws2 := [(h0, .inr (4, [.ref q8, .ref q17, .ref q26, .ref q35, .int 0, .ref q43, .ref q51, .int 0, .ref q58, .ref q81, .ref q90, .int 0, .int 0, .int 0, .int 0, .int 0, .int 0, .int 0])), (q8, .inl (C.1, 134, .inl (upd (fun _ => 0) 2 1))), (q17, .inl (C.1, 134, .inl (fun _ => 0))), (q26, .inl (C.1, 134, .inl (fun _ => 0))), (q35, .inl (C.1, 134, .inl (fun _ => 0))), (q43, .inl (C.1, 8, .inl (fun _ => 0))), (q51, .inl (C.1, 120, .inl (fun _ => 0))), (q58, .inl (C.1, 4, .inl fB)), (q81, .inl (C.1, 4, .inl (fun _ => 0))), (q90, .inl (C.1, 160, .inl (fun _ => 0)))]) eX4_init_101 1 rfl (by unfold vp_in; decide) rfl ?_
  refine cz_aload eX4_init_102 rfl 0 rfl ?_
  refine cz_get (v := .ref q8) (T := TX4) (N := 18) (ci := 4) eX4_init_103 inX4 0 rfl rfl 0 (by decide) (in_gt 656 (by decide +kernel) rfl) rfl ?_
  refine cz_iconst (v := 3) eX4_init_106 (by decide) ?_
  refine cz_iconst (v := 2) eX4_init_107 (by decide) ?_
  refine cz_iast (ws2 := [(h0, .inr (4, [.ref q8, .ref q17, .ref q26, .ref q35, .int 0, .ref q43, .ref q51, .int 0, .ref q58, .ref q81, .ref q90, .int 0, .int 0, .int 0, .int 0, .int 0, .int 0, .int 0])), (q8, .inl (C.1, 134, .inl (upd (upd (fun _ => 0) 2 1) 3 2))), (q17, .inl (C.1, 134, .inl (fun _ => 0))), (q26, .inl (C.1, 134, .inl (fun _ => 0))), (q35, .inl (C.1, 134, .inl (fun _ => 0))), (q43, .inl (C.1, 8, .inl (fun _ => 0))), (q51, .inl (C.1, 120, .inl (fun _ => 0))), (q58, .inl (C.1, 4, .inl fB)), (q81, .inl (C.1, 4, .inl (fun _ => 0))), (q90, .inl (C.1, 160, .inl (fun _ => 0)))]) eX4_init_108 1 rfl (by unfold vp_in; decide) rfl ?_
  refine cz_iconst (v := 0) eX4_init_109 (by decide) ?_
  refine cz_istore (lv2 := [(1, .int 0), (0, .ref h0)]) eX4_init_110 rfl (by decide) rfl ?_
  refine cz_ws (ws2 := [(h0, .inr (4, [.ref q8, .ref q17, .ref q26, .ref q35, .int 0, .ref q43, .ref q51, .int 0, .ref q58, .ref q81, .ref q90, .int 0, .int 0, .int 0, .int 0, .int 0, .int 0, .int 0])), (q8, .inl (C.1, 134, .inl (fG 0))), (q17, .inl (C.1, 134, .inl (fun _ => 0))), (q26, .inl (C.1, 134, .inl (fun _ => 0))), (q35, .inl (C.1, 134, .inl (fun _ => 0))), (q43, .inl (C.1, 8, .inl (fun _ => 0))), (q51, .inl (C.1, 120, .inl (fun _ => 0))), (q58, .inl (C.1, 4, .inl fB)), (q81, .inl (C.1, 4, .inl (fun _ => 0))), (q90, .inl (C.1, 160, .inl (fun _ => 0)))]) (by rw [← fG_0]) ?_
  refine model_loop1 ?_ 8 0 rfl
  refine cz_iconst (v := 0) eX4_init_138 (by decide) ?_
  refine cz_istore (lv2 := [(1, .int 0), (0, .ref h0)]) eX4_init_139 rfl (by decide) rfl ?_
  refine cz_ws (ws2 := [(h0, .inr (4, [.ref q8, .ref q17, .ref q26, .ref q35, .int 0, .ref q43, .ref q51, .int 0, .ref q58, .ref q81, .ref q90, .int 0, .int 0, .int 0, .int 0, .int 0, .int 0, .int 0])), (q8, .inl (C.1, 134, .inl (fG2 0))), (q17, .inl (C.1, 134, .inl (fun _ => 0))), (q26, .inl (C.1, 134, .inl (fun _ => 0))), (q35, .inl (C.1, 134, .inl (fun _ => 0))), (q43, .inl (C.1, 8, .inl (fun _ => 0))), (q51, .inl (C.1, 120, .inl (fun _ => 0))), (q58, .inl (C.1, 4, .inl fB)), (q81, .inl (C.1, 4, .inl (fun _ => 0))), (q90, .inl (C.1, 160, .inl (fun _ => 0)))]) (by rw [fG2_0]) ?_
  refine model_loop2 ?_ 10 0 rfl
  exact hend (fun k => [h0, q8, q17, q26, q35, q43, q51, q58, q81, q90].getD k 0) 162 _ eX4_init_162

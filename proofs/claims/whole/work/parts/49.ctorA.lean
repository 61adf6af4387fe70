/-! ===== the constructors of Sheet and TextReader ===== -/
abbrev outX1 (C : Cz) (h0 : Nat) (u : Nat → Nat) : va_W := [(h0, .inr (1, [.ref (u 1), .int 0, .int 0])), ((u 1), .inl (C.1, 40, .inl (fun _ => 0)))]
abbrev outX2 (C : Cz) (h0 : Nat) (u : Nat → Nat) : va_W := [(h0, .inr (2, [.ref (u 1), .int 0, .int 0, .int 0, .int 0, .long 0, .int (-1)])), ((u 1), .inl (C.2.1, 120, .inl (fun _ => 0)))]
set_option maxHeartbeats 4000000 in
set_option maxRecDepth 100000 in
theorem ct_X1i : Ctr mX1_init 1 40 1 [.null, .int 0, .int 0] outX1 (fun _ => True) := by
  refine Ctr.of (by decide) (Nat.le_of_ble_eq_true rfl) rfl rfl ?_
  intro D C A p l e s m below meth c QF h0 hin hE hend
  refine cz_aload eX1_init_0 rfl 0 rfl ?_
  refine cz_obj eX1_init_1 (in_gt 158 (by decide +kernel) rfl) (Nat.le_of_ble_eq_true rfl) (Nat.le_of_ble_eq_true rfl) (Nat.le_of_ble_eq_true rfl) ?_
  refine cz_aload eX1_init_4 rfl 0 rfl ?_
  refine cz_bipush (v := 40) eX1_init_5 (by decide) ?_
  refine cz_newi (N := 40) eX1_init_7 (by decide) (by decide) (Nat.le_of_ble_eq_true rfl) (Nat.le_of_ble_eq_true rfl) (Nat.le_of_ble_eq_true rfl) (fun q7 => ?_)
  refine cz_ws (ws2 := [(h0, .inr (1, [.null, .int 0, .int 0])), (q7, .inl (C.1, 40, .inl (fun _ => 0)))]) rfl ?_
  refine cz_putF (ty := tyX1 0) (T := TX1) (N := 3) (ci := 1) (ws2 := [(h0, .inr (1, [.ref q7, .int 0, .int 0])), (q7, .inl (C.1, 40, .inl (fun _ => 0)))]) tyX1 hin eX1_init_9 inX1 tyX1_ok nmX1 0 rfl rfl 0 (by decide) (in_gt 159 (by decide +kernel) rfl) rfl rfl (by decide +kernel) rfl rfl (Nat.le_of_ble_eq_true rfl) rfl ?_
  refine cz_aload eX1_init_12 rfl 0 rfl ?_
  refine cz_iconst (v := 0) eX1_init_13 (by decide) ?_
  refine cz_put (ty := tyX1 1) (T := TX1) (N := 3) (ci := 1) (ws2 := [(h0, .inr (1, [.ref q7, .int 0, .int 0])), (q7, .inl (C.1, 40, .inl (fun _ => 0)))]) tyX1 eX1_init_14 inX1 tyX1_ok nmX1 0 rfl rfl 1 (by decide) (in_gt 161 (by decide +kernel) rfl) rfl (by decide +kernel) rfl rfl (Nat.le_of_ble_eq_true rfl) rfl ?_
  refine cz_aload eX1_init_17 rfl 0 rfl ?_
  refine cz_iconst (v := 0) eX1_init_18 (by decide) ?_
  refine cz_put (ty := tyX1 2) (T := TX1) (N := 3) (ci := 1) (ws2 := [(h0, .inr (1, [.ref q7, .int 0, .int 0])), (q7, .inl (C.1, 40, .inl (fun _ => 0)))]) tyX1 eX1_init_19 inX1 tyX1_ok nmX1 0 rfl rfl 2 (by decide) (in_gt 163 (by decide +kernel) rfl) rfl (by decide +kernel) rfl rfl (Nat.le_of_ble_eq_true rfl) rfl ?_
  exact hend (fun k => [h0, q7].getD k 0) 22 _ eX1_init_22
set_option maxHeartbeats 4000000 in
set_option maxRecDepth 100000 in
theorem ct_X2i : Ctr mX2_init 1 120 2 [.null, .int 0, .int 0, .int 0, .int 0, .long 0, .int 0] outX2 (fun _ => True) := by
  refine Ctr.of (by decide) (Nat.le_of_ble_eq_true rfl) rfl rfl ?_
  intro D C A p l e s m below meth c QF h0 hin hE hend
  refine cz_aload eX2_init_0 rfl 0 rfl ?_
  refine cz_obj eX2_init_1 (in_gt 127 (by decide +kernel) rfl) (Nat.le_of_ble_eq_true rfl) (Nat.le_of_ble_eq_true rfl) (Nat.le_of_ble_eq_true rfl) ?_
  refine cz_aload eX2_init_4 rfl 0 rfl ?_
  refine cz_bipush (v := 120) eX2_init_5 (by decide) ?_
  refine cz_newb (N := 120) eX2_init_7 (by decide) (by decide) (Nat.le_of_ble_eq_true rfl) (Nat.le_of_ble_eq_true rfl) (Nat.le_of_ble_eq_true rfl) (fun q7 => ?_)
  refine cz_ws (ws2 := [(h0, .inr (2, [.null, .int 0, .int 0, .int 0, .int 0, .long 0, .int 0])), (q7, .inl (C.2.1, 120, .inl (fun _ => 0)))]) rfl ?_
  refine cz_putF (ty := tyX2 0) (T := TX2) (N := 7) (ci := 2) (ws2 := [(h0, .inr (2, [.ref q7, .int 0, .int 0, .int 0, .int 0, .long 0, .int 0])), (q7, .inl (C.2.1, 120, .inl (fun _ => 0)))]) tyX2 hin eX2_init_9 inX2 tyX2_ok nmX2 0 rfl rfl 0 (by decide) (in_gt 128 (by decide +kernel) rfl) rfl rfl (by decide +kernel) rfl rfl (Nat.le_of_ble_eq_true rfl) rfl ?_
  refine cz_aload eX2_init_12 rfl 0 rfl ?_
  refine cz_iconst (v := 0) eX2_init_13 (by decide) ?_
  refine cz_put (ty := tyX2 1) (T := TX2) (N := 7) (ci := 2) (ws2 := [(h0, .inr (2, [.ref q7, .int 0, .int 0, .int 0, .int 0, .long 0, .int 0])), (q7, .inl (C.2.1, 120, .inl (fun _ => 0)))]) tyX2 eX2_init_14 inX2 tyX2_ok nmX2 0 rfl rfl 1 (by decide) (in_gt 129 (by decide +kernel) rfl) rfl (by decide +kernel) rfl rfl (Nat.le_of_ble_eq_true rfl) rfl ?_
  refine cz_aload eX2_init_17 rfl 0 rfl ?_
  refine cz_iconst (v := 0) eX2_init_18 (by decide) ?_
  refine cz_put (ty := tyX2 2) (T := TX2) (N := 7) (ci := 2) (ws2 := [(h0, .inr (2, [.ref q7, .int 0, .int 0, .int 0, .int 0, .long 0, .int 0])), (q7, .inl (C.2.1, 120, .inl (fun _ => 0)))]) tyX2 eX2_init_19 inX2 tyX2_ok nmX2 0 rfl rfl 2 (by decide) (in_gt 131 (by decide +kernel) rfl) rfl (by decide +kernel) rfl rfl (Nat.le_of_ble_eq_true rfl) rfl ?_
  refine cz_aload eX2_init_22 rfl 0 rfl ?_
  refine cz_iconst (v := 0) eX2_init_23 (by decide) ?_
  refine cz_put (ty := tyX2 3) (T := TX2) (N := 7) (ci := 2) (ws2 := [(h0, .inr (2, [.ref q7, .int 0, .int 0, .int 0, .int 0, .long 0, .int 0])), (q7, .inl (C.2.1, 120, .inl (fun _ => 0)))]) tyX2 eX2_init_24 inX2 tyX2_ok nmX2 0 rfl rfl 3 (by decide) (in_gt 132 (by decide +kernel) rfl) rfl (by decide +kernel) rfl rfl (Nat.le_of_ble_eq_true rfl) rfl ?_
  refine cz_aload eX2_init_27 rfl 0 rfl ?_
  refine cz_iconst (v := 0) eX2_init_28 (by decide) ?_
  refine cz_put (ty := tyX2 4) (T := TX2) (N := 7) (ci := 2) (ws2 := [(h0, .inr (2, [.ref q7, .int 0, .int 0, .int 0, .int 0, .long 0, .int 0])), (q7, .inl (C.2.1, 120, .inl (fun _ => 0)))]) tyX2 eX2_init_29 inX2 tyX2_ok nmX2 0 rfl rfl 4 (by decide) (in_gt 133 (by decide +kernel) rfl) rfl (by decide +kernel) rfl rfl (Nat.le_of_ble_eq_true rfl) rfl ?_
  refine cz_aload eX2_init_32 rfl 0 rfl ?_
  refine cz_lconst (v := 0) eX2_init_33 (by decide) ?_
  refine cz_put (ty := tyX2 5) (T := TX2) (N := 7) (ci := 2) (ws2 := [(h0, .inr (2, [.ref q7, .int 0, .int 0, .int 0, .int 0, .long 0, .int 0])), (q7, .inl (C.2.1, 120, .inl (fun _ => 0)))]) tyX2 eX2_init_34 inX2 tyX2_ok nmX2 0 rfl rfl 5 (by decide) (in_gt 134 (by decide +kernel) rfl) rfl (by decide +kernel) rfl rfl (Nat.le_of_ble_eq_true rfl) rfl ?_
  refine cz_aload eX2_init_37 rfl 0 rfl ?_
  refine cz_iconst (v := -1) eX2_init_38 (by decide) ?_
  refine cz_put (ty := tyX2 6) (T := TX2) (N := 7) (ci := 2) (ws2 := [(h0, .inr (2, [.ref q7, .int 0, .int 0, .int 0, .int 0, .long 0, .int (-1)])), (q7, .inl (C.2.1, 120, .inl (fun _ => 0)))]) tyX2 eX2_init_39 inX2 tyX2_ok nmX2 0 rfl rfl 6 (by decide) (in_gt 135 (by decide +kernel) rfl) rfl (by decide +kernel) rfl rfl (Nat.le_of_ble_eq_true rfl) rfl ?_
  exact hend (fun k => [h0, q7].getD k 0) 42 _ eX2_init_42

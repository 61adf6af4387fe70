/-! ===== the world behind both constructors ===== -/
theorem mz {o : Nat} (h : o ≠ 1 ∧ o ≠ 8 ∧ o ≠ 15 ∧ o ≠ 2 ∧ o ≠ 9 ∧ o ≠ 16 ∧ o ≠ 5 ∧ o ≠ 12 ∧ o ≠ 19 ∧ o ≠ 22 ∧ o ≠ 35 ∧ o ≠ 41) : (fun j => Int32.ofInt (mem0 o j)) = fun _ => (0 : Int32) := by
  funext j
  rw [mem0_z (by omega)]
  rfl
theorem mr {o : Nat} (h : o = 2 ∨ o = 9 ∨ o = 16) : (fun j => Int32.ofInt (mem0 o j)) = fR 8 := by
  funext j
  unfold fR
  by_cases hj : j < 8
  · rw [mem0_r ⟨h, hj⟩, if_pos hj]
  · rw [mem0_z (by omega), if_neg hj]
theorem ms {o : Nat} (h : o = 5 ∨ o = 12 ∨ o = 19) : (fun j => Int32.ofInt (mem0 o j)) = fS 10 := by
  funext j
  unfold fS
  by_cases hj : j < 10
  · rw [mem0_s ⟨h, hj⟩, if_pos hj]
  · rw [mem0_z (by omega), if_neg hj]
theorem mB : (fun j => Int32.ofInt (mem0 41 j)) = fB := by
  funext j
  unfold fB
  by_cases hj : j < 4
  · rw [if_pos hj]
    rcases (show j = 0 ∨ j = 1 ∨ j = 2 ∨ j = 3 by omega) with rfl | rfl | rfl | rfl <;> rfl
  · rw [mem0_z (by omega), if_neg hj]
theorem mG : (fun j => Int32.ofInt (mem0 35 j)) = fG2 10 := by
  funext j
  unfold fG2
  by_cases h2 : j = 2
  · subst h2; rfl
  · by_cases h3 : j = 3
    · subst h3; rfl
    · rw [if_neg h2, if_neg h3]
      by_cases h4 : 4 ≤ j ∧ j < 12
      · rw [if_pos h4]
        obtain ⟨k, rfl⟩ : ∃ k, j = 4 + k := ⟨j - 4, by omega⟩
        rw [mem0_35r (by omega)]
        congr 1
        omega
      · rw [if_neg h4]
        by_cases h5 : 124 ≤ j ∧ j < 124 + 10
        · rw [if_pos h5]
          obtain ⟨k, rfl⟩ : ∃ k, j = 124 + k := ⟨j - 124, by omega⟩
          rw [mem0_35s (by omega)]
        · rw [if_neg h5, mem0_z (by omega)]
theorem lc {α : Type} {a b : α} {l l2 : List α} (h : a = b) (h2 : l = l2) : a :: l = b :: l2 := by rw [h, h2]
theorem cell_i {g : Gx} {o n a : Nat} {f : Nat → Int32} (hs : shp o = (1, n)) (ha : g.1 o = a) (hf : (fun j => Int32.ofInt (mem0 o j)) = f) : ((g.1 o, wcell g o (mem0 o)) : Nat × va_E) = (a, .inl (g.2.2.1, n, .inl f)) := by
  unfold wcell
  rw [hs, ha, ← hf]
  rfl
theorem cell_b {g : Gx} {o n a : Nat} {f : Nat → Int32} (hs : shp o = (2, n)) (ha : g.1 o = a) (hf : (fun j => Int32.ofInt (mem0 o j)) = f) : ((g.1 o, wcell g o (mem0 o)) : Nat × va_E) = (a, .inl (g.2.2.2.1, n, .inl f)) := by
  unfold wcell
  rw [hs, ha, ← hf]
  rfl
theorem cell_q {g : Gx} {o n a : Nat} (hs : shp o = (3, n)) (ha : g.1 o = a) : ((g.1 o, wcell g o (mem0 o)) : Nat × va_E) = (a, .inl (g.2.2.2.2.1, n, .inr (.inr (.inr (.inr (fun j => some (g.1 (25 + 2 * j)))))))) := by
  unfold wcell
  rw [hs, ha]
  rfl
theorem cell_o {g : Gx} {o ci a : Nat} {vs : List Value} (hs : shp o = (0, ci)) (ha : g.1 o = a) (hv : wobj g.1 o ci (mem0 o) = vs) : ((g.1 o, wcell g o (mem0 o)) : Nat × va_E) = (a, .inr (ci, vs)) := by
  unfold wcell
  rw [hs, ha, ← hv]
  rfl
/-- addresses: 0 to 43 the cells, 100 to 102 the tables, 103 the script -/
def adS (h0 h4 : Nat) (u v : Nat → Nat) (tP tU tK b : Nat) : Nat → Nat := fun o => if o < 44 then [h0, u 1, u 2, u 3, u 4, u 5, u 6, u 7, u 8, u 9, u 10, u 11, u 12, u 13, u 14, u 15, u 16, u 17, u 18, u 19, u 20, u 21, u 22, u 23, u 24, u 25, u 26, u 27, u 28, u 29, u 30, u 31, u 32, u 33, h4, v 1, v 2, v 3, v 4, v 5, v 6, v 7, v 8, v 9].getD o 0 else [tP, tU, tK, b].getD (o - 100) 0
abbrev outS (C : Cz) (h0 h4 : Nat) (u v : Nat → Nat) (tP tU tK b : Nat) : va_W := [(h0, .inr (3, [.ref (u 1), .ref (u 8), .ref (u 15), .int 0, .ref (u 22), .ref (u 24), .ref (u 33)])), ((u 1), .inr (0, [.ref (u 2), .ref (u 3), .ref (u 4), .ref (u 5), .ref (u 6), .ref (u 7), .int 2, .int 0, .int 0, .int 1])), ((u 2), .inl (C.1, 8, .inl (fR 8))), ((u 3), .inl (C.1, 48, .inl (fun _ => 0))), ((u 4), .inl (C.1, 64, .inl (fun _ => 0))), ((u 5), .inl (C.1, 10, .inl (fS 10))), ((u 6), .inl (C.1, 8, .inl (fun _ => 0))), ((u 7), .inl (C.1, 8, .inl (fun _ => 0))), ((u 8), .inr (0, [.ref (u 9), .ref (u 10), .ref (u 11), .ref (u 12), .ref (u 13), .ref (u 14), .int 2, .int 0, .int 0, .int 1])), ((u 9), .inl (C.1, 8, .inl (fR 8))), ((u 10), .inl (C.1, 48, .inl (fun _ => 0))), ((u 11), .inl (C.1, 64, .inl (fun _ => 0))), ((u 12), .inl (C.1, 10, .inl (fS 10))), ((u 13), .inl (C.1, 8, .inl (fun _ => 0))), ((u 14), .inl (C.1, 8, .inl (fun _ => 0))), ((u 15), .inr (0, [.ref (u 16), .ref (u 17), .ref (u 18), .ref (u 19), .ref (u 20), .ref (u 21), .int 2, .int 0, .int 0, .int 1])), ((u 16), .inl (C.1, 8, .inl (fR 8))), ((u 17), .inl (C.1, 48, .inl (fun _ => 0))), ((u 18), .inl (C.1, 64, .inl (fun _ => 0))), ((u 19), .inl (C.1, 10, .inl (fS 10))), ((u 20), .inl (C.1, 8, .inl (fun _ => 0))), ((u 21), .inl (C.1, 8, .inl (fun _ => 0))), ((u 22), .inr (2, [.ref (u 23), .int 0, .int 0, .int 0, .int 0, .long 0, .int (-1)])), ((u 23), .inl (C.2.1, 120, .inl (fun _ => 0))), ((u 24), .inl (C.2.2, 4, .inr (.inr (.inr (.inr (fun j => some (adS h0 h4 u v tP tU tK b (25 + 2 * j)))))))), ((u 25), .inr (1, [.ref (u 26), .int 0, .int 0])), ((u 26), .inl (C.1, 40, .inl (fun _ => 0))), ((u 27), .inr (1, [.ref (u 28), .int 0, .int 0])), ((u 28), .inl (C.1, 40, .inl (fun _ => 0))), ((u 29), .inr (1, [.ref (u 30), .int 0, .int 0])), ((u 30), .inl (C.1, 40, .inl (fun _ => 0))), ((u 31), .inr (1, [.ref (u 32), .int 0, .int 0])), ((u 32), .inl (C.1, 40, .inl (fun _ => 0))), ((u 33), .inl (C.1, 7, .inl (fun _ => 0))), (h4, .inr (4, [.ref (v 1), .ref (v 2), .ref (v 3), .ref (v 4), .int 0, .ref (v 5), .ref (v 6), .int 0, .ref (v 7), .ref (v 8), .ref (v 9), .int 0, .int 0, .int 0, .int 0, .int 0, .int 0, .int 0])), ((v 1), .inl (C.1, 134, .inl (fG2 10))), ((v 2), .inl (C.1, 134, .inl (fun _ => 0))), ((v 3), .inl (C.1, 134, .inl (fun _ => 0))), ((v 4), .inl (C.1, 134, .inl (fun _ => 0))), ((v 5), .inl (C.1, 8, .inl (fun _ => 0))), ((v 6), .inl (C.1, 120, .inl (fun _ => 0))), ((v 7), .inl (C.1, 4, .inl fB)), ((v 8), .inl (C.1, 4, .inl (fun _ => 0))), ((v 9), .inl (C.1, 160, .inl (fun _ => 0)))]
set_option maxHeartbeats 4000000 in
set_option maxRecDepth 100000 in
theorem ws_start {D : va_G} {C : Cz} {A : Nat → Prop} {h0 h4 : Nat} {u v : Nat → Nat} {tP tU tK b : Nat} : wsW (adS h0 h4 u v tP tU tK b, D, C.1, C.2.1, C.2.2, A) mem0 = outS C h0 h4 u v tP tU tK b := by
  show List.map _ (List.range 44) = _
  rw [show List.range 44 = [0, 1, 2, 3, 4, 5, 6, 7, 8, 9, 10, 11, 12, 13, 14, 15, 16, 17, 18, 19, 20, 21, 22, 23, 24, 25, 26, 27, 28, 29, 30, 31, 32, 33, 34, 35, 36, 37, 38, 39, 40, 41, 42, 43] from rfl]
  simp only [List.map_cons, List.map_nil]
  exact lc (cell_o (g := (adS h0 h4 u v tP tU tK b, D, C.1, C.2.1, C.2.2, A)) (o := 0) rfl rfl rfl)
    (lc (cell_o (g := (adS h0 h4 u v tP tU tK b, D, C.1, C.2.1, C.2.2, A)) (o := 1) rfl rfl rfl)
    (lc (cell_i (g := (adS h0 h4 u v tP tU tK b, D, C.1, C.2.1, C.2.2, A)) (o := 2) rfl rfl (mr (by decide)))
    (lc (cell_i (g := (adS h0 h4 u v tP tU tK b, D, C.1, C.2.1, C.2.2, A)) (o := 3) rfl rfl (mz (by decide)))
    (lc (cell_i (g := (adS h0 h4 u v tP tU tK b, D, C.1, C.2.1, C.2.2, A)) (o := 4) rfl rfl (mz (by decide)))
    (lc (cell_i (g := (adS h0 h4 u v tP tU tK b, D, C.1, C.2.1, C.2.2, A)) (o := 5) rfl rfl (ms (by decide)))
    (lc (cell_i (g := (adS h0 h4 u v tP tU tK b, D, C.1, C.2.1, C.2.2, A)) (o := 6) rfl rfl (mz (by decide)))
    (lc (cell_i (g := (adS h0 h4 u v tP tU tK b, D, C.1, C.2.1, C.2.2, A)) (o := 7) rfl rfl (mz (by decide)))
    (lc (cell_o (g := (adS h0 h4 u v tP tU tK b, D, C.1, C.2.1, C.2.2, A)) (o := 8) rfl rfl rfl)
    (lc (cell_i (g := (adS h0 h4 u v tP tU tK b, D, C.1, C.2.1, C.2.2, A)) (o := 9) rfl rfl (mr (by decide)))
    (lc (cell_i (g := (adS h0 h4 u v tP tU tK b, D, C.1, C.2.1, C.2.2, A)) (o := 10) rfl rfl (mz (by decide)))
    (lc (cell_i (g := (adS h0 h4 u v tP tU tK b, D, C.1, C.2.1, C.2.2, A)) (o := 11) rfl rfl (mz (by decide)))
    (lc (cell_i (g := (adS h0 h4 u v tP tU tK b, D, C.1, C.2.1, C.2.2, A)) (o := 12) rfl rfl (ms (by decide)))
    (lc (cell_i (g := (adS h0 h4 u v tP tU tK b, D, C.1, C.2.1, C.2.2, A)) (o := 13) rfl rfl (mz (by decide)))
    (lc (cell_i (g := (adS h0 h4 u v tP tU tK b, D, C.1, C.2.1, C.2.2, A)) (o := 14) rfl rfl (mz (by decide)))
    (lc (cell_o (g := (adS h0 h4 u v tP tU tK b, D, C.1, C.2.1, C.2.2, A)) (o := 15) rfl rfl rfl)
    (lc (cell_i (g := (adS h0 h4 u v tP tU tK b, D, C.1, C.2.1, C.2.2, A)) (o := 16) rfl rfl (mr (by decide)))
    (lc (cell_i (g := (adS h0 h4 u v tP tU tK b, D, C.1, C.2.1, C.2.2, A)) (o := 17) rfl rfl (mz (by decide)))
    (lc (cell_i (g := (adS h0 h4 u v tP tU tK b, D, C.1, C.2.1, C.2.2, A)) (o := 18) rfl rfl (mz (by decide)))
    (lc (cell_i (g := (adS h0 h4 u v tP tU tK b, D, C.1, C.2.1, C.2.2, A)) (o := 19) rfl rfl (ms (by decide)))
    (lc (cell_i (g := (adS h0 h4 u v tP tU tK b, D, C.1, C.2.1, C.2.2, A)) (o := 20) rfl rfl (mz (by decide)))
    (lc (cell_i (g := (adS h0 h4 u v tP tU tK b, D, C.1, C.2.1, C.2.2, A)) (o := 21) rfl rfl (mz (by decide)))
    (lc (cell_o (g := (adS h0 h4 u v tP tU tK b, D, C.1, C.2.1, C.2.2, A)) (o := 22) rfl rfl rfl)
    (lc (cell_b (g := (adS h0 h4 u v tP tU tK b, D, C.1, C.2.1, C.2.2, A)) (o := 23) rfl rfl (mz (by decide)))
    (lc (cell_q (g := (adS h0 h4 u v tP tU tK b, D, C.1, C.2.1, C.2.2, A)) (o := 24) rfl rfl)
    (lc (cell_o (g := (adS h0 h4 u v tP tU tK b, D, C.1, C.2.1, C.2.2, A)) (o := 25) rfl rfl rfl)
    (lc (cell_i (g := (adS h0 h4 u v tP tU tK b, D, C.1, C.2.1, C.2.2, A)) (o := 26) rfl rfl (mz (by decide)))
    (lc (cell_o (g := (adS h0 h4 u v tP tU tK b, D, C.1, C.2.1, C.2.2, A)) (o := 27) rfl rfl rfl)
    (lc (cell_i (g := (adS h0 h4 u v tP tU tK b, D, C.1, C.2.1, C.2.2, A)) (o := 28) rfl rfl (mz (by decide)))
    (lc (cell_o (g := (adS h0 h4 u v tP tU tK b, D, C.1, C.2.1, C.2.2, A)) (o := 29) rfl rfl rfl)
    (lc (cell_i (g := (adS h0 h4 u v tP tU tK b, D, C.1, C.2.1, C.2.2, A)) (o := 30) rfl rfl (mz (by decide)))
    (lc (cell_o (g := (adS h0 h4 u v tP tU tK b, D, C.1, C.2.1, C.2.2, A)) (o := 31) rfl rfl rfl)
    (lc (cell_i (g := (adS h0 h4 u v tP tU tK b, D, C.1, C.2.1, C.2.2, A)) (o := 32) rfl rfl (mz (by decide)))
    (lc (cell_i (g := (adS h0 h4 u v tP tU tK b, D, C.1, C.2.1, C.2.2, A)) (o := 33) rfl rfl (mz (by decide)))
    (lc (cell_o (g := (adS h0 h4 u v tP tU tK b, D, C.1, C.2.1, C.2.2, A)) (o := 34) rfl rfl rfl)
    (lc (cell_i (g := (adS h0 h4 u v tP tU tK b, D, C.1, C.2.1, C.2.2, A)) (o := 35) rfl rfl (mG))
    (lc (cell_i (g := (adS h0 h4 u v tP tU tK b, D, C.1, C.2.1, C.2.2, A)) (o := 36) rfl rfl (mz (by decide)))
    (lc (cell_i (g := (adS h0 h4 u v tP tU tK b, D, C.1, C.2.1, C.2.2, A)) (o := 37) rfl rfl (mz (by decide)))
    (lc (cell_i (g := (adS h0 h4 u v tP tU tK b, D, C.1, C.2.1, C.2.2, A)) (o := 38) rfl rfl (mz (by decide)))
    (lc (cell_i (g := (adS h0 h4 u v tP tU tK b, D, C.1, C.2.1, C.2.2, A)) (o := 39) rfl rfl (mz (by decide)))
    (lc (cell_i (g := (adS h0 h4 u v tP tU tK b, D, C.1, C.2.1, C.2.2, A)) (o := 40) rfl rfl (mz (by decide)))
    (lc (cell_i (g := (adS h0 h4 u v tP tU tK b, D, C.1, C.2.1, C.2.2, A)) (o := 41) rfl rfl (mB))
    (lc (cell_i (g := (adS h0 h4 u v tP tU tK b, D, C.1, C.2.1, C.2.2, A)) (o := 42) rfl rfl (mz (by decide)))
    (lc (cell_i (g := (adS h0 h4 u v tP tU tK b, D, C.1, C.2.1, C.2.2, A)) (o := 43) rfl rfl (mz (by decide)))
    (rfl))))))))))))))))))))))))))))))))))))))))))))
theorem shQ_eq {cA : ClassId} (f f2 : Nat → Option Nat) (h : ∀ j, j < 4 → f j = f2 j) : vp_cell cA (4, .inr (.inr (.inr (.inr f)))) = vp_cell cA (4, .inr (.inr (.inr (.inr f2)))) := by
  rw [vp_cell_q, vp_cell_q]
  unfold arrV
  congr 2
  funext j
  show va_rf (f j.val) = va_rf (f2 j.val)
  rw [h j.val j.isLt]
theorem cz_re {y : MD} {D : va_G} {C : Cz} {A : Nat → Prop} {p : Program} {l : Launch} {e : Env} {R : Room} {s : State} {m : MethodId} {args : Array Value} {below : List Frame} {meth : Method} {c : Code} {QF : State → Prop} {cells slots : Nat} {ws ws2 : va_W} {pc : Nat} {lv : List (Nat × Value)} {st : List Value} {a : Nat} {e1 e2 : ClassId × vp_A} (q0 : Nat) (he : ws[q0]? = some (a, .inl e1)) (hce : vp_cell e1.1 e1.2 = vp_cell e2.1 e2.2) (hws : ws.set q0 (a, .inl e2) = ws2) (k : PZ y D C A p l e R s m args below meth c QF cells slots ws2 pc lv st) : PZ y D C A p l e R s m args below meth c QF cells slots ws pc lv st := by
  intro X H locs L hP hD hS hL
  subst hws
  have h1 : H[a]? = some (vp_cell e1.1 e1.2) := hP q0 _ he
  exact k X H locs L (hP.set hD he (show H[a]? = some (vp_cell e2.1 e2.2) by rw [← hce]; exact h1) (fun _ _ => rfl)) (hD.set he) hS hL
set_option maxHeartbeats 4000000 in
set_option maxRecDepth 100000 in
theorem law_start {D : va_G} {C : Cz} {A : Nat → Prop} {p : Program} {l : Launch} {e : Env} {s : State} {m : MethodId} {args : Array Value} {below : List Frame} {meth : Method} {c : Code} {QF : State → Prop} {b tP tU tK : Nat} (hE : EX3 s)
    (hend : ∀ (h0 h4 : Nat) (u v : Nat → Nat), PZ mL_law D C A p l e room_1 s m args below meth c QF (0 + 1 + 33 + 1 + 9) (0 + 7 + 778 + 18 + 832) (outS C h0 h4 u v tP tU tK b) 18 [(3, .int 0), (2, .ref h4), (1, .ref h0), (0, .ref b)] []) : PZ mL_law D C A p l e room_1 s m args below meth c QF 0 0 [] 0 [(0, .ref b)] [] := by
  refine cz_new (ci := 3) (fs := [.null, .null, .null, .int 0, .null, .null, .null]) (N := 7) (T := TX3) (nm := RX3) tyX3 eL_law_0 inX3 tyX3_ok (in_gt 64 (by decide +kernel) rfl) (in_gt 65 (by decide +kernel) rfl) (in_gt 55 (by decide +kernel) rfl) rfl (by decide +kernel) (Nat.le_of_ble_eq_true rfl) (Nat.le_of_ble_eq_true rfl) (fun h0 => ?_)
  refine cz_dup eL_law_3 ?_
  refine cz_init (wr := []) eL_law_4 ct_X3i (fun U hW => EX3.warm hE hW) EX3.blind (in_gt 66 (by decide +kernel) rfl) (in_gt 67 (by decide +kernel) rfl) (in_gt 55 (by decide +kernel) rfl) (in_gt 68 (by decide +kernel) rfl) rfl rfl (by decide +kernel) (Nat.le_of_ble_eq_true rfl) (Nat.le_of_ble_eq_true rfl) (Nat.le_of_ble_eq_true rfl) (Nat.le_of_ble_eq_true rfl) (Nat.le_of_ble_eq_true rfl) [] 0 rfl rfl (by decide) (by decide) (fun u => ?_)
  refine cz_ws (ws2 := outX3 C h0 u) rfl ?_
  refine cz_astore (lv2 := [(1, .ref h0), (0, .ref b)]) eL_law_7 rfl (by decide) rfl ?_
  refine cz_new (ci := 4) (fs := [.null, .null, .null, .null, .int 0, .null, .null, .int 0, .null, .null, .null, .int 0, .int 0, .int 0, .int 0, .int 0, .int 0, .int 0]) (N := 18) (T := TX4) (nm := RX4) tyX4 eL_law_8 inX4 tyX4_ok (in_gt 650 (by decide +kernel) rfl) (in_gt 651 (by decide +kernel) rfl) (in_gt 60 (by decide +kernel) rfl) rfl (by decide +kernel) (Nat.le_of_ble_eq_true rfl) (Nat.le_of_ble_eq_true rfl) (fun h4 => ?_)
  refine cz_dup eL_law_11 ?_
  refine cz_init (wr := outX3 C h0 u) eL_law_12 ct_X4i (fun _ _ => trivial) (fun _ _ _ _ _ => trivial) (in_gt 652 (by decide +kernel) rfl) (in_gt 653 (by decide +kernel) rfl) (in_gt 60 (by decide +kernel) rfl) (in_gt 654 (by decide +kernel) rfl) rfl rfl (by decide +kernel) (Nat.le_of_ble_eq_true rfl) (Nat.le_of_ble_eq_true rfl) (Nat.le_of_ble_eq_true rfl) (Nat.le_of_ble_eq_true rfl) (Nat.le_of_ble_eq_true rfl) [0, 1, 2, 3, 4, 5, 6, 7, 8, 9, 10, 11, 12, 13, 14, 15, 16, 17, 18, 19, 20, 21, 22, 23, 24, 25, 26, 27, 28, 29, 30, 31, 32, 33] 34 rfl rfl (by decide) (by decide) (fun v => ?_)
  refine cz_astore (lv2 := [(2, .ref h4), (1, .ref h0), (0, .ref b)]) eL_law_15 rfl (by decide) rfl ?_
  refine cz_iconst (v := 0) eL_law_16 (by decide) ?_
  refine cz_istore (lv2 := [(3, .int 0), (2, .ref h4), (1, .ref h0), (0, .ref b)]) eL_law_17 rfl (by decide) rfl ?_
  refine cz_re (e2 := (C.2.2, 4, .inr (.inr (.inr (.inr (fun j => some (adS h0 h4 u v tP tU tK b (25 + 2 * j)))))))) (ws2 := outS C h0 h4 u v tP tU tK b) 24 rfl (shQ_eq _ _ ?_) rfl ?_
  · intro j hj
    rcases (show j = 0 ∨ j = 1 ∨ j = 2 ∨ j = 3 by omega) with rfl | rfl | rfl | rfl <;> rfl
  · exact hend h0 h4 u v

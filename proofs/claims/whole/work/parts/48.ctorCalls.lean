/-! ===== contracts of constructors, and their calls ===== -/
def Ctr (z : MD) (mc ms ci : Nat) (fs0 : List Value) (out : Cz → Nat → (Nat → Nat) → va_W) (E : State → Prop) : Prop :=
  ∀ (l : Launch) (D : va_G) (C : Cz) (h0 sz : Nat), Met l z.1 (wsD z) { frames := z.2.2.2.2.1, cells := mc, slots := ms, locals := z.2.2.2.2.2 } (va_Pc [.ref h0] (fun U => U.heap.size = sz ∧ va_P D vwCl [(h0, .inr (ci, fs0))] U.heap ∧ va_K D vwCl (tyC C) U ∧ va_D (fun _ => True) [(h0, .inr (ci, fs0))] ∧ E U)) (va_Qv (fun _ : Nat → Nat => True) (fun u t => va_P D vwCl (out C h0 u) t.heap ∧ va_D (va_A [(h0, .inr (ci, fs0))] sz) (out C h0 u)) (va_A [(h0, .inr (ci, fs0))] sz)) mc ms (va_A [(h0, .inr (ci, fs0))] sz)
theorem Ctr.of {z : MD} {mc ms ci : Nat} {fs0 : List Value} {out : Cz → Nat → (Nat → Nat) → va_W} {E : State → Prop} (hp : plainName z.1.cls = true) (hn : 1 ≤ z.2.2.1) (hret : z.2.2.2.1 = none) (hnm : z.1.name = "<init>")
    (h : ∀ (D : va_G) (C : Cz) (A : Nat → Prop) (p : Program) (l : Launch) (e : Env) (s : State) (m : MethodId) (below : List Frame) (meth : Method) (c : Code) (QF : State → Prop) (h0 : Nat), meth.name = "<init>" → E s →
      (∀ (u : Nat → Nat) (pc : Nat) (lv : List (Nat × Value)), Dn z pc .return_ 1 (pc + 1) → PZ z D C A p l e { frames := z.2.2.2.2.1, cells := mc, slots := ms, locals := z.2.2.2.2.2 } s m [Value.ref h0].toArray below meth c QF mc ms (out C h0 u) pc lv []) →
      PZ z D C A p l e { frames := z.2.2.2.2.1, cells := mc, slots := ms, locals := z.2.2.2.2.2 } s m [Value.ref h0].toArray below meth c QF 0 0 [(h0, .inr (ci, fs0))] 0 [(0, .ref h0)] []) : Ctr z mc ms ci fs0 out E := by
  intro l D C h0 sz
  refine Met.ofW (cc := z.2.1) (maxL := z.2.2.1) (ret := none) hp (by unfold wsD; rw [hret]) ?_
  intro p e s m args below meth c s₁ B hml hv
  obtain ⟨rfl, hsz, hP, hK, hD0, hE⟩ := hv
  have hts := atoms_spec (ws := wsD z) B.pre
  have hown : s.vm.findClass z.1.cls = some m.cls := findClass_of_methodNamed B.named
  have hin : meth.name = "<init>" := ((name_of_methodNamed B.named B.method).1).trans hnm
  subst hsz
  have hD := hD0.self (sz := s.heap.size)
  generalize hAe : va_A [(h0, .inr (ci, fs0))] s.heap.size = A at hD ⊢
  have hA : ∀ q : Nat, s.heap.size ≤ q → A q := fun q h => by rw [← hAe]; exact Or.inr h
  have hl := lv_entry ([.ref h0]) (n := z.2.2.1) hn
  rw [lg_entry_eq]
  generalize (lg_sl ([.ref h0]) ++ List.replicate (z.2.2.1 - (lg_sl ([.ref h0])).length) Slot.unset).toArray = ls at hl ⊢
  refine h D C A p l e s m below meth c _ h0 hin hE ?_ ⟨B.exec, B.bytes, hml, hown, fun w hw => hts w (List.mem_cons_of_mem _ hw), rfl, rfl, hK, hA⟩ s.heap [] ls hP hD va_S.rf hl
  intro u pc lv hd X H locs L hP1 hD1 hS1 hL1
  exact W.vret B.exec B.bytes B.returns (fun t ht hW => ⟨⟨u, rfl, trivial, by rw [ht]; exact hP1, hD1⟩, hS1.F ht⟩) hS1.2.2 hd.1
section CK
variable {y : MD} {D : va_G} {C : Cz} {A : Nat → Prop} {p : Program} {l : Launch} {e : Env} {R : Room} {s : State} {m : MethodId} {args : Array Value} {below : List Frame} {meth : Method} {c : Code} {QF : State → Prop} {cells slots : Nat} {ws ws2 : va_W} {pc pc2 tgt : Nat} {lv lv2 : List (Nat × Value)} {st : List Value}
theorem cz_init {z : MD} {idx mc ms ci h0 : Nat} {fs0 : List Value} {out : Cz → Nat → (Nat → Nat) → va_W} {E : State → Prop} {wr : va_W} (hd : Dn y pc (.invokespecial idx) 3 pc2) (hC : Ctr z mc ms ci fs0 out E) (hE : ∀ U : State, s.WarmedH U.vm → E U) (hEb : ∀ (U : State) (g : JFrame) (mk : MethodId) (a : Array Value), E U → E (U.calling g mk a))
    (hlk : Cond.methodLink y.1.cls idx z.1 ∈ gtbl) (hins : Cond.instanceMethod z.1 ∈ gtbl) (hini : Cond.initialized z.1.cls ∈ gtbl) (hcode : Cond.code z.1 z.2.1 z.2.2.1 z.2.2.2.1 ∈ gtbl) (hnm : z.1.name = "<init>") (hret : z.2.2.2.1 = none) (hdsc : z.1.cls ≠ "java/lang/invoke/MethodHandle" ∧ z.1.cls ≠ "java/lang/invoke/VarHandle" ∧ (parseMethodDescriptor z.1.desc).map (fun d => d.parameters.length) = some 0) (hfr : z.2.2.2.2.1 + 1 ≤ y.2.2.2.2.1) (hlo : 8 + (z.2.2.1 + 11) + z.2.2.2.2.2 ≤ y.2.2.2.2.2)
    (hc : cells + mc ≤ R.cells) (hs : slots + ms ≤ R.slots) (hw : (st.map fun v => v.category).sum ≤ 8) (isR : List Nat) (q0 : Nat) (he : ws[q0]? = some (h0, .inr (ci, fs0))) (hR : isR.map (fun i => ws[i]?) = wr.map some) (hn : va_nd isR = true) (hdis : q0 ∉ isR)
    (k : ∀ u : Nat → Nat, PZ y D C A p l e R s m args below meth c QF (cells + mc) (slots + ms) (wr ++ out C h0 u) pc2 lv st) : PZ y D C A p l e R s m args below meth c QF cells slots ws pc lv (.ref h0 :: st) := by
  intro X H locs L hP hD hS hL
  obtain ⟨hd, rfl⟩ := hd
  have hq : [q0].map (fun i => ws[i]?) = [((h0, .inr (ci, fs0)) : Nat × va_E)].map some := by simp only [List.map_cons, List.map_nil, he]
  have hPc := hP.sub (ws' := [(h0, .inr (ci, fs0))]) [q0] (by simp only [List.filterMap_cons, List.filterMap_nil, he])
  have hDc := hD.sub (ws' := [(h0, .inr (ci, fs0))]) [q0] rfl hq
  have hKc := X.2.2.2.2.2.2.2.1
  have hFc := va_free (wc := [(h0, .inr (ci, fs0))]) hD hS X.2.2.2.2.2.2.2.2 [q0] hq
  have hret2 : wsD z = Cond.code z.1 z.2.1 z.2.2.1 none :: gtbl := by unfold wsD; rw [hret]
  refine va_callv (va_runI (As := []) (rest := st) ⟨X.1, X.2.1, X.2.2.1, X.2.2.2.1, X.2.2.2.2.1⟩ (hC l D C h0 H.size) (cwI 0 X.2.2.2.2.1 (good_D hcode) hret2 rfl rfl (X.2.2.2.2.1 _ hini) (X.2.2.2.2.1 _ hlk) (X.2.2.2.2.1 _ hins) hnm hdsc ⟨by rw [X.2.2.2.2.2.1]; exact hfr, by rw [X.2.2.2.2.2.2.1]; exact hlo⟩) ⟨fun a U g mk q => by obtain ⟨q0, q1, qP, qK, qD, qE⟩ := q; exact ⟨q0, q1, qP, va_K.moved (u := U) (U := U.calling g mk a) (Vm.Alike.refl U.vm) qK, qD, hEb U g mk a qE⟩, fun U hU hW => ⟨rfl, by rw [hU], by rw [hU]; exact hPc, va_K.moved hW.alike hKc, hDc.weaken (fun _ _ _ _ => trivial), hE U hW⟩⟩ rfl rfl hL.1 rfl (lv_room hw) hd ⟨hc, hs⟩) hS (fun q _ h => hFc q h) hFc (fun u t H1 locs ht hvm h5 hB hz1 hk1 hS => ?_)
  obtain ⟨hP1, hD1⟩ := hB
  rw [ht] at hP1
  obtain ⟨hP, hD⟩ := va_join (wr := wr) (w1 := out C h0 u) hP hD [q0] isR hq hR hn (fun i hi hm => hdis (by rw [List.mem_singleton] at hm; rw [← hm]; exact hi)) hk1 hFc hP1 hD1
  exact k u X H1 locs L hP hD hS hL
theorem cz_initN {z : MD} {host : String} {idx mc ms ci h0 : Nat} {fs0 : List Value} {out : Cz → Nat → (Nat → Nat) → va_W} {E : State → Prop} {wr : va_W} (hd : Dn y pc (.invokespecial idx) 3 pc2) (hC : Ctr z mc ms ci fs0 out E) (hE : ∀ U : State, s.WarmedH U.vm → E U) (hEb : ∀ (U : State) (g : JFrame) (mk : MethodId) (a : Array Value), E U → E (U.calling g mk a))
    (hlk : va_Nw (.methodLinkNest y.1.cls idx z.1 host) s) (hins : Cond.instanceMethod z.1 ∈ gtbl) (hini : Cond.initialized z.1.cls ∈ gtbl) (hcode : Cond.code z.1 z.2.1 z.2.2.1 z.2.2.2.1 ∈ gtbl) (hnm : z.1.name = "<init>") (hret : z.2.2.2.1 = none) (hdsc : z.1.cls ≠ "java/lang/invoke/MethodHandle" ∧ z.1.cls ≠ "java/lang/invoke/VarHandle" ∧ (parseMethodDescriptor z.1.desc).map (fun d => d.parameters.length) = some 0) (hfr : z.2.2.2.2.1 + 1 ≤ y.2.2.2.2.1) (hlo : 8 + (z.2.2.1 + 11) + z.2.2.2.2.2 ≤ y.2.2.2.2.2)
    (hc : cells + mc ≤ R.cells) (hs : slots + ms ≤ R.slots) (hw : (st.map fun v => v.category).sum ≤ 8) (isR : List Nat) (q0 : Nat) (he : ws[q0]? = some (h0, .inr (ci, fs0))) (hR : isR.map (fun i => ws[i]?) = wr.map some) (hn : va_nd isR = true) (hdis : q0 ∉ isR)
    (k : ∀ u : Nat → Nat, PZ y D C A p l e R s m args below meth c QF (cells + mc) (slots + ms) (wr ++ out C h0 u) pc2 lv st) : PZ y D C A p l e R s m args below meth c QF cells slots ws pc lv (.ref h0 :: st) := by
  intro X H locs L hP hD hS hL
  obtain ⟨hd, rfl⟩ := hd
  have hq : [q0].map (fun i => ws[i]?) = [((h0, .inr (ci, fs0)) : Nat × va_E)].map some := by simp only [List.map_cons, List.map_nil, he]
  have hPc := hP.sub (ws' := [(h0, .inr (ci, fs0))]) [q0] (by simp only [List.filterMap_cons, List.filterMap_nil, he])
  have hDc := hD.sub (ws' := [(h0, .inr (ci, fs0))]) [q0] rfl hq
  have hKc := X.2.2.2.2.2.2.2.1
  have hFc := va_free (wc := [(h0, .inr (ci, fs0))]) hD hS X.2.2.2.2.2.2.2.2 [q0] hq
  have hret2 : wsD z = Cond.code z.1 z.2.1 z.2.2.1 none :: gtbl := by unfold wsD; rw [hret]
  refine va_callv (va_runIN (As := []) (rest := st) ⟨X.1, X.2.1, X.2.2.1, X.2.2.2.1, X.2.2.2.2.1⟩ (hC l D C h0 H.size) ⟨va_cnB 0 X.2.2.2.2.1 (good_D hcode) hret2 rfl rfl hlk (X.2.2.2.2.1 _ hini) hdsc ⟨by rw [X.2.2.2.2.2.1]; exact hfr, by rw [X.2.2.2.2.2.2.1]; exact hlo⟩, hnm, X.2.2.2.2.1 _ hins⟩ ⟨fun a U g mk q => by obtain ⟨q0, q1, qP, qK, qD, qE⟩ := q; exact ⟨q0, q1, qP, va_K.moved (u := U) (U := U.calling g mk a) (Vm.Alike.refl U.vm) qK, qD, hEb U g mk a qE⟩, fun U hU hW => ⟨rfl, by rw [hU], by rw [hU]; exact hPc, va_K.moved hW.alike hKc, hDc.weaken (fun _ _ _ _ => trivial), hE U hW⟩⟩ rfl rfl hL.1 rfl (lv_room hw) hd ⟨hc, hs⟩) hS (fun q _ h => hFc q h) hFc (fun u t H1 locs ht hvm h5 hB hz1 hk1 hS => ?_)
  obtain ⟨hP1, hD1⟩ := hB
  rw [ht] at hP1
  obtain ⟨hP, hD⟩ := va_join (wr := wr) (w1 := out C h0 u) hP hD [q0] isR hq hR hn (fun i hi hm => hdis (by rw [List.mem_singleton] at hm; rw [← hm]; exact hi)) hk1 hFc hP1 hD1
  exact k u X H1 locs L hP hD hS hL
end CK
/-! ===== Arrays.fill inside a constructor ===== -/
abbrev wF (C : Cz) (a : Nat) (f : Nat → Int32) : va_W := [(a, .inl (C.1, 10, .inl f))]
def CtF (f g : Nat → Int32) : Prop :=
  ∀ (l : Launch) (D : va_G) (C : Cz) (a sz : Nat), Met l mJ7_fill_53178.1 (wsD mJ7_fill_53178) { frames := 0, cells := 0, slots := 0, locals := 0 } (va_Pc [.ref a, .int (-1)] (fun U => U.heap.size = sz ∧ va_P D vwCl (wF C a f) U.heap ∧ va_K D vwCl (tyC C) U ∧ va_D (fun _ => True) (wF C a f))) (va_Qv (fun _ : Nat → Nat => True) (fun _ t => va_P D vwCl (wF C a g) t.heap ∧ va_D (va_A (wF C a f) sz) (wF C a g)) (va_A (wF C a f) sz)) 0 0 (va_A (wF C a f) sz)
theorem CtF.of {f g : Nat → Int32}
    (h : ∀ (D : va_G) (C : Cz) (A : Nat → Prop) (p : Program) (l : Launch) (e : Env) (s : State) (m : MethodId) (below : List Frame) (meth : Method) (c : Code) (QF : State → Prop) (a : Nat),
      (∀ (lv : List (Nat × Value)), PZ mJ7_fill_53178 D C A p l e { frames := 0, cells := 0, slots := 0, locals := 0 } s m [Value.ref a, .int (-1)].toArray below meth c QF 0 0 (wF C a g) 20 lv []) →
      PZ mJ7_fill_53178 D C A p l e { frames := 0, cells := 0, slots := 0, locals := 0 } s m [Value.ref a, .int (-1)].toArray below meth c QF 0 0 (wF C a f) 0 [(0, .ref a), (1, .int (-1))] []) : CtF f g := by
  intro l D C a sz
  refine Met.ofW (cc := mJ7_fill_53178.2.1) (maxL := mJ7_fill_53178.2.2.1) (ret := none) (by decide) rfl ?_
  intro p e s m args below meth c s₁ B hml hv
  obtain ⟨rfl, hsz, hP, hK, hD0⟩ := hv
  have hts := atoms_spec (ws := wsD mJ7_fill_53178) B.pre
  have hown : s.vm.findClass mJ7_fill_53178.1.cls = some m.cls := findClass_of_methodNamed B.named
  subst hsz
  have hD := hD0.self (sz := s.heap.size)
  generalize hAe : va_A (wF C a f) s.heap.size = A at hD ⊢
  have hA : ∀ q : Nat, s.heap.size ≤ q → A q := fun q h => by rw [← hAe]; exact Or.inr h
  have hl := lv_entry ([.ref a, .int (-1)]) (n := mJ7_fill_53178.2.2.1) (Nat.le_of_ble_eq_true rfl)
  rw [lg_entry_eq]
  generalize (lg_sl ([.ref a, .int (-1)]) ++ List.replicate (mJ7_fill_53178.2.2.1 - (lg_sl ([.ref a, .int (-1)])).length) Slot.unset).toArray = ls at hl ⊢
  refine h D C A p l e s m below meth c _ a ?_ ⟨B.exec, B.bytes, hml, hown, fun w hw => hts w (List.mem_cons_of_mem _ hw), rfl, rfl, hK, hA⟩ s.heap [] ls hP hD va_S.rf hl
  intro lv X H locs L hP1 hD1 hS1 hL1
  exact W.vret B.exec B.bytes B.returns (fun t ht hW => ⟨⟨fun k => k, rfl, trivial, by rw [ht]; exact hP1, hD1⟩, hS1.F ht⟩) hS1.2.2 eJ7_fill_53178_20.1
section CF
variable {y : MD} {D : va_G} {C : Cz} {A : Nat → Prop} {p : Program} {l : Launch} {e : Env} {R : Room} {s : State} {m : MethodId} {args : Array Value} {below : List Frame} {meth : Method} {c : Code} {QF : State → Prop} {cells slots : Nat} {ws ws2 : va_W} {pc pc2 tgt : Nat} {lv lv2 : List (Nat × Value)} {st : List Value}
theorem cz_fill {idx a : Nat} {f g : Nat → Int32} {wr : va_W} (hd : Dn y pc (.invokestatic idx) 3 pc2) (hC : CtF f g) (hlk : Cond.methodLink y.1.cls idx mJ7_fill_53178.1 ∈ gtbl) (hfr : 1 ≤ y.2.2.2.2.1) (hlo : 23 ≤ y.2.2.2.2.2)
    (hc : cells ≤ R.cells) (hs : slots ≤ R.slots) (hw : (st.map fun v => v.category).sum ≤ 8) (isR : List Nat) (q0 : Nat) (he : ws[q0]? = some (a, .inl (C.1, 10, .inl f))) (hR : isR.map (fun i => ws[i]?) = wr.map some) (hn : va_nd isR = true) (hdis : q0 ∉ isR)
    (k : PZ y D C A p l e R s m args below meth c QF cells slots (wr ++ wF C a g) pc2 lv st) : PZ y D C A p l e R s m args below meth c QF cells slots ws pc lv (.int (-1) :: .ref a :: st) := by
  intro X H locs L hP hD hS hL
  obtain ⟨hd, rfl⟩ := hd
  have hq : [q0].map (fun i => ws[i]?) = (wF C a f).map some := by simp only [wF, List.map_cons, List.map_nil, he]
  have hPc := hP.sub (ws' := wF C a f) [q0] (by simp only [wF, List.filterMap_cons, List.filterMap_nil, he])
  have hDc := hD.sub (ws' := wF C a f) [q0] rfl hq
  have hKc := X.2.2.2.2.2.2.2.1
  have hFc := va_free (wc := wF C a f) hD hS X.2.2.2.2.2.2.2.2 [q0] hq
  have k2 : Cond.static mJ7_fill_53178.1 ∈ gtbl := in_gt 79 (by decide +kernel) rfl
  have k4 : Cond.initialized mJ7_fill_53178.1.cls ∈ gtbl := in_gt 57 (by decide +kernel) rfl
  have k5 : Cond.code mJ7_fill_53178.1 mJ7_fill_53178.2.1 mJ7_fill_53178.2.2.1 mJ7_fill_53178.2.2.2.1 ∈ gtbl := in_gt 80 (by decide +kernel) rfl
  have hcw : CallB R s args y.1.cls idx mJ7_fill_53178.1 mJ7_fill_53178.2.1 mJ7_fill_53178.2.2.1 mJ7_fill_53178.2.2.2.1 (wsD mJ7_fill_53178) { frames := 0, cells := 0, slots := 0, locals := 0 } 0 0 2 ∧ (Cond.static mJ7_fill_53178.1).before args s = true := by
    refine va_cwS 2 X.2.2.2.2.1 (fun w hw => ?_) rfl rfl rfl (by decide +kernel) ⟨by rw [X.2.2.2.2.2.1]; exact hfr, by rw [X.2.2.2.2.2.2.1]; exact hlo⟩
    unfold va_wsS at hw
    rcases List.mem_append.mp hw with h | h
    · simp only [List.mem_cons, List.not_mem_nil, or_false] at h
      rcases h with h | h | h <;> rw [h]
      · exact good_in hlk
      · exact good_in k2
      · exact good_in k4
    · exact good_D k5 w h
  refine va_callv (va_runS (As := [.ref a, .int (-1)]) (rest := st) ⟨X.1, X.2.1, X.2.2.1, X.2.2.2.1, X.2.2.2.2.1⟩ (hC l D C a H.size) hcw ⟨fun a U g mk q => by obtain ⟨q0, q1, qP, qK, qD⟩ := q; exact ⟨q0, q1, qP, va_K.moved (u := U) (U := U.calling g mk a) (Vm.Alike.refl U.vm) qK, qD⟩, fun U hU hW => ⟨rfl, by rw [hU], by rw [hU]; exact hPc, va_K.moved hW.alike hKc, hDc.weaken (fun _ _ _ _ => trivial)⟩⟩ rfl rfl hL.1 rfl (lv_room hw) hd ⟨hc, hs⟩) hS (fun q _ h => hFc q h) hFc (fun u t H1 locs ht hvm h5 hB hz1 hk1 hS => ?_)
  obtain ⟨hP1, hD1⟩ := hB
  rw [ht] at hP1
  obtain ⟨hP, hD⟩ := va_join (wr := wr) (w1 := wF C a g) hP hD [q0] isR hq hR hn (fun i hi hm => hdis (by rw [List.mem_singleton] at hm; rw [← hm]; exact hi)) hk1 hFc hP1 hD1
  exact k X H1 locs L hP hD hS hL
theorem cz_sub (is : List Nat) (hn : va_nd is = true) (h1 : is.filterMap (fun i => ws[i]?) = ws2) (h2 : is.map (fun i => ws[i]?) = ws2.map some) (k : PZ y D C A p l e R s m args below meth c QF cells slots ws2 pc lv st) : PZ y D C A p l e R s m args below meth c QF cells slots ws pc lv st :=
  fun X H locs L hP hD hS hL => k X H locs L (hP.sub is h1) (hD.sub is hn h2) hS hL
end CF

/-! ===== rows for constructors and the law's start: a world that grows ===== -/
abbrev Cz : Type := ClassId × ClassId × ClassId
abbrev tyC (C : Cz) : List (ClassId × FieldType) := [(C.1, .int), (C.2.1, .byte), (C.2.2, .object RX1)]
def Kx (y : MD) (D : va_G) (C : Cz) (A : Nat → Prop) (p : Program) (R : Room) (s : State) (m : MethodId) (args : Array Value) (c : Code) : Prop :=
  p.tables.exec = Jvm.exec ∧ c.code = y.2.1 ∧ c.maxLocals = y.2.2.1 ∧ s.vm.findClass y.1.cls = some m.cls ∧ (∀ w ∈ gtbl, w.before args s = true) ∧ R.frames = y.2.2.2.2.1 ∧ R.locals = y.2.2.2.2.2 ∧ va_K D vwCl (tyC C) s ∧ ∀ q : Nat, s.heap.size ≤ q → A q
/-- the machine's W from every heap that holds the world ws -/
def PZ (y : MD) (D : va_G) (C : Cz) (A : Nat → Prop) (p : Program) (l : Launch) (e : Env) (R : Room) (s : State) (m : MethodId) (args : Array Value) (below : List Frame) (meth : Method) (c : Code) (QF : State → Prop) (cells slots : Nat) (ws : va_W) (pc : Nat) (lv : List (Nat × Value)) (st : List Value) : Prop :=
  Kx y D C A p R s m args c → ∀ (H : Heap) (locs : List Loc) (L : Array Slot), va_P D vwCl ws H → va_D A ws → va_S A s.heap H locs → lv_has L y.2.2.1 lv → W p l e R s m args below meth c H locs cells slots QF (F0 m pc L st)
section CZ
variable {y : MD} {D : va_G} {C : Cz} {A : Nat → Prop} {p : Program} {l : Launch} {e : Env} {R : Room} {s : State} {m : MethodId} {args : Array Value} {below : List Frame} {meth : Method} {c : Code} {QF : State → Prop} {cells slots : Nat} {ws ws2 : va_W} {pc pc2 tgt : Nat} {lv lv2 : List (Nat × Value)} {st : List Value}
theorem cz_aload {n : Fin 4} {i x : Nat} (hd : Dn y pc (.aload_n n) 1 pc2) (hi : (n : Nat) = i) (j : Nat) (hl : lv[j]? = some (i, .ref x)) (k : PZ y D C A p l e R s m args below meth c QF cells slots ws pc2 lv (.ref x :: st)) : PZ y D C A p l e R s m args below meth c QF cells slots ws pc lv st := by
  intro X H locs L hP hD hS hL
  obtain ⟨hd, rfl⟩ := hd
  exact lv_aload_n X.1 X.2.1 hd hi (lv_at hL j hl) (k X H locs L hP hD hS hL)
theorem cz_iload {n : Fin 4} {i : Nat} {x : Int32} (hd : Dn y pc (.iload_n n) 1 pc2) (hi : (n : Nat) = i) (j : Nat) (hl : lv[j]? = some (i, .int x)) (k : PZ y D C A p l e R s m args below meth c QF cells slots ws pc2 lv (.int x :: st)) : PZ y D C A p l e R s m args below meth c QF cells slots ws pc lv st := by
  intro X H locs L hP hD hS hL
  obtain ⟨hd, rfl⟩ := hd
  exact lv_iload_n X.1 X.2.1 hd hi (lv_at hL j hl) (k X H locs L hP hD hS hL)
theorem cz_bipush {n : Int} {v : Int32} (hd : Dn y pc (.bipush n) 2 pc2) (hv : (Int8.ofInt n).toInt32 = v) (k : PZ y D C A p l e R s m args below meth c QF cells slots ws pc2 lv (.int v :: st)) : PZ y D C A p l e R s m args below meth c QF cells slots ws pc lv st := by
  intro X H locs L hP hD hS hL
  obtain ⟨hd, rfl⟩ := hd
  exact lv_bipush X.1 X.2.1 hd hv (k X H locs L hP hD hS hL)
theorem cz_sipush {n : Int} {v : Int32} (hd : Dn y pc (.sipush n) 3 pc2) (hv : (Int16.ofInt n).toInt32 = v) (k : PZ y D C A p l e R s m args below meth c QF cells slots ws pc2 lv (.int v :: st)) : PZ y D C A p l e R s m args below meth c QF cells slots ws pc lv st := by
  intro X H locs L hP hD hS hL
  obtain ⟨hd, rfl⟩ := hd
  exact lv_sipush X.1 X.2.1 hd hv (k X H locs L hP hD hS hL)
theorem cz_iconst {n : Int} {v : Int32} (hd : Dn y pc (.iconst n) 1 pc2) (hv : Int32.ofInt n = v) (k : PZ y D C A p l e R s m args below meth c QF cells slots ws pc2 lv (.int v :: st)) : PZ y D C A p l e R s m args below meth c QF cells slots ws pc lv st := by
  intro X H locs L hP hD hS hL
  obtain ⟨hd, rfl⟩ := hd
  exact lv_iconst X.1 X.2.1 hd hv (k X H locs L hP hD hS hL)
theorem cz_lconst {n : Fin 2} {v : Int64} (hd : Dn y pc (.lconst n) 1 pc2) (hv : Int64.ofNat (n : Nat) = v) (k : PZ y D C A p l e R s m args below meth c QF cells slots ws pc2 lv (.long v :: st)) : PZ y D C A p l e R s m args below meth c QF cells slots ws pc lv st := by
  intro X H locs L hP hD hS hL
  obtain ⟨hd, rfl⟩ := hd
  exact lv_lconst X.1 X.2.1 hd hv (k X H locs L hP hD hS hL)
theorem cz_dup {x : Nat} (hd : Dn y pc .dup 1 pc2) (k : PZ y D C A p l e R s m args below meth c QF cells slots ws pc2 lv (.ref x :: .ref x :: st)) : PZ y D C A p l e R s m args below meth c QF cells slots ws pc lv (.ref x :: st) := by
  intro X H locs L hP hD hS hL
  obtain ⟨hd, rfl⟩ := hd
  exact lv_dup X.1 X.2.1 hd rfl (k X H locs L hP hD hS hL)
theorem cz_iadd {x z v : Int32} (hd : Dn y pc .iadd 1 pc2) (hv : x + z = v) (k : PZ y D C A p l e R s m args below meth c QF cells slots ws pc2 lv (.int v :: st)) : PZ y D C A p l e R s m args below meth c QF cells slots ws pc lv (.int z :: .int x :: st) := by
  intro X H locs L hP hD hS hL
  obtain ⟨hd, rfl⟩ := hd
  subst hv
  exact lv_iadd X.1 X.2.1 hd (k X H locs L hP hD hS hL)
theorem cz_imul {x z v : Int32} (hd : Dn y pc .imul 1 pc2) (hv : x * z = v) (k : PZ y D C A p l e R s m args below meth c QF cells slots ws pc2 lv (.int v :: st)) : PZ y D C A p l e R s m args below meth c QF cells slots ws pc lv (.int z :: .int x :: st) := by
  intro X H locs L hP hD hS hL
  obtain ⟨hd, rfl⟩ := hd
  subst hv
  exact lv_imul X.1 X.2.1 hd (k X H locs L hP hD hS hL)
theorem cz_istore {n : Fin 4} {i : Nat} {x : Int32} (hd : Dn y pc (.istore_n n) 1 pc2) (hi : (n : Nat) = i) (hn : i < y.2.2.1) (hl : (i, Value.int x) :: lv.filter (fun q => !(q.1 == i) && !(q.1 + 1 == i && q.2.category == 2)) = lv2) (k : PZ y D C A p l e R s m args below meth c QF cells slots ws pc2 lv2 st) : PZ y D C A p l e R s m args below meth c QF cells slots ws pc lv (.int x :: st) := by
  intro X H locs L hP hD hS hL
  obtain ⟨hd, rfl⟩ := hd
  exact lv_istore_n X.1 X.2.1 hd hi hL hn hl (fun L2 hL2 => k X H locs L2 hP hD hS hL2)
theorem cz_astore {n : Fin 4} {i x : Nat} (hd : Dn y pc (.astore_n n) 1 pc2) (hi : (n : Nat) = i) (hn : i < y.2.2.1) (hl : (i, Value.ref x) :: lv.filter (fun q => !(q.1 == i) && !(q.1 + 1 == i && q.2.category == 2)) = lv2) (k : PZ y D C A p l e R s m args below meth c QF cells slots ws pc2 lv2 st) : PZ y D C A p l e R s m args below meth c QF cells slots ws pc lv (.ref x :: st) := by
  intro X H locs L hP hD hS hL
  obtain ⟨hd, rfl⟩ := hd
  exact lv_astore_n X.1 X.2.1 hd hi hL hn hl (fun L2 hL2 => k X H locs L2 hP hD hS hL2)
theorem cz_iinc {i : Nat} {n : Int} {x v : Int32} (hd : Dn y pc (.iinc i n) 3 pc2) (j : Nat) (hj : lv[j]? = some (i, .int x)) (hv : x + Int32.ofInt n = v) (hn : i < y.2.2.1) (hl : (i, Value.int v) :: lv.filter (fun q => !(q.1 == i) && !(q.1 + 1 == i && q.2.category == 2)) = lv2) (k : PZ y D C A p l e R s m args below meth c QF cells slots ws pc2 lv2 st) : PZ y D C A p l e R s m args below meth c QF cells slots ws pc lv st := by
  intro X H locs L hP hD hS hL
  obtain ⟨hd, rfl⟩ := hd
  exact lv_iinc X.1 X.2.1 hd hL hj hv hn hl (fun L2 hL2 => k X H locs L2 hP hD hS hL2)
theorem cz_goto {off : Int} (hd : Dj y pc (.goto off) off pc2 tgt) (k : PZ y D C A p l e R s m args below meth c QF cells slots ws tgt lv st) : PZ y D C A p l e R s m args below meth c QF cells slots ws pc lv st := by
  intro X H locs L hP hD hS hL
  obtain ⟨hd, -, ht⟩ := hd
  exact lv_goto X.1 X.2.1 hd ht (k X H locs L hP hD hS hL)
theorem cz_ge_t {off : Int} {x z : Int32} (hd : Dj y pc (.if_icmp .ge off) off pc2 tgt) (h : z ≤ x) (k : PZ y D C A p l e R s m args below meth c QF cells slots ws tgt lv st) : PZ y D C A p l e R s m args below meth c QF cells slots ws pc lv (.int z :: .int x :: st) := by
  intro X H locs L hP hD hS hL
  obtain ⟨hd, rfl, ht⟩ := hd
  exact lv_icmp_ge X.1 X.2.1 hd ht (fun _ => k X H locs L hP hD hS hL) (fun h2 => absurd h h2)
theorem cz_ge_f {off : Int} {x z : Int32} (hd : Dj y pc (.if_icmp .ge off) off pc2 tgt) (h : ¬ z ≤ x) (k : PZ y D C A p l e R s m args below meth c QF cells slots ws pc2 lv st) : PZ y D C A p l e R s m args below meth c QF cells slots ws pc lv (.int z :: .int x :: st) := by
  intro X H locs L hP hD hS hL
  obtain ⟨hd, rfl, ht⟩ := hd
  exact lv_icmp_ge X.1 X.2.1 hd ht (fun h2 => absurd h2 h) (fun _ => k X H locs L hP hD hS hL)
theorem cz_obj {idx x : Nat} (hd : Dn y pc (.invokespecial idx) 3 pc2) (hm : Cond.methodLink y.1.cls idx objectInit ∈ gtbl) (hf : 1 ≤ R.frames) (hlo : 20 ≤ R.locals) (hw : (st.map fun v => v.category).sum ≤ 8) (k : PZ y D C A p l e R s m args below meth c QF cells slots ws pc2 lv st) : PZ y D C A p l e R s m args below meth c QF cells slots ws pc lv (.ref x :: st) := by
  intro X H locs L hP hD hS hL
  obtain ⟨hd, rfl⟩ := hd
  have ho : Cond.instanceMethod objectInit ∈ gtbl := in_gt 70 (by decide +kernel) rfl
  have hc : Cond.code objectInit ⟨#[0xb1]⟩ 1 none ∈ gtbl := in_gt 71 (by decide +kernel) rfl
  refine W.objInit X.1 X.2.1 X.2.2.2.1 (X.2.2.2.2.1 _ hm) (X.2.2.2.2.1 _ ho) (X.2.2.2.2.1 _ hc) rfl (by rw [X.2.2.1]; exact hL.1) rfl hd hf (by show 2 * 0 + (st.map fun v => v.category).sum + 12 ≤ R.locals; omega) ?_
  exact W.eq (g2 := F0 m (pc + 3) L st) rfl (k X H locs L hP hD hS hL)
theorem va_K.one {t1 t2 : List (ClassId × FieldType)} {U : State} {cA c0 : ClassId} {ty : FieldType} (j : Nat) (h1 : va_K D vwCl (tyC C ++ [(cA, ty)]) U) (hj : (tyC C)[j]? = some (c0, ty)) (hy : ∀ (U : State) (c1 : ClassId), va_RA U c1 ty → U.vm.findClass ("[" ++ ty.toString) = some c1) : cA = c0 := by
  have a1 := (h1.2 3 (cA, ty) rfl).2
  have a2 := (h1.2 j (c0, ty) (by rw [List.getElem?_append_left (List.getElem?_eq_some_iff.mp hj).1]; exact hj)).2
  have b1 := hy _ _ a1
  have b2 := hy _ _ a2
  exact Option.some.inj (b1.symm.trans b2)
theorem cz_newi {n : Int32} {N : Nat} (hd : Dn y pc (.newarray .int) 2 pc2) (hn : ¬ n < 0) (hN : n.toNatClampNeg = N) (hby : N * 4 ≤ 536870912) (hc : cells + 1 ≤ R.cells) (hs : slots + N ≤ R.slots) (k : ∀ q : Nat, PZ y D C A p l e R s m args below meth c QF (cells + 1) (slots + N) (ws ++ [(q, .inl (C.1, N, .inl (fun _ => 0)))]) pc2 lv (.ref q :: st)) : PZ y D C A p l e R s m args below meth c QF cells slots ws pc lv (.int n :: st) := by
  intro X H locs L hP hD hS hL
  obtain ⟨hd, rfl⟩ := hd
  have ha : Cond.arrayClass .int ∈ gtbl := in_gt 121 (by decide +kernel) rfl
  refine va_newa (atype := .int) (a0 := (N, .inl (fun _ => 0))) X.1 X.2.1 (X.2.2.2.2.1 _ ha) rfl X.2.2.2.2.2.2.2.1 hP hD hS X.2.2.2.2.2.2.2.2 (fun cA => rfl) hn hN hby hc hs hd (fun q cA H1 hK1 hP1 hD1 hS1 => ?_)
  have he : cA = C.1 := va_K.one (t1 := []) (t2 := []) 0 hK1 rfl (fun U c1 h => h)
  subst he
  exact k q X H1 locs L hP1 hD1 hS1 hL
theorem cz_newb {n : Int32} {N : Nat} (hd : Dn y pc (.newarray .byte) 2 pc2) (hn : ¬ n < 0) (hN : n.toNatClampNeg = N) (hby : N * 1 ≤ 536870912) (hc : cells + 1 ≤ R.cells) (hs : slots + N ≤ R.slots) (k : ∀ q : Nat, PZ y D C A p l e R s m args below meth c QF (cells + 1) (slots + N) (ws ++ [(q, .inl (C.2.1, N, .inl (fun _ => 0)))]) pc2 lv (.ref q :: st)) : PZ y D C A p l e R s m args below meth c QF cells slots ws pc lv (.int n :: st) := by
  intro X H locs L hP hD hS hL
  obtain ⟨hd, rfl⟩ := hd
  have ha : Cond.arrayClass .byte ∈ gtbl := in_gt 151 (by decide +kernel) rfl
  refine va_newa (atype := .byte) (a0 := (N, .inl (fun _ => 0))) X.1 X.2.1 (X.2.2.2.2.1 _ ha) rfl X.2.2.2.2.2.2.2.1 hP hD hS X.2.2.2.2.2.2.2.2 (fun cA => rfl) hn hN hby hc hs hd (fun q cA H1 hK1 hP1 hD1 hS1 => ?_)
  have he : cA = C.2.1 := va_K.one (t1 := []) (t2 := []) 1 hK1 rfl (fun U c1 h => h)
  subst he
  exact k q X H1 locs L hP1 hD1 hS1 hL
theorem cz_newq {n : Int32} {N idx : Nat} (hd : Dn y pc (.anewarray idx) 3 pc2) (hlk : Cond.classLink y.1.cls idx RX1 ∈ gtbl) (hov : va_AO RX1 s) (hn : ¬ n < 0) (hN : n.toNatClampNeg = N) (hby : N * 4 ≤ 536870912) (hc : cells + 1 ≤ R.cells) (hs : slots + N ≤ R.slots) (k : ∀ q : Nat, PZ y D C A p l e R s m args below meth c QF (cells + 1) (slots + N) (ws ++ [(q, .inl (C.2.2, N, .inr (.inr (.inr (.inr (fun _ => none))))))]) pc2 lv (.ref q :: st)) : PZ y D C A p l e R s m args below meth c QF cells slots ws pc lv (.int n :: st) := by
  intro X H locs L hP hD hS hL
  obtain ⟨hd, rfl⟩ := hd
  refine va_newq X.1 X.2.1 X.2.2.2.1 (X.2.2.2.2.1 _ hlk) hov X.2.2.2.2.2.2.2.1 hP hD hS X.2.2.2.2.2.2.2.2 hn hN hby hc hs hd (fun q cA H1 hK1 hP1 hD1 hS1 => ?_)
  have he : cA = C.2.2 := va_K.one (t1 := []) (t2 := []) 2 hK1 rfl (fun U c1 h => by obtain ⟨_, _, _, _, _, h4⟩ := h; exact h4)
  subst he
  exact k q X H1 locs L hP1 hD1 hS1 hL
theorem cz_new {idx ci N : Nat} {nm : String} {T : u_T} {fs : List Value} (ty0 : Nat → FieldType) (hd : Dn y pc (.new idx) 3 pc2) (hin : ∀ w ∈ u_ws nm T N, w ∈ gtbl) (hty : ∀ k, k < N → parseFieldDescriptor (T k).2.2.1 = some (ty0 k)) (hlk : Cond.classLink y.1.cls idx nm ∈ gtbl) (hinst : Cond.instantiable nm N ∈ gtbl) (hini : Cond.initialized nm ∈ gtbl) (hcl : vwCl[ci]? = some (nm, T, N)) (hfs : ∀ j, j < N → defaultValue (ty0 j) = vp_V fs j) (hc : cells + 1 ≤ R.cells) (hs : slots + N ≤ R.slots) (k : ∀ q : Nat, PZ y D C A p l e R s m args below meth c QF (cells + 1) (slots + N) (ws ++ [(q, .inr (ci, fs))]) pc2 lv (.ref q :: st)) : PZ y D C A p l e R s m args below meth c QF cells slots ws pc lv st := by
  intro X H locs L hP hD hS hL
  obtain ⟨hd, rfl⟩ := hd
  exact va_new X.1 X.2.1 X.2.2.2.2.1 hin ty0 hty X.2.2.2.1 (X.2.2.2.2.1 _ hlk) (X.2.2.2.2.1 _ hinst) (X.2.2.2.2.1 _ hini) X.2.2.2.2.2.2.2.1 hP hD hS X.2.2.2.2.2.2.2.2 hcl hfs hc hs hd (fun q H1 hP1 hD1 hS1 => k q X H1 locs L hP1 hD1 hS1 hL)
theorem cz_putF {idx ci N : Nat} {T : u_T} {fs : List Value} {a : Nat} {v : Value} {ty : FieldType} (ty0 : Nat → FieldType) (hin : meth.name = "<init>") (hd : Dn y pc (.putfield idx) 3 pc2) (hu : ∀ w ∈ u_ws y.1.cls T N, w ∈ gtbl) (hty : ∀ k, k < N → parseFieldDescriptor (T k).2.2.1 = some (ty0 k)) (hnm : ∀ a, a < N → ∀ b, b < N → a ≠ b → (T a).2.1 ≠ (T b).2.1) (q0 : Nat) (he : ws[q0]? = some (a, .inr (ci, fs))) (hcl : vwCl[ci]? = some (y.1.cls, T, N)) (j : Nat) (hj : j < N) (hlk : Cond.fieldLink y.1.cls idx (T j).1 (T j).2.1 (T j).2.2.1 ∈ gtbl) (hfin : (T j).2.2.2 = true) (hdecl : (T j).1 = y.1.cls) (hp : parseFieldDescriptor (T j).2.2.1 = some ty) (hnv : narrow ty v = v) (hfit : fits ty v = true) (hl : j < fs.length) (hws : ws.set q0 (a, .inr (ci, fs.set j v)) = ws2) (k : PZ y D C A p l e R s m args below meth c QF cells slots ws2 pc2 lv st) : PZ y D C A p l e R s m args below meth c QF cells slots ws pc lv (v :: .ref a :: st) := by
  intro X H locs L hP hD hS hL
  obtain ⟨hd, rfl⟩ := hd
  subst hws
  exact va_putF X.1 X.2.1 X.2.2.2.2.1 hu ty0 hty hnm X.2.2.2.1 X.2.2.2.2.2.2.2.1 hP hD hS q0 he hcl j hj (X.2.2.2.2.1 _ hlk) (fun _ h9 => h9) hfin hin hdecl hp hnv hfit hl hd (fun H1 locs1 hP1 hD1 hS1 => k X H1 locs1 L hP1 hD1 hS1 hL)
theorem cz_put {idx ci N : Nat} {T : u_T} {fs : List Value} {a : Nat} {v : Value} {ty : FieldType} (ty0 : Nat → FieldType) (hd : Dn y pc (.putfield idx) 3 pc2) (hu : ∀ w ∈ u_ws y.1.cls T N, w ∈ gtbl) (hty : ∀ k, k < N → parseFieldDescriptor (T k).2.2.1 = some (ty0 k)) (hnm : ∀ a, a < N → ∀ b, b < N → a ≠ b → (T a).2.1 ≠ (T b).2.1) (q0 : Nat) (he : ws[q0]? = some (a, .inr (ci, fs))) (hcl : vwCl[ci]? = some (y.1.cls, T, N)) (j : Nat) (hj : j < N) (hlk : Cond.fieldLink y.1.cls idx (T j).1 (T j).2.1 (T j).2.2.1 ∈ gtbl) (hfin : (T j).2.2.2 = false) (hp : parseFieldDescriptor (T j).2.2.1 = some ty) (hnv : narrow ty v = v) (hfit : fits ty v = true) (hl : j < fs.length) (hws : ws.set q0 (a, .inr (ci, fs.set j v)) = ws2) (k : PZ y D C A p l e R s m args below meth c QF cells slots ws2 pc2 lv st) : PZ y D C A p l e R s m args below meth c QF cells slots ws pc lv (v :: .ref a :: st) := by
  intro X H locs L hP hD hS hL
  obtain ⟨hd, rfl⟩ := hd
  subst hws
  exact va_put X.1 X.2.1 X.2.2.2.2.1 hu ty0 hty hnm X.2.2.2.1 X.2.2.2.2.2.2.2.1 hP hD hS q0 he hcl j hj (X.2.2.2.2.1 _ hlk) (fun _ h9 => h9) hfin hp hnv hfit hl hd (fun H1 locs1 hP1 hD1 hS1 => k X H1 locs1 L hP1 hD1 hS1 hL)
theorem cz_get {idx ci N : Nat} {T : u_T} {fs : List Value} {a : Nat} {v : Value} (hd : Dn y pc (.getfield idx) 3 pc2) (hu : ∀ w ∈ u_ws y.1.cls T N, w ∈ gtbl) (q0 : Nat) (he : ws[q0]? = some (a, .inr (ci, fs))) (hcl : vwCl[ci]? = some (y.1.cls, T, N)) (j : Nat) (hj : j < N) (hlk : Cond.fieldLink y.1.cls idx (T j).1 (T j).2.1 (T j).2.2.1 ∈ gtbl) (hv : fs[j]? = some v) (k : PZ y D C A p l e R s m args below meth c QF cells slots ws pc2 lv (v :: st)) : PZ y D C A p l e R s m args below meth c QF cells slots ws pc lv (.ref a :: st) := by
  intro X H locs L hP hD hS hL
  obtain ⟨hd, rfl⟩ := hd
  exact va_get X.1 X.2.1 X.2.2.2.2.1 hu X.2.2.2.1 X.2.2.2.2.2.2.2.1 hP q0 he hcl j hj (X.2.2.2.2.1 _ hlk) (fun _ h9 => h9) hv hd (k X H locs L hP hD hS hL)
theorem cz_iast {a n : Nat} {f : Nat → Int32} {i x : Int32} (hd : Dn y pc .iastore 1 pc2) (q0 : Nat) (he : ws[q0]? = some (a, .inl (C.1, n, .inl f))) (hin : vp_in i n) (hws : ws.set q0 (a, .inl (C.1, n, .inl (upd f i.toNatClampNeg x))) = ws2) (k : PZ y D C A p l e R s m args below meth c QF cells slots ws2 pc2 lv st) : PZ y D C A p l e R s m args below meth c QF cells slots ws pc lv (.int x :: .int i :: .ref a :: st) := by
  intro X H locs L hP hD hS hL
  obtain ⟨hd, rfl⟩ := hd
  subst hws
  exact va_iast X.1 X.2.1 X.2.2.2.2.2.2.2.1 hP hD hS q0 0 he rfl hin hd (fun H1 locs1 hP1 hD1 hS1 => k X H1 locs1 L hP1 hD1 hS1 hL)
theorem cz_aast {a n x ci : Nat} {vs : List Value} {f : Nat → Option Nat} {i : Int32} (hd : Dn y pc .aastore 1 pc2) (q0 qk : Nat) (he : ws[q0]? = some (a, .inl (C.2.2, n, .inr (.inr (.inr (.inr f)))))) (hv : ws[qk]? = some (x, .inr (1, vs))) (hin : vp_in i n) (hws : ws.set q0 (a, .inl (C.2.2, n, .inr (.inr (.inr (.inr (va_up f i.toNatClampNeg (some x))))))) = ws2) (k : PZ y D C A p l e R s m args below meth c QF cells slots ws2 pc2 lv st) : PZ y D C A p l e R s m args below meth c QF cells slots ws pc lv (.ref x :: .int i :: .ref a :: st) := by
  intro X H locs L hP hD hS hL
  obtain ⟨hd, rfl⟩ := hd
  subst hws
  exact va_astq (r := (RX1, TX1, 3)) X.1 X.2.1 X.2.2.2.2.2.2.2.1 hP hD hS q0 2 qk 1 he rfl hv rfl hin hd (fun H1 locs1 hP1 hD1 hS1 => k X H1 locs1 L hP1 hD1 hS1 hL)
theorem cz_alen {a n : Nat} {f : Nat → Int32} {v : Int32} (hd : Dn y pc .arraylength 1 pc2) (q0 : Nat) (he : ws[q0]? = some (a, .inl (C.1, n, .inl f))) (hv : Int32.ofNat n = v) (k : PZ y D C A p l e R s m args below meth c QF cells slots ws pc2 lv (.int v :: st)) : PZ y D C A p l e R s m args below meth c QF cells slots ws pc lv (.ref a :: st) := by
  intro X H locs L hP hD hS hL
  obtain ⟨hd, rfl⟩ := hd
  exact va_alen X.1 X.2.1 X.2.2.2.2.2.2.2.1 hP q0 0 he rfl hv hd (k X H locs L hP hD hS hL)
theorem cz_ws (h : ws = ws2) (k : PZ y D C A p l e R s m args below meth c QF cells slots ws2 pc lv st) : PZ y D C A p l e R s m args below meth c QF cells slots ws pc lv st := by
  rw [h]; exact k
theorem cz_lv (is : List Nat) (h : lv_pick lv is = lv2) (k : PZ y D C A p l e R s m args below meth c QF cells slots ws pc lv2 st) : PZ y D C A p l e R s m args below meth c QF cells slots ws pc lv st :=
  fun X H locs L hP hD hS hL => k X H locs L hP hD hS (lv_sub hL is h)
end CZ

/-! ===== calls and contracts of the pure machine ===== -/
def LkV (own : String) (idx : Nat) (z : MD) (n : Nat) : Prop :=
  Cond.methodLink own idx z.1 ∈ gtbl ∧ Cond.instanceMethod z.1 ∈ gtbl ∧ Cond.selects z.1.cls z.1 z.1 ∈ gtbl ∧ Cond.initialized z.1.cls ∈ gtbl ∧ Cond.code z.1 z.2.1 z.2.2.1 z.2.2.2.1 ∈ gtbl
  ∧ (z.1.cls ≠ "java/lang/invoke/MethodHandle" ∧ z.1.cls ≠ "java/lang/invoke/VarHandle" ∧ (parseMethodDescriptor z.1.desc).map (fun d => d.parameters.length) = some n)
def LkS (own : String) (idx : Nat) (z : MD) (n : Nat) : Prop :=
  Cond.methodLink own idx z.1 ∈ gtbl ∧ Cond.static z.1 ∈ gtbl ∧ Cond.initialized z.1.cls ∈ gtbl ∧ Cond.code z.1 z.2.1 z.2.2.1 z.2.2.2.1 ∈ gtbl
  ∧ (z.1.cls ≠ "java/lang/invoke/MethodHandle" ∧ z.1.cls ≠ "java/lang/invoke/VarHandle" ∧ (parseMethodDescriptor z.1.desc).map (fun d => d.parameters.length) = some n)
theorem good_tbl : GoodIn gtbl gtbl := fun w hw => ⟨hw, good_of_word (List.mem_filter.mp hw).2⟩
theorem good_in {w : Cond} (h : w ∈ gtbl) : w ∈ gtbl ∧ ((w.onTables && w.keeps) = true ∨ ∃ ty, w = .arrayClass ty) := good_tbl w h
theorem good_D {z : MD} (h : Cond.code z.1 z.2.1 z.2.2.1 z.2.2.2.1 ∈ gtbl) : GoodIn gtbl (wsD z) := fun w hw => by
  rcases List.mem_cons.mp hw with h1 | h1
  · rw [h1]; exact good_in h
  · exact good_in h1
theorem cat_tr (ad : Nat → Nat) (v : PV) : (tr ad v).category = if isJ (some v) then 2 else 1 := by
  rcases v with x | x | x <;> rfl
def catS : List PV → Nat
  | [] => 0
  | v :: r => (if isJ (some v) then 2 else 1) + catS r
theorem catS_tr (ad : Nat → Nat) (st : List PV) : ((st.map (tr ad)).map fun v => v.category).sum = catS st := by
  induction st with
  | nil => rfl
  | cons v r ih =>
    simp only [List.map_cons, List.sum_cons, ih, catS, cat_tr]
theorem blindW {S : Sx} {g : Gx} {mem : Zm} {av : List Value} : FrameBlind (va_Pc av (fun U => Wm g mem U.heap ∧ Wk S g U U.heap)) := by
  intro a U f mk h
  obtain ⟨h1, h2, h3⟩ := h
  exact ⟨h1, h2, Wk.moved (u := U) (U := U.calling f mk a) (Vm.Alike.refl U.vm) (fun h => va_Nw.same rfl rfl h) h3⟩
section PC
variable {S : Sx} {y : MD} {Q : Option PV → Zm → Prop} {pc pc2 tgt : Nat} {ls ls2 : List (Option PV)} {st stk : List PV} {mem mem1 : Zm}
theorem Wk.to {g : Gx} {s t : State} {H : Heap} {locs : List Loc} (h : Wk S g s s.heap) (hS : va_S (gA g) s.heap H locs) (ht : t.heap = H) (hvm : s.WarmedH t.vm) : Wk S g t t.heap := by
  rw [ht]
  exact Wk.moved hvm.alike (fun h => va_Nw.warmF hvm h) (Wk.kept h (fun a h1 h2 => hS.2.1 a h1 h2))
/-- behind a call -/
theorem pw_after {g : Gx} {p : Program} {l : Launch} {e : Env} {R : Room} {s : State} {m : MethodId} {args : Array Value} {below : List Frame} {meth : Method} {c : Code} {cells slots : Nat} {QF : State → Prop} {H : Heap} {locs : List Loc} {L : Array Slot} {a : Array Value} {Qz : Option PV → Zm → Prop} {st0 : List Value}
    (hX : Cx S y g p R s m args c cells slots) (rt : Rt y Q g p l e R s m args below meth c cells slots QF) (hS : va_S (gA g) s.heap H locs) (hs : okS st) (hls : okL ls) (hv : lvR g.1 y.2.2.1 L ls)
    (hr : va_Run p l e R s m args below meth c H locs cells slots 0 0 (F0 m pc L st0) (st.map (tr g.1)) (QcW S g Qz a) (gA g))
    (k : ∀ (r : Option PV) (mem1 : Zm), Qz r mem1 → PW S y Q (pc + 3) ls (r.toList ++ st) mem1) : W p l e R s m args below meth c H locs cells slots QF (F0 m pc L st0) := by
  intro T hT X
  obtain ⟨v, st₀, t, T2, L2, h0, X2, hL, e1, e2, ⟨⟨r, mem1, hv1, hq, ho, hm, hw, hk⟩, hz, hkp⟩, stp⟩ := hr T hT X
  have hv2 : v = r.map (tr g.1) := by cases hv1; rfl
  rw [h0] at hz hkp
  have hok : okS (r.toList ++ st) := by
    cases r with
    | none => exact hs
    | some r => exact ⟨ho, hs⟩
  obtain ⟨t2, a1, b1⟩ := k r mem1 hq g p l e R s m args below meth c cells slots QF hX rt T2.heap (locs ++ L2) L (by rw [e1]; exact hw)
    ⟨Nat.le_trans hS.1 (by rw [e1]; exact hz), fun q h1 h2 => by rw [e1, hkp q (Nat.lt_of_lt_of_le h1 hS.1) h2]; exact hS.2.1 q h1 h2, fun q hq => by
      rcases List.mem_append.mp hq with h | h
      · exact hS.2.2 q h
      · exact hL q h⟩ hm hok hls hv T2 rfl X2
  refine ⟨t2, stp t2 ?_, b1⟩
  have e3 : v.toList ++ List.map (tr g.1) st = List.map (tr g.1) (r.toList ++ st) := by
    rw [hv2]
    cases r <;> rfl
  rw [e3]
  exact a1
theorem pw_callV {z : MD} {idx n o ci : Nat} {av : List PV} {q : vw_C} {Qz : Option PV → Zm → Prop} (hd : Dn y pc (.invokevirtual idx) 3 pc2) (hk : LkV y.1.cls idx z n) (hn : av.length = n) (hfr : z.2.2.2.2.1 + 1 ≤ y.2.2.2.2.1) (hlo : 8 + (z.2.2.1 + 11) + z.2.2.2.2.2 ≤ y.2.2.2.2.2)
    (ho : shp o = (0, ci)) (hq : vwCl[ci]? = some q) (hC : q.1 = z.1.cls) (hc8 : catS st ≤ 8) (hst : stk = av.reverse ++ Aq o :: st) (hc : Ct S z (Aq o :: av) mem Qz) (k : ∀ (r : Option PV) (mem1 : Zm), Qz r mem1 → PW S y Q pc2 ls (r.toList ++ st) mem1) : PW S y Q pc ls stk mem := by
  intro g p l e R s m args below meth c cells slots QF X rt H locs L w hS hM hs hls hv
  obtain ⟨hd, rfl⟩ := hd
  subst hst
  obtain ⟨k1, k2, k3, k4, k5, k6⟩ := hk
  have hsp : okS (Aq o :: av) ∧ okS st := by
    have : ∀ a : List PV, okS (a ++ Aq o :: st) → (∀ v ∈ a, okV v) ∧ okS st := by
      intro a
      induction a with
      | nil => intro h; exact ⟨fun v hv => (by cases hv), h.2⟩
      | cons x a ih =>
        intro h
        obtain ⟨h1, h2⟩ := ih h.2
        exact ⟨fun v hv => by
          rcases List.mem_cons.mp hv with h3 | h3
          · rw [h3]; exact h.1
          · exact h1 v h3, h2⟩
    obtain ⟨h1, h2⟩ := this _ hs
    refine ⟨⟨trivial, ?_⟩, h2⟩
    have h3 : ∀ v ∈ av, okV v := fun v hv => h1 v (List.mem_reverse.mpr hv)
    clear h1 hs hn hc
    induction av with
    | nil => exact trivial
    | cons x a ih => exact ⟨h3 x List.mem_cons_self, ih (fun v hv => h3 v (List.mem_cons_of_mem _ hv))⟩
  have hMet := hc g l hsp.1 hM
  have hcw : CallW R s args y.1.cls z.1.cls idx z.1 z.2.1 z.2.2.1 z.2.2.2.1 (wsD z) (rmD z) 0 0 n := by
    refine cwV n X.2.2.2.2.1 (fun w hw => ?_) rfl rfl rfl ⟨rfl, k6⟩ ⟨by rw [X.2.2.2.2.2.1]; exact hfr, by rw [X.2.2.2.2.2.2.1]; exact hlo⟩
    unfold wsV at hw
    rcases List.mem_append.mp hw with h | h
    · simp only [List.mem_cons, List.not_mem_nil, or_false] at h
      rcases h with h | h | h | h <;> rw [h]
      · exact good_in k1
      · exact good_in k2
      · exact good_in k3
      · exact good_in k4
    · exact good_D k5 w h
  have hrec := va_recv (tys := tysW g) X.2.2.2.2.2.2.2.2.2.1 w.1 hq (ws_obj ho)
  rw [hC] at hrec
  refine pw_after (a := (Value.ref (g.1 o) :: av.map (tr g.1)).toArray) X rt hS hsp.2 hls hv (va_runV (C := z.1.cls) (b := g.1 o) (As := av.map (tr g.1)) (rest := st.map (tr g.1)) ⟨X.1, X.2.1, X.2.2.1, X.2.2.2.1, X.2.2.2.2.1⟩ hMet hcw ⟨blindW, hrec, fun U hU hW => ⟨rfl, by rw [hU]; exact w, Wk.to X.2.2.2.2.2.2.2.2.2 hS hU hW⟩⟩ rfl (by rw [List.length_map]; exact hn) hv.1 ?_ ?_ hd ⟨X.2.2.2.2.2.2.2.1, X.2.2.2.2.2.2.2.2.1⟩) k
  · show List.map (tr g.1) (av.reverse ++ Aq o :: st) = (av.map (tr g.1)).reverse ++ .ref (g.1 o) :: st.map (tr g.1)
    rw [List.map_append, List.map_reverse]
    rfl
  · exact lv_room (by rw [catS_tr]; exact hc8)
theorem pw_callS {z : MD} {idx n : Nat} {av : List PV} {Qz : Option PV → Zm → Prop} (hd : Dn y pc (.invokestatic idx) 3 pc2) (hk : LkS y.1.cls idx z n) (hn : av.length = n) (hfr : z.2.2.2.2.1 + 1 ≤ y.2.2.2.2.1) (hlo : 8 + (z.2.2.1 + 11) + z.2.2.2.2.2 ≤ y.2.2.2.2.2)
    (hc8 : catS st ≤ 8) (hst : stk = av.reverse ++ st) (hc : Ct S z av mem Qz) (k : ∀ (r : Option PV) (mem1 : Zm), Qz r mem1 → PW S y Q pc2 ls (r.toList ++ st) mem1) : PW S y Q pc ls stk mem := by
  intro g p l e R s m args below meth c cells slots QF X rt H locs L w hS hM hs hls hv
  obtain ⟨hd, rfl⟩ := hd
  subst hst
  obtain ⟨k1, k2, k4, k5, k6⟩ := hk
  have hsp : okS av ∧ okS st := by
    have : ∀ a : List PV, okS (a ++ st) → (∀ v ∈ a, okV v) ∧ okS st := by
      intro a
      induction a with
      | nil => intro h; exact ⟨fun v hv => (by cases hv), h⟩
      | cons x a ih =>
        intro h
        obtain ⟨h1, h2⟩ := ih h.2
        exact ⟨fun v hv => by
          rcases List.mem_cons.mp hv with h3 | h3
          · rw [h3]; exact h.1
          · exact h1 v h3, h2⟩
    obtain ⟨h1, h2⟩ := this _ hs
    refine ⟨?_, h2⟩
    have h3 : ∀ v ∈ av, okV v := fun v hv => h1 v (List.mem_reverse.mpr hv)
    clear h1 hs hn hc
    induction av with
    | nil => exact trivial
    | cons x a ih => exact ⟨h3 x List.mem_cons_self, ih (fun v hv => h3 v (List.mem_cons_of_mem _ hv))⟩
  have hMet := hc g l hsp.1 hM
  have hcw : CallB R s args y.1.cls idx z.1 z.2.1 z.2.2.1 z.2.2.2.1 (wsD z) (rmD z) 0 0 n ∧ (Cond.static z.1).before args s = true := by
    refine va_cwS n X.2.2.2.2.1 (fun w hw => ?_) rfl rfl rfl k6 ⟨by rw [X.2.2.2.2.2.1]; exact hfr, by rw [X.2.2.2.2.2.2.1]; exact hlo⟩
    unfold va_wsS at hw
    rcases List.mem_append.mp hw with h | h
    · simp only [List.mem_cons, List.not_mem_nil, or_false] at h
      rcases h with h | h | h <;> rw [h]
      · exact good_in k1
      · exact good_in k2
      · exact good_in k4
    · exact good_D k5 w h
  refine pw_after (a := (av.map (tr g.1)).toArray) X rt hS hsp.2 hls hv (va_runS (As := av.map (tr g.1)) (rest := st.map (tr g.1)) ⟨X.1, X.2.1, X.2.2.1, X.2.2.2.1, X.2.2.2.2.1⟩ hMet hcw ⟨blindW, fun U hU hW => ⟨rfl, by rw [hU]; exact w, Wk.to X.2.2.2.2.2.2.2.2.2 hS hU hW⟩⟩ rfl (by rw [List.length_map]; exact hn) hv.1 ?_ ?_ hd ⟨X.2.2.2.2.2.2.2.1, X.2.2.2.2.2.2.2.2.1⟩) k
  · show List.map (tr g.1) (av.reverse ++ st) = (av.map (tr g.1)).reverse ++ st.map (tr g.1)
    rw [List.map_append, List.map_reverse]
  · exact lv_room (by rw [catS_tr]; exact hc8)
/-! a contract out of a walk -/
def retF : Option FieldType → Option PV → Prop
  | none, none => True
  | some .int, some (.inl _) => True
  | some .boolean, some (.inl v) => v = 0 ∨ v = 1
  | some .long, some (.inr (.inl _)) => True
  | _, _ => False
def retK (y : MD) (r : Option PV) : Prop := retF y.2.2.2.1 r
theorem retF_cases {q : Option FieldType} {r : Option PV} (h : retF q r) : (q = none ∧ r = none) ∨ (q = some .int ∧ ∃ x, r = some (.inl x)) ∨ (q = some .boolean ∧ ∃ x, r = some (.inl x) ∧ (x = 0 ∨ x = 1)) ∨ (q = some .long ∧ ∃ x, r = some (.inr (.inl x))) := by
  unfold retF at h
  split at h
  · exact Or.inl ⟨rfl, rfl⟩
  · exact Or.inr (Or.inl ⟨rfl, _, rfl⟩)
  · exact Or.inr (Or.inr (Or.inl ⟨rfl, _, rfl, h⟩))
  · exact Or.inr (Or.inr (Or.inr ⟨rfl, _, rfl⟩))
  · exact h.elim
theorem lget_linit {ad : Nat → Nat} : ∀ (n : Nat) (av : List PV) (b i : Nat) (v : PV), lget (linit n av) i = some v → (b + i, tr ad v) ∈ lv_args b (av.map (tr ad)) := by
  intro n
  induction n using Nat.strongRecOn with
  | ind n ih =>
    intro av b i v h
    match n, av, h with
    | 0, _, h => cases h
    | n + 1, [], h =>
      cases i with
      | zero => cases h
      | succ i =>
        have := ih n (Nat.lt_succ_self n) [] b i v h
        simp [lv_args] at this
    | n + 1, .inl x :: r, h =>
      cases i with
      | zero =>
        cases h
        show _ ∈ lv_args b (Value.int _ :: _)
        simp [lv_args, tr]
      | succ i =>
        have := ih n (Nat.lt_succ_self n) r (b + 1) i v h
        show _ ∈ lv_args b (Value.int _ :: _)
        have e : b + (i + 1) = b + 1 + i := by omega
        rw [e]
        simp only [lv_args]
        exact List.mem_cons_of_mem _ this
    | 1, .inr (.inl x) :: r, h =>
      cases i with
      | zero =>
        cases h
        show _ ∈ lv_args b (Value.long _ :: _)
        simp [lv_args, tr]
      | succ i => cases h
    | n + 2, .inr (.inl x) :: r, h =>
      match i, h with
      | 0, h =>
        cases h
        show _ ∈ lv_args b (Value.long _ :: _)
        simp [lv_args, tr]
      | 1, h => cases h
      | i + 2, h =>
        have := ih n (by omega) r (b + 2) i v h
        show _ ∈ lv_args b (Value.long _ :: _)
        have e : b + (i + 2) = b + 2 + i := by omega
        rw [e]
        simp only [lv_args]
        exact List.mem_cons_of_mem _ this
    | n + 1, .inr (.inr x) :: r, h =>
      cases i with
      | zero =>
        cases h
        show _ ∈ lv_args b (Value.ref _ :: _)
        simp [lv_args, tr]
      | succ i =>
        have := ih n (Nat.lt_succ_self n) r (b + 1) i v h
        show _ ∈ lv_args b (Value.ref _ :: _)
        have e : b + (i + 1) = b + 1 + i := by omega
        rw [e]
        simp only [lv_args]
        exact List.mem_cons_of_mem _ this
theorem okL_linit : ∀ (n : Nat) (av : List PV), okS av → okL (linit n av) := by
  intro n
  induction n using Nat.strongRecOn with
  | ind n ih =>
    intro av h
    match n, av, h with
    | 0, _, h => exact trivial
    | n + 1, [], h => exact ⟨trivial, ih n (Nat.lt_succ_self n) [] trivial⟩
    | n + 1, .inl x :: r, h => exact ⟨h.1, ih n (Nat.lt_succ_self n) r h.2⟩
    | 1, .inr (.inl x) :: r, h => exact ⟨h.1, trivial⟩
    | n + 2, .inr (.inl x) :: r, h => exact ⟨h.1, trivial, ih n (by omega) r h.2⟩
    | n + 1, .inr (.inr x) :: r, h => exact ⟨trivial, ih n (Nat.lt_succ_self n) r h.2⟩
theorem sl_len (ad : Nat → Nat) (av : List PV) : (lg_sl (av.map (tr ad))).length = catS av := by
  induction av with
  | nil => rfl
  | cons v r ih =>
    unfold lg_sl at ih ⊢
    rw [List.map_cons, List.flatMap_cons, List.length_append, ih]
    rcases v with x | x | x <;> rfl
theorem Ct.ofP {av : List PV} (hp : plainName y.1.cls = true) (hc : catS av ≤ y.2.2.1) (hret : ∀ r m, Q r m → retK y r) (h : PW S y Q 0 (linit y.2.2.1 av) [] mem) : Ct S y av mem Q := by
  intro g l hav hM
  refine Met.ofW (cc := y.2.1) (maxL := y.2.2.1) (ret := y.2.2.2.1) hp rfl ?_
  intro p e s m args below meth c s₁ B hml hv
  obtain ⟨rfl, hW, hK⟩ := hv
  have hx := B.exec
  have hb := B.bytes
  have hr := B.returns
  have hts := atoms_spec (ws := wsD y) B.pre
  have hown : s.vm.findClass y.1.cls = some m.cls := findClass_of_methodNamed B.named
  have hlocks := B.notSynchronized
  have hl := lv_entry (av.map (tr g.1)) (n := y.2.2.1) (by rw [sl_len]; exact hc)
  rw [lg_entry_eq]
  have hlv : lvR g.1 y.2.2.1 ((lg_sl (av.map (tr g.1)) ++ List.replicate (y.2.2.1 - (lg_sl (av.map (tr g.1))).length) Slot.unset).toArray) (linit y.2.2.1 av) := by
    refine ⟨hl.1, hl.2.1, fun i v hi => ?_⟩
    have := hl.2.2 _ (lget_linit (ad := g.1) _ av 0 i v hi)
    rw [Nat.zero_add] at this
    exact this
  refine h g p l e _ s m _ below meth c 0 0 _ ⟨hx, hb, hml, hown, fun w hw => hts w (List.mem_cons_of_mem _ hw), rfl, rfl, Nat.zero_le _, Nat.zero_le _, hK⟩ ?_ s.heap [] _ hW va_S.rf hM trivial (okL_linit _ _ hav) hlv
  intro r mem2 H locs L pc hQ hWm hS hM2 ho hri
  have hrk := hret r mem2 hQ
  have post : ∀ t : State, t.heap = H → s.WarmedH t.vm → QcW S g Q (av.map (tr g.1)).toArray s (.returned (r.map (tr g.1))) t := fun t ht hwm =>
    ⟨⟨r, mem2, rfl, hQ, ho, hM2, by rw [ht]; exact hWm, Wk.to hK hS ht hwm⟩, hS.F ht⟩
  rcases retF_cases hrk with ⟨q1, rfl⟩ | ⟨q1, x, rfl⟩ | ⟨q1, x, rfl, q2⟩ | ⟨q1, x, rfl⟩
  · exact W.vret hx hb (hr.trans q1) post hS.2.2 hri
  · exact W.iret hx hb (hr.trans q1) post hS.2.2 hri
  · refine W.zret hx hb (hr.trans q1) ?_ post hS.2.2 hri
    rcases q2 with rfl | rfl <;> rfl
  · exact W.lret hx hb (hr.trans q1) post hS.2.2 hri
end PC

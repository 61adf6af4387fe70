/-! ===== the pure machine: ints and longs as integers, objects by number, one memory; PW is the machine's W, said of these alone ===== -/
abbrev PV : Type := Int ⊕ (Int ⊕ Nat)
abbrev Iq (x : Int) : PV := .inl x
abbrev Jq (x : Int) : PV := .inr (.inl x)
abbrev Aq (o : Nat) : PV := .inr (.inr o)
abbrev Zm : Type := Nat → Nat → Int
def mup (mem : Zm) (o k : Nat) (v : Int) : Zm := fun o2 k2 => if o2 = o ∧ k2 = k then v else mem o2 k2
abbrev in32 (x : Int) : Prop := -2147483648 ≤ x ∧ x ≤ 2147483647
abbrev in64 (x : Int) : Prop := -9223372036854775808 ≤ x ∧ x ≤ 9223372036854775807
def tr (ad : Nat → Nat) : PV → Value
  | .inl x => .int (Int32.ofInt x)
  | .inr (.inl x) => .long (Int64.ofInt x)
  | .inr (.inr o) => .ref (ad o)
def okV : PV → Prop
  | .inl x => in32 x
  | .inr (.inl x) => in64 x
  | .inr (.inr _) => True
def okS : List PV → Prop
  | [] => True
  | v :: r => okV v ∧ okS r
def okO : Option PV → Prop
  | none => True
  | some v => okV v
def okL : List (Option PV) → Prop
  | [] => True
  | v :: r => okO v ∧ okL r
def okM (mem : Zm) : Prop := ∀ o k : Nat, (o = 22 ∧ k = 5 → in64 (mem o k)) ∧ (¬ (o = 22 ∧ k = 5) → in32 (mem o k))
/-- 0: an object of a class; 1: ints; 2: bytes; 3: sheets -/
def shpL : List (Nat × Nat) := [(0, 3), (0, 0), (1, 8), (1, 48), (1, 64), (1, 10), (1, 8), (1, 8), (0, 0), (1, 8), (1, 48), (1, 64), (1, 10), (1, 8), (1, 8), (0, 0), (1, 8), (1, 48), (1, 64), (1, 10), (1, 8), (1, 8), (0, 2), (2, 120), (3, 4), (0, 1), (1, 40), (0, 1), (1, 40), (0, 1), (1, 40), (0, 1), (1, 40), (1, 7), (0, 4), (1, 134), (1, 134), (1, 134), (1, 134), (1, 8), (1, 120), (1, 4), (1, 4), (1, 160)]
def shp (o : Nat) : Nat × Nat := shpL.getD o (9, 0)
def wobj (ad : Nat → Nat) (o ci : Nat) (f : Nat → Int) : List Value := match ci with
  | 0 => [.ref (ad (o + 1)), .ref (ad (o + 2)), .ref (ad (o + 3)), .ref (ad (o + 4)), .ref (ad (o + 5)), .ref (ad (o + 6)), .int (Int32.ofInt (f 6)), .int (Int32.ofInt (f 7)), .int (Int32.ofInt (f 8)), .int (Int32.ofInt (f 9))]
  | 1 => [.ref (ad (o + 1)), .int (Int32.ofInt (f 1)), .int (Int32.ofInt (f 2))]
  | 2 => [.ref (ad 23), .int (Int32.ofInt (f 1)), .int (Int32.ofInt (f 2)), .int (Int32.ofInt (f 3)), .int (Int32.ofInt (f 4)), .long (Int64.ofInt (f 5)), .int (Int32.ofInt (f 6))]
  | 3 => [.ref (ad 1), .ref (ad 8), .ref (ad 15), .int (Int32.ofInt (f 3)), .ref (ad 22), .ref (ad 24), .ref (ad 33)]
  | _ => [.ref (ad 35), .ref (ad 36), .ref (ad 37), .ref (ad 38), .int (Int32.ofInt (f 4)), .ref (ad 39), .ref (ad 40), .int (Int32.ofInt (f 7)), .ref (ad 41), .ref (ad 42), .ref (ad 43), .int (Int32.ofInt (f 11)), .int (Int32.ofInt (f 12)), .int (Int32.ofInt (f 13)), .int (Int32.ofInt (f 14)), .int (Int32.ofInt (f 15)), .int (Int32.ofInt (f 16)), .int (Int32.ofInt (f 17))]
/-- addresses; classes and their slots; the classes of int[], byte[], Sheet[]; what may be written -/
abbrev Gx : Type := (Nat → Nat) × va_G × ClassId × ClassId × ClassId × (Nat → Prop)
abbrev gA (g : Gx) : Nat → Prop := g.2.2.2.2.2
abbrev Sx : Type := Nat × (Nat → Int32)
def wcell (g : Gx) (o : Nat) (f : Nat → Int) : va_E := match shp o with
  | (0, ci) => .inr (ci, wobj g.1 o ci f)
  | (1, n) => .inl (g.2.2.1, n, .inl (fun j => Int32.ofInt (f j)))
  | (2, n) => .inl (g.2.2.2.1, n, .inl (fun j => Int32.ofInt (f j)))
  | (_, n) => .inl (g.2.2.2.2.1, n, .inr (.inr (.inr (.inr (fun j => some (g.1 (25 + 2 * j)))))))
def wsW (g : Gx) (mem : Zm) : va_W := (List.range 44).map (fun o => (g.1 o, wcell g o (mem o)))
def tysW (g : Gx) : List (ClassId × FieldType) := [(g.2.2.1, .int), (g.2.2.2.1, .byte), (g.2.2.2.2.1, .object RX1)]
def tbP (j : Nat) : Int := [1, 1, 2, 2, 2, 0, 0].getD j 0
def tbU (j : Nat) : Int := [-1, 0, 0, 2, 3, 0, 1].getD j 0
def tbK (j : Nat) : Int := [0x6368696C64, 0x736C79, 0x736C6F707079, 0x736576656E, 0x6C617A79, 0x686F6E657374, 0x73656C6C6572].getD j 0
def Wk (S : Sx) (g : Gx) (U : State) (H : Heap) : Prop :=
  va_K g.2.1 vwCl (tysW g) U ∧ va_Z RX3 "PRICES" "[I" (.ref (g.1 100)) (gA g) U H ∧ va_T .int (g.1 100) 7 (fun j => .int (Int32.ofInt (tbP j))) (gA g) U H
  ∧ va_Z RX3 "UNDER" "[I" (.ref (g.1 101)) (gA g) U H ∧ va_T .int (g.1 101) 7 (fun j => .int (Int32.ofInt (tbU j))) (gA g) U H
  ∧ va_Z RX2 "KIND_WORDS" "[J" (.ref (g.1 102)) (gA g) U H ∧ va_T .long (g.1 102) 7 (fun j => .long (Int64.ofInt (tbK j))) (gA g) U H
  ∧ va_X (g.1 103) S.1 S.2 U H ∧ ¬ gA g (g.1 103) ∧ S.1 < 2147483648 ∧ va_Nw nlP U
def Wm (g : Gx) (mem : Zm) (H : Heap) : Prop := va_P g.2.1 vwCl (wsW g mem) H ∧ va_D (gA g) (wsW g mem)
theorem Wk.moved {S : Sx} {g : Gx} {u U : State} {H : Heap} (hvm : u.vm.Alike U.vm) (hN : va_Nw nlP u → va_Nw nlP U) (h : Wk S g u H) : Wk S g U H := by
  obtain ⟨h1, h2, h3, h4, h5, h6, h7, h8, h9, h10, h11⟩ := h
  exact ⟨va_K.moved hvm h1, va_Z.moved hvm h2, va_T.moved hvm h3, va_Z.moved hvm h4, va_T.moved hvm h5, va_Z.moved hvm h6, va_T.moved hvm h7, va_X.moved hvm h8, h9, h10, hN h11⟩
theorem va_X.lt {b L : Nat} {xs : Nat → Int32} {U : State} {H : Heap} (h : va_X b L xs U H) : b < H.size := by
  obtain ⟨scr, h1, -⟩ := h
  exact (Array.getElem?_eq_some_iff.mp h1).1
theorem Wk.kept {S : Sx} {g : Gx} {U : State} {H H1 : Heap} (h : Wk S g U H) (hq : ∀ a : Nat, a < H.size → ¬ gA g a → H1[a]? = H[a]?) : Wk S g U H1 := by
  obtain ⟨h1, h2, h3, h4, h5, h6, h7, h8, h9, h10⟩ := h
  exact ⟨h1, va_Z.kept h2 hq, va_T.kept h3 hq, va_Z.kept h4 hq, va_T.kept h5 hq, va_Z.kept h6 hq, va_T.kept h7 hq, va_X.kept h8 (hq _ (va_X.lt h8) h9), h9, h10⟩
def lget : List (Option PV) → Nat → Option PV
  | [], _ => none
  | a :: _, 0 => a
  | _ :: r, n + 1 => lget r n
def isJ : Option PV → Bool
  | some (.inr (.inl _)) => true
  | _ => false
def lput : List (Option PV) → Nat → Option PV → List (Option PV)
  | [], _, _ => []
  | _ :: r, 0, v => v :: r
  | a :: r, n + 1, v => a :: lput r n v
/-- what is kept when a number of one word comes to a place -/
def lset : List (Option PV) → Nat → Option PV → List (Option PV)
  | [], _, _ => []
  | _ :: r, 0, v => v :: r
  | a :: r, 1, v => (if isJ a then none else a) :: lput r 0 v
  | a :: r, n + 2, v => a :: lset r (n + 1) v
def lvR (ad : Nat → Nat) (n : Nat) (L : Array Slot) (ls : List (Option PV)) : Prop := L.size = n ∧ lv_wf L ∧ ∀ (i : Nat) (v : PV), lget ls i = some v → L[i]? = some (.val (tr ad v))
def linit : Nat → List PV → List (Option PV)
  | 0, _ => []
  | n + 1, [] => none :: linit n []
  | n + 1, .inl x :: r => some (.inl x) :: linit n r
  | 1, .inr (.inl x) :: _ => [some (.inr (.inl x))]
  | n + 2, .inr (.inl x) :: r => some (.inr (.inl x)) :: none :: linit n r
  | n + 1, .inr (.inr x) :: r => some (.inr (.inr x)) :: linit n r
def wsD (y : MD) : List Cond := .code y.1 y.2.1 y.2.2.1 y.2.2.2.1 :: gtbl
def rmD (y : MD) : Room := { frames := y.2.2.2.2.1, cells := 0, slots := 0, locals := y.2.2.2.2.2 }
def Cx (S : Sx) (y : MD) (g : Gx) (p : Program) (R : Room) (s : State) (m : MethodId) (args : Array Value) (c : Code) (cells slots : Nat) : Prop :=
  p.tables.exec = Jvm.exec ∧ c.code = y.2.1 ∧ c.maxLocals = y.2.2.1 ∧ s.vm.findClass y.1.cls = some m.cls ∧ (∀ w ∈ gtbl, w.before args s = true) ∧ R.frames = y.2.2.2.2.1 ∧ R.locals = y.2.2.2.2.2 ∧ cells ≤ R.cells ∧ slots ≤ R.slots ∧ Wk S g s s.heap
def retI (y : MD) (pc : Nat) : Option PV → Prop
  | none => decode y.2.1 pc = .ok (.return_, 1)
  | some (.inl _) => decode y.2.1 pc = .ok (.ireturn, 1)
  | some (.inr (.inl _)) => decode y.2.1 pc = .ok (.lreturn, 1)
  | _ => False
def Rt (y : MD) (Q : Option PV → Zm → Prop) (g : Gx) (p : Program) (l : Launch) (e : Env) (R : Room) (s : State) (m : MethodId) (args : Array Value) (below : List Frame) (meth : Method) (c : Code) (cells slots : Nat) (QF : State → Prop) : Prop :=
  ∀ (r : Option PV) (mem : Zm) (H : Heap) (locs : List Loc) (L : Array Slot) (pc : Nat), Q r mem → Wm g mem H → va_S (gA g) s.heap H locs → okM mem → okO r → retI y pc r →
    W p l e R s m args below meth c H locs cells slots QF (F0 m pc L (r.toList.map (tr g.1)))
def PW (S : Sx) (y : MD) (Q : Option PV → Zm → Prop) (pc : Nat) (ls : List (Option PV)) (st : List PV) (mem : Zm) : Prop :=
  ∀ (g : Gx) (p : Program) (l : Launch) (e : Env) (R : Room) (s : State) (m : MethodId) (args : Array Value) (below : List Frame) (meth : Method) (c : Code) (cells slots : Nat) (QF : State → Prop),
    Cx S y g p R s m args c cells slots → Rt y Q g p l e R s m args below meth c cells slots QF →
    ∀ (H : Heap) (locs : List Loc) (L : Array Slot), Wm g mem H → va_S (gA g) s.heap H locs → okM mem → okS st → okL ls → lvR g.1 y.2.2.1 L ls →
      W p l e R s m args below meth c H locs cells slots QF (F0 m pc L (st.map (tr g.1)))
def QcW (S : Sx) (g : Gx) (Q : Option PV → Zm → Prop) : Array Value → State → Outcome → State → Prop := fun _ st0 oc t =>
  (∃ (r : Option PV) (mem : Zm), oc = .returned (r.map (tr g.1)) ∧ Q r mem ∧ okO r ∧ okM mem ∧ Wm g mem t.heap ∧ Wk S g t t.heap) ∧ va_F (gA g) st0 t
def Ct (S : Sx) (y : MD) (av : List PV) (mem : Zm) (Q : Option PV → Zm → Prop) : Prop :=
  ∀ (g : Gx) (l : Launch), okS av → okM mem → Met l y.1 (wsD y) (rmD y) (va_Pc (av.map (tr g.1)) (fun U => Wm g mem U.heap ∧ Wk S g U U.heap)) (QcW S g Q) 0 0 (gA g)
def Ct1 (S : Sx) (y : MD) (av : List PV) (mem : Zm) (v : Option PV) (mem1 : Zm) : Prop := Ct S y av mem (fun r m => r = v ∧ m = mem1)
/-! numbers -/
def wr (x : Int) : Int := (Int32.ofInt x).toInt
def bAnd (a b : Int) : Int := (Int32.ofInt a &&& Int32.ofInt b).toInt
def bOr (a b : Int) : Int := (Int32.ofInt a ||| Int32.ofInt b).toInt
def bXor (a b : Int) : Int := (Int32.ofInt a ^^^ Int32.ofInt b).toInt
def bShl (a b : Int) : Int := (Int32.ofInt a <<< (Int32.ofInt b &&& 31)).toInt
def bShr (a b : Int) : Int := (Int32.ofInt a >>> (Int32.ofInt b &&& 31)).toInt
def bUshr (a b : Int) : Int := ((Int32.ofInt a).toUInt32 >>> ((Int32.ofInt b).toUInt32 &&& Int32.toUInt32 31)).toInt32.toInt
def toB (a : Int) : Int := (Int32.ofInt a).toInt8.toInt32.toInt
def toSh (a : Int) : Int := (Int32.ofInt a).toInt16.toInt32.toInt
def lShl (a b : Int) : Int := (Int64.ofInt a <<< ((Int32.ofInt b).toInt64 &&& 63)).toInt
def lOr (a b : Int) : Int := (Int64.ofInt a ||| Int64.ofInt b).toInt
def wrL (x : Int) : Int := (Int64.ofInt x).toInt
def cmpL (a b : Int) : Int := if b < a then 1 else if a = b then 0 else -1
theorem in32_toInt (x : Int32) : in32 x.toInt := ⟨by have := Int32.le_toInt x; omega, by have := Int32.toInt_lt x; omega⟩
theorem in64_toInt (x : Int64) : in64 x.toInt := ⟨by have := Int64.le_toInt x; omega, by have := Int64.toInt_lt x; omega⟩
theorem ofI {x : Int} (h : in32 x) : (Int32.ofInt x).toInt = x := Int32.toInt_ofInt_of_le (by omega) (by omega)
theorem ofJ {x : Int} (h : in64 x) : (Int64.ofInt x).toInt = x := Int64.toInt_ofInt_of_le (by omega) (by omega)
theorem ofI_nat {x : Int} (h : in32 x) : (Int32.ofInt x).toNatClampNeg = x.toNat := Int32.toNatClampNeg_ofInt_of_le (by omega) (by omega)
theorem wr_id {x : Int} (h1 : -2147483648 ≤ x) (h2 : x ≤ 2147483647) : wr x = x := ofI ⟨h1, h2⟩
theorem wr_in (x : Int) : in32 (wr x) := in32_toInt _
theorem vpin {i : Int} {n : Nat} (h : 0 ≤ i ∧ i < n) (h2 : in32 i) : vp_in (Int32.ofInt i) n := vp_in_iff.mpr (by rw [ofI h2]; exact h)
/-! the world as a list -/
theorem wsW_get {g : Gx} {mem : Zm} {o : Nat} (ho : o < 44) : (wsW g mem)[o]? = some (g.1 o, wcell g o (mem o)) := by
  simp [wsW, List.getElem?_map, List.getElem?_range ho]
theorem wsW_set {g : Gx} {mem mem2 : Zm} {o : Nat} (ho : o < 44) (h : ∀ o2, o2 ≠ o → mem2 o2 = mem o2) : (wsW g mem).set o (g.1 o, wcell g o (mem2 o)) = wsW g mem2 := by
  apply List.ext_getElem?
  intro i
  by_cases hi : i = o
  · subst hi
    rw [List.getElem?_set_self (by simpa [wsW] using ho), wsW_get ho]
  · rw [List.getElem?_set_ne (Ne.symm hi)]
    by_cases h44 : i < 44
    · rw [wsW_get h44, wsW_get h44, h i hi]
    · rw [List.getElem?_eq_none (by simp [wsW]; omega), List.getElem?_eq_none (by simp [wsW]; omega)]
theorem shp_lt {o : Nat} {q : Nat × Nat} (h : shp o = q) (hq : q.1 ≠ 9) : o < 44 := by
  rcases Nat.lt_or_ge o 44 with h1 | h1
  · exact h1
  · exfalso
    apply hq
    rw [← h]
    unfold shp
    rw [List.getD_eq_getElem?_getD, List.getElem?_eq_none (by show 44 ≤ o; exact h1)]
    rfl
theorem okM_mup {mem : Zm} {o k : Nat} {v : Int} (h : okM mem) (hn : ¬ (o = 22 ∧ k = 5)) (hv : in32 v) : okM (mup mem o k v) := by
  intro o2 k2
  unfold mup
  refine ⟨fun q => ?_, fun q => ?_⟩
  · rw [if_neg (fun z => hn ⟨by omega, by omega⟩)]
    exact (h o2 k2).1 q
  · split
    · exact hv
    · exact (h o2 k2).2 q
theorem okM_mupJ {mem : Zm} {v : Int} (h : okM mem) (hv : in64 v) : okM (mup mem 22 5 v) := by
  intro o2 k2
  unfold mup
  refine ⟨fun q => ?_, fun q => ?_⟩
  · rw [if_pos q]
    exact hv
  · rw [if_neg q]
    exact (h o2 k2).2 q
theorem okM_i {mem : Zm} (h : okM mem) {o k : Nat} (hn : ¬ (o = 22 ∧ k = 5)) : in32 (mem o k) := (h o k).2 hn
theorem mup_other {mem : Zm} {o k : Nat} {v : Int} (o2 : Nat) (h : o2 ≠ o) : mup mem o k v o2 = mem o2 := by
  funext k2
  unfold mup
  rw [if_neg (fun q => h q.1)]
theorem mup_same {mem : Zm} {o k : Nat} {v : Int} : mup mem o k v o = fun j => if j = k then v else mem o j := by
  funext k2
  unfold mup
  by_cases h : k2 = k
  · rw [if_pos ⟨rfl, h⟩, if_pos h]
  · rw [if_neg (fun q => h q.2), if_neg h]

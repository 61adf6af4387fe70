/-! ===== rows of the pure machine ===== -/
section PR
variable {S : Sx} {y : MD} {Q : Option PV → Zm → Prop} {pc pc2 tgt : Nat} {ls ls2 : List (Option PV)} {st : List PV} {mem : Zm}
theorem pw_iconst {n : Int} (hd : Dn y pc (.iconst n) 1 pc2) (hr : in32 n) (k : PW S y Q pc2 ls (Iq n :: st) mem) : PW S y Q pc ls st mem := by
  intro g p l e R s m args below meth c cells slots QF X rt H locs L w hS hM hs hl hv
  obtain ⟨hd, rfl⟩ := hd
  exact lv_iconst X.1 X.2.1 hd rfl (k g p l e R s m args below meth c cells slots QF X rt H locs L w hS hM ⟨hr, hs⟩ hl hv)
theorem pw_bipush {n : Int} (hd : Dn y pc (.bipush n) 2 pc2) (hr : in32 n) (he : (Int8.ofInt n).toInt32 = Int32.ofInt n) (k : PW S y Q pc2 ls (Iq n :: st) mem) : PW S y Q pc ls st mem := by
  intro g p l e R s m args below meth c cells slots QF X rt H locs L w hS hM hs hl hv
  obtain ⟨hd, rfl⟩ := hd
  exact lv_bipush X.1 X.2.1 hd he (k g p l e R s m args below meth c cells slots QF X rt H locs L w hS hM ⟨hr, hs⟩ hl hv)
theorem pw_sipush {n : Int} (hd : Dn y pc (.sipush n) 3 pc2) (hr : in32 n) (he : (Int16.ofInt n).toInt32 = Int32.ofInt n) (k : PW S y Q pc2 ls (Iq n :: st) mem) : PW S y Q pc ls st mem := by
  intro g p l e R s m args below meth c cells slots QF X rt H locs L w hS hM hs hl hv
  obtain ⟨hd, rfl⟩ := hd
  exact lv_sipush X.1 X.2.1 hd he (k g p l e R s m args below meth c cells slots QF X rt H locs L w hS hM ⟨hr, hs⟩ hl hv)
theorem pw_lconst {n : Fin 2} {v : Int} (hd : Dn y pc (.lconst n) 1 pc2) (hr : in64 v) (he : Int64.ofNat (n : Nat) = Int64.ofInt v) (k : PW S y Q pc2 ls (Jq v :: st) mem) : PW S y Q pc ls st mem := by
  intro g p l e R s m args below meth c cells slots QF X rt H locs L w hS hM hs hl hv
  obtain ⟨hd, rfl⟩ := hd
  exact lv_lconst X.1 X.2.1 hd he (k g p l e R s m args below meth c cells slots QF X rt H locs L w hS hM ⟨hr, hs⟩ hl hv)
theorem pw_ldc {idx : Nat} {n : Int} (hd : Dn y pc (.ldc idx) 2 pc2) (hr : in32 n) (hc : Cond.constant y.1.cls idx (Int32.ofInt n) ∈ gtbl) (k : PW S y Q pc2 ls (Iq n :: st) mem) : PW S y Q pc ls st mem := by
  intro g p l e R s m args below meth c cells slots QF X rt H locs L w hS hM hs hl hv
  obtain ⟨hd, rfl⟩ := hd
  exact lv_ldc X.1 X.2.1 X.2.2.2.1 (X.2.2.2.2.1 _ hc) hd (k g p l e R s m args below meth c cells slots QF X rt H locs L w hS hM ⟨hr, hs⟩ hl hv)
theorem pw_ldcw {idx : Nat} {n : Int} (hd : Dn y pc (.ldc_w idx) 3 pc2) (hr : in32 n) (hc : Cond.constant y.1.cls idx (Int32.ofInt n) ∈ gtbl) (k : PW S y Q pc2 ls (Iq n :: st) mem) : PW S y Q pc ls st mem := by
  intro g p l e R s m args below meth c cells slots QF X rt H locs L w hS hM hs hl hv
  obtain ⟨hd, rfl⟩ := hd
  exact lv_ldcw X.1 X.2.1 X.2.2.2.1 (X.2.2.2.2.1 _ hc) hd (k g p l e R s m args below meth c cells slots QF X rt H locs L w hS hM ⟨hr, hs⟩ hl hv)
theorem pw_ldc2 {idx : Nat} {n : Int} (hd : Dn y pc (.ldc2_w idx) 3 pc2) (hr : in64 n) (hc : Cond.constantLong y.1.cls idx (Int64.ofInt n) ∈ gtbl) (k : PW S y Q pc2 ls (Jq n :: st) mem) : PW S y Q pc ls st mem := by
  intro g p l e R s m args below meth c cells slots QF X rt H locs L w hS hM hs hl hv
  obtain ⟨hd, rfl⟩ := hd
  exact lv_ldc2 X.1 X.2.1 X.2.2.2.1 (X.2.2.2.2.1 _ hc) hd (k g p l e R s m args below meth c cells slots QF X rt H locs L w hS hM ⟨hr, hs⟩ hl hv)
theorem okL_get {ls : List (Option PV)} (h : okL ls) : ∀ (i : Nat) (v : PV), lget ls i = some v → okV v := by
  induction ls with
  | nil => intro i v hv; cases hv
  | cons a r ih =>
    intro i v hv
    cases i with
    | zero => subst hv; exact h.1
    | succ n => exact ih h.2 n v hv
theorem pw_iload_n {n : Fin 4} {i : Nat} {x : Int} (hd : Dn y pc (.iload_n n) 1 pc2) (hi : (n : Nat) = i) (hx : lget ls i = some (Iq x)) (k : PW S y Q pc2 ls (Iq x :: st) mem) : PW S y Q pc ls st mem := by
  intro g p l e R s m args below meth c cells slots QF X rt H locs L w hS hM hs hl hv
  obtain ⟨hd, rfl⟩ := hd
  exact lv_iload_n X.1 X.2.1 hd hi (hv.2.2 i _ hx) (k g p l e R s m args below meth c cells slots QF X rt H locs L w hS hM ⟨okL_get hl i _ hx, hs⟩ hl hv)
theorem pw_iload {i : Nat} {x : Int} (hd : Dn y pc (.iload i) 2 pc2) (hx : lget ls i = some (Iq x)) (k : PW S y Q pc2 ls (Iq x :: st) mem) : PW S y Q pc ls st mem := by
  intro g p l e R s m args below meth c cells slots QF X rt H locs L w hS hM hs hl hv
  obtain ⟨hd, rfl⟩ := hd
  exact lv_iload X.1 X.2.1 hd (hv.2.2 i _ hx) (k g p l e R s m args below meth c cells slots QF X rt H locs L w hS hM ⟨okL_get hl i _ hx, hs⟩ hl hv)
theorem pw_lload_n {n : Fin 4} {i : Nat} {x : Int} (hd : Dn y pc (.lload_n n) 1 pc2) (hi : (n : Nat) = i) (hx : lget ls i = some (Jq x)) (k : PW S y Q pc2 ls (Jq x :: st) mem) : PW S y Q pc ls st mem := by
  intro g p l e R s m args below meth c cells slots QF X rt H locs L w hS hM hs hl hv
  obtain ⟨hd, rfl⟩ := hd
  exact lv_lload_n X.1 X.2.1 hd hi (hv.2.2 i _ hx) (k g p l e R s m args below meth c cells slots QF X rt H locs L w hS hM ⟨okL_get hl i _ hx, hs⟩ hl hv)
theorem pw_lload {i : Nat} {x : Int} (hd : Dn y pc (.lload i) 2 pc2) (hx : lget ls i = some (Jq x)) (k : PW S y Q pc2 ls (Jq x :: st) mem) : PW S y Q pc ls st mem := by
  intro g p l e R s m args below meth c cells slots QF X rt H locs L w hS hM hs hl hv
  obtain ⟨hd, rfl⟩ := hd
  exact lv_lload X.1 X.2.1 hd (hv.2.2 i _ hx) (k g p l e R s m args below meth c cells slots QF X rt H locs L w hS hM ⟨okL_get hl i _ hx, hs⟩ hl hv)
theorem pw_aload_n {n : Fin 4} {i o : Nat} (hd : Dn y pc (.aload_n n) 1 pc2) (hi : (n : Nat) = i) (hx : lget ls i = some (Aq o)) (k : PW S y Q pc2 ls (Aq o :: st) mem) : PW S y Q pc ls st mem := by
  intro g p l e R s m args below meth c cells slots QF X rt H locs L w hS hM hs hl hv
  obtain ⟨hd, rfl⟩ := hd
  exact lv_aload_n X.1 X.2.1 hd hi (hv.2.2 i _ hx) (k g p l e R s m args below meth c cells slots QF X rt H locs L w hS hM ⟨trivial, hs⟩ hl hv)
theorem pw_aload {i o : Nat} (hd : Dn y pc (.aload i) 2 pc2) (hx : lget ls i = some (Aq o)) (k : PW S y Q pc2 ls (Aq o :: st) mem) : PW S y Q pc ls st mem := by
  intro g p l e R s m args below meth c cells slots QF X rt H locs L w hS hM hs hl hv
  obtain ⟨hd, rfl⟩ := hd
  exact lv_aload X.1 X.2.1 hd (hv.2.2 i _ hx) (k g p l e R s m args below meth c cells slots QF X rt H locs L w hS hM ⟨trivial, hs⟩ hl hv)
/-! stores -/
def lprs (ad : Nat → Nat) (n : Nat) (ls : List (Option PV)) : List (Nat × Value) := (List.range n).filterMap (fun i => (lget ls i).map (fun v => (i, tr ad v)))
theorem lprs_mem {ad : Nat → Nat} {n : Nat} {ls : List (Option PV)} {q : Nat × Value} : q ∈ lprs ad n ls ↔ q.1 < n ∧ ∃ v, lget ls q.1 = some v ∧ q.2 = tr ad v := by
  unfold lprs
  rw [List.mem_filterMap]
  constructor
  · rintro ⟨i, hi, h⟩
    cases hv : lget ls i with
    | none => rw [hv] at h; cases h
    | some v =>
      rw [hv] at h
      cases h
      exact ⟨List.mem_range.mp hi, v, hv, rfl⟩
  · rintro ⟨h1, v, h2, h3⟩
    refine ⟨q.1, List.mem_range.mpr h1, ?_⟩
    rw [h2, Option.map_some, ← h3]
theorem lvR_has {ad : Nat → Nat} {n : Nat} {L : Array Slot} {ls : List (Option PV)} (h : lvR ad n L ls) : lv_has L n (lprs ad n ls) := by
  refine ⟨h.1, h.2.1, fun q hq => ?_⟩
  obtain ⟨-, v, h2, h3⟩ := lprs_mem.mp hq
  rw [h.2.2 q.1 v h2, h3]
theorem lget_lt {ad : Nat → Nat} {n : Nat} {L : Array Slot} {ls : List (Option PV)} (h : lvR ad n L ls) {i : Nat} {v : PV} (hv : lget ls i = some v) : i < n := by
  have := h.2.2 i v hv
  rw [← h.1]
  exact lv_lt this
theorem lget_lput {ls : List (Option PV)} {v : Option PV} : ∀ {i j : Nat} {w : PV}, lget (lput ls i v) j = some w → (j = i ∧ v = some w) ∨ (j ≠ i ∧ lget ls j = some w) := by
  induction ls with
  | nil => intro i j w h; cases h
  | cons a r ih =>
    intro i j w h
    cases i with
    | zero =>
      cases j with
      | zero => exact Or.inl ⟨rfl, h⟩
      | succ n => exact Or.inr ⟨by omega, h⟩
    | succ m =>
      cases j with
      | zero => exact Or.inr ⟨by omega, h⟩
      | succ n =>
        rcases ih (i := m) (j := n) h with ⟨h1, h2⟩ | ⟨h1, h2⟩
        · exact Or.inl ⟨by omega, h2⟩
        · exact Or.inr ⟨by omega, h2⟩
theorem cat_J {v : PV} {ad : Nat → Nat} (h : (tr ad v).category = 2) : isJ (some v) = true := by
  rcases v with x | x | x
  · cases h
  · rfl
  · cases h
theorem lget_lset {ls : List (Option PV)} {v : Option PV} : ∀ {i j : Nat} {w : PV}, lget (lset ls i v) j = some w → (j = i ∧ v = some w) ∨ (j ≠ i ∧ lget ls j = some w ∧ ¬ (j + 1 = i ∧ isJ (some w) = true)) := by
  induction ls with
  | nil => intro i j w h; cases h
  | cons a r ih =>
    intro i j w h
    match i, j, h with
    | 0, 0, h => exact Or.inl ⟨rfl, h⟩
    | 0, n + 1, h => exact Or.inr ⟨by omega, h, by omega⟩
    | 1, 0, h =>
      refine Or.inr ⟨by omega, ?_⟩
      have h2 : (if isJ a = true then none else a) = some w := h
      by_cases hj : isJ a = true
      · rw [if_pos hj] at h2; cases h2
      · rw [if_neg hj] at h2
        exact ⟨h2, fun q => hj (by rw [h2]; exact q.2)⟩
    | 1, n + 1, h =>
      rcases lget_lput (i := 0) (j := n) h with ⟨h1, h2⟩ | ⟨h1, h2⟩
      · exact Or.inl ⟨by omega, h2⟩
      · exact Or.inr ⟨by omega, h2, by omega⟩
    | m + 2, 0, h => exact Or.inr ⟨by omega, h, by omega⟩
    | m + 2, n + 1, h =>
      rcases ih (i := m + 1) (j := n) h with ⟨h1, h2⟩ | ⟨h1, h2, h3⟩
      · exact Or.inl ⟨by omega, h2⟩
      · exact Or.inr ⟨by omega, h2, fun q => h3 ⟨by omega, q.2⟩⟩
theorem lvR_set {ad : Nat → Nat} {n i : Nat} {L L2 : Array Slot} {ls : List (Option PV)} {v : PV} (h : lvR ad n L ls)
    (h2 : lv_has L2 n ((i, tr ad v) :: (lprs ad n ls).filter (fun q => !(q.1 == i) && !(q.1 + 1 == i && q.2.category == 2)))) : lvR ad n L2 (lset ls i (some v)) := by
  refine ⟨h2.1, h2.2.1, fun j w hw => ?_⟩
  rcases lget_lset hw with ⟨h3, h4⟩ | ⟨h3, h4, h5⟩
  · cases h4
    subst h3
    exact h2.2.2 _ List.mem_cons_self
  · refine h2.2.2 (j, tr ad w) (List.mem_cons_of_mem _ (List.mem_filter.mpr ⟨lprs_mem.mpr ⟨lget_lt h h4, w, h4, rfl⟩, ?_⟩))
    simp only [Bool.and_eq_true, Bool.not_eq_true', beq_eq_false_iff_ne, ne_eq, Bool.and_eq_false_imp, beq_iff_eq]
    exact ⟨h3, fun q => by
      intro hc
      exact h5 ⟨q, cat_J hc⟩⟩
theorem okL_lput {ls : List (Option PV)} {v : Option PV} (h : okL ls) (hv : okO v) : ∀ i, okL (lput ls i v) := by
  induction ls with
  | nil => intro i; exact trivial
  | cons a r ih =>
    intro i
    cases i with
    | zero => exact ⟨hv, h.2⟩
    | succ n => exact ⟨h.1, ih h.2 n⟩
theorem okL_lset {ls : List (Option PV)} {v : Option PV} (h : okL ls) (hv : okO v) : ∀ i, okL (lset ls i v) := by
  induction ls with
  | nil => intro i; cases i <;> exact trivial
  | cons a r ih =>
    intro i
    match i with
    | 0 => exact ⟨hv, h.2⟩
    | 1 =>
      refine ⟨?_, okL_lput h.2 hv 0⟩
      show okO (if isJ a = true then none else a)
      split
      · exact trivial
      · exact h.1
    | n + 2 => exact ⟨h.1, ih h.2 (n + 1)⟩
theorem pw_istore_n {n : Fin 4} {i : Nat} {x : Int} (hd : Dn y pc (.istore_n n) 1 pc2) (hi : (n : Nat) = i) (hn : i < y.2.2.1) (he : lset ls i (some (Iq x)) = ls2) (k : PW S y Q pc2 ls2 st mem) : PW S y Q pc ls (Iq x :: st) mem := by
  intro g p l e R s m args below meth c cells slots QF X rt H locs L w hS hM hs hl hv
  obtain ⟨hd, rfl⟩ := hd
  subst he
  exact lv_istore_n X.1 X.2.1 hd hi (lvR_has hv) hn rfl (fun L2 h2 => k g p l e R s m args below meth c cells slots QF X rt H locs L2 w hS hM hs.2 (okL_lset (v := some (Iq x)) hl hs.1 i) (lvR_set (v := Iq x) hv h2))
theorem pw_istore {i : Nat} {x : Int} (hd : Dn y pc (.istore i) 2 pc2) (hn : i < y.2.2.1) (he : lset ls i (some (Iq x)) = ls2) (k : PW S y Q pc2 ls2 st mem) : PW S y Q pc ls (Iq x :: st) mem := by
  intro g p l e R s m args below meth c cells slots QF X rt H locs L w hS hM hs hl hv
  obtain ⟨hd, rfl⟩ := hd
  subst he
  exact lv_istore X.1 X.2.1 hd (lvR_has hv) hn rfl (fun L2 h2 => k g p l e R s m args below meth c cells slots QF X rt H locs L2 w hS hM hs.2 (okL_lset (v := some (Iq x)) hl hs.1 i) (lvR_set (v := Iq x) hv h2))
theorem pw_astore_n {n : Fin 4} {i o : Nat} (hd : Dn y pc (.astore_n n) 1 pc2) (hi : (n : Nat) = i) (hn : i < y.2.2.1) (he : lset ls i (some (Aq o)) = ls2) (k : PW S y Q pc2 ls2 st mem) : PW S y Q pc ls (Aq o :: st) mem := by
  intro g p l e R s m args below meth c cells slots QF X rt H locs L w hS hM hs hl hv
  obtain ⟨hd, rfl⟩ := hd
  subst he
  exact lv_astore_n X.1 X.2.1 hd hi (lvR_has hv) hn rfl (fun L2 h2 => k g p l e R s m args below meth c cells slots QF X rt H locs L2 w hS hM hs.2 (okL_lset (v := some (Aq o)) hl hs.1 i) (lvR_set (v := Aq o) hv h2))
theorem pw_astore {i o : Nat} (hd : Dn y pc (.astore i) 2 pc2) (hn : i < y.2.2.1) (he : lset ls i (some (Aq o)) = ls2) (k : PW S y Q pc2 ls2 st mem) : PW S y Q pc ls (Aq o :: st) mem := by
  intro g p l e R s m args below meth c cells slots QF X rt H locs L w hS hM hs hl hv
  obtain ⟨hd, rfl⟩ := hd
  subst he
  exact lv_astore X.1 X.2.1 hd (lvR_has hv) hn rfl (fun L2 h2 => k g p l e R s m args below meth c cells slots QF X rt H locs L2 w hS hM hs.2 (okL_lset (v := some (Aq o)) hl hs.1 i) (lvR_set (v := Aq o) hv h2))
theorem pw_iinc {i : Nat} {n x : Int} (hd : Dn y pc (.iinc i n) 3 pc2) (hx : lget ls i = some (Iq x)) (hr : in32 (x + n)) (he : lset ls i (some (Iq (x + n))) = ls2) (k : PW S y Q pc2 ls2 st mem) : PW S y Q pc ls st mem := by
  intro g p l e R s m args below meth c cells slots QF X rt H locs L w hS hM hs hl hv
  obtain ⟨hd, rfl⟩ := hd
  subst he
  obtain ⟨q, hq⟩ := List.getElem?_of_mem (lprs_mem.mpr ⟨lget_lt hv hx, Iq x, hx, rfl⟩ : ((i, tr g.1 (Iq x)) : Nat × Value) ∈ lprs g.1 y.2.2.1 ls)
  exact lv_iinc (k := q) (x := Int32.ofInt x) (v := Int32.ofInt (x + n)) X.1 X.2.1 hd (lvR_has hv) hq (Int32.ofInt_add x n).symm (lget_lt hv hx) rfl (fun L2 h2 => k g p l e R s m args below meth c cells slots QF X rt H locs L2 w hS hM hs (okL_lset (v := some (Iq (x + n))) hl hr i) (lvR_set (v := Iq (x + n)) hv h2))
/-! a long comes to a place and the next -/
def lset2 (ls : List (Option PV)) (i : Nat) (v : Option PV) : List (Option PV) := lput (lset ls i v) (i + 1) none
theorem lvR_set2 {ad : Nat → Nat} {n i : Nat} {L L2 : Array Slot} {ls : List (Option PV)} {v : PV} (h : lvR ad n L ls)
    (h2 : lv_has L2 n ((i, tr ad v) :: (lprs ad n ls).filter (fun q => !(q.1 == i) && (!(q.1 == i + 1) && !(q.1 + 1 == i && q.2.category == 2))))) : lvR ad n L2 (lset2 ls i (some v)) := by
  refine ⟨h2.1, h2.2.1, fun j w hw => ?_⟩
  rcases lget_lput hw with ⟨h3, h4⟩ | ⟨h6, hw⟩
  · cases h4
  rcases lget_lset hw with ⟨h3, h4⟩ | ⟨h3, h4, h5⟩
  · cases h4
    subst h3
    exact h2.2.2 _ List.mem_cons_self
  · refine h2.2.2 (j, tr ad w) (List.mem_cons_of_mem _ (List.mem_filter.mpr ⟨lprs_mem.mpr ⟨lget_lt h h4, w, h4, rfl⟩, ?_⟩))
    simp only [Bool.and_eq_true, Bool.not_eq_true', beq_eq_false_iff_ne, ne_eq, Bool.and_eq_false_imp, beq_iff_eq]
    exact ⟨h3, h6, fun q => by
      intro hc
      exact h5 ⟨q, cat_J hc⟩⟩
theorem pw_lstore_n {n : Fin 4} {i : Nat} {x : Int} (hd : Dn y pc (.lstore_n n) 1 pc2) (hi : (n : Nat) = i) (hn : i + 1 < y.2.2.1) (he : lset2 ls i (some (Jq x)) = ls2) (k : PW S y Q pc2 ls2 st mem) : PW S y Q pc ls (Jq x :: st) mem := by
  intro g p l e R s m args below meth c cells slots QF X rt H locs L w hS hM hs hl hv
  obtain ⟨hd, rfl⟩ := hd
  subst he
  exact lv_lstore_n X.1 X.2.1 hd hi (lvR_has hv) hn rfl (fun L2 h2 => k g p l e R s m args below meth c cells slots QF X rt H locs L2 w hS hM hs.2 (okL_lput (v := none) (okL_lset (v := some (Jq x)) hl hs.1 i) trivial (i + 1)) (lvR_set2 (v := Jq x) hv h2))
theorem pw_lstore {i : Nat} {x : Int} (hd : Dn y pc (.lstore i) 2 pc2) (hn : i + 1 < y.2.2.1) (he : lset2 ls i (some (Jq x)) = ls2) (k : PW S y Q pc2 ls2 st mem) : PW S y Q pc ls (Jq x :: st) mem := by
  intro g p l e R s m args below meth c cells slots QF X rt H locs L w hS hM hs hl hv
  obtain ⟨hd, rfl⟩ := hd
  subst he
  exact lv_lstore X.1 X.2.1 hd (lvR_has hv) hn rfl (fun L2 h2 => k g p l e R s m args below meth c cells slots QF X rt H locs L2 w hS hM hs.2 (okL_lput (v := none) (okL_lset (v := some (Jq x)) hl hs.1 i) trivial (i + 1)) (lvR_set2 (v := Jq x) hv h2))
end PR

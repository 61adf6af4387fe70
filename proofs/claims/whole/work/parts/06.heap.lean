/-! ===== fields, arrays, tables, calls ===== -/
section PH
variable {S : Sx} {y : MD} {Q : Option PV → Zm → Prop} {pc pc2 tgt : Nat} {ls ls2 : List (Option PV)} {st : List PV} {mem : Zm}
theorem wcell_obj {g : Gx} {o ci : Nat} {f : Nat → Int} (h : shp o = (0, ci)) : wcell g o f = .inr (ci, wobj g.1 o ci f) := by unfold wcell; rw [h]; rfl
theorem wcell_int {g : Gx} {o n : Nat} {f : Nat → Int} (h : shp o = (1, n)) : wcell g o f = .inl (g.2.2.1, n, .inl (fun j => Int32.ofInt (f j))) := by unfold wcell; rw [h]; rfl
theorem wcell_byte {g : Gx} {o n : Nat} {f : Nat → Int} (h : shp o = (2, n)) : wcell g o f = .inl (g.2.2.2.1, n, .inl (fun j => Int32.ofInt (f j))) := by unfold wcell; rw [h]; rfl
theorem wcell_ref {g : Gx} {o n : Nat} {f : Nat → Int} (h : shp o = (3, n)) : wcell g o f = .inl (g.2.2.2.2.1, n, .inr (.inr (.inr (.inr (fun j => some (g.1 (25 + 2 * j))))))) := by unfold wcell; rw [h]; rfl
theorem ws_obj {g : Gx} {o ci : Nat} (h : shp o = (0, ci)) : (wsW g mem)[o]? = some (g.1 o, .inr (ci, wobj g.1 o ci (mem o))) := by rw [wsW_get (shp_lt h (by show (0 : Nat) ≠ 9; decide)), wcell_obj h]
theorem ws_int {g : Gx} {o n : Nat} (h : shp o = (1, n)) : (wsW g mem)[o]? = some (g.1 o, .inl (g.2.2.1, n, .inl (fun j => Int32.ofInt (mem o j)))) := by rw [wsW_get (shp_lt h (by show (1 : Nat) ≠ 9; decide)), wcell_int h]
theorem ws_byte {g : Gx} {o n : Nat} (h : shp o = (2, n)) : (wsW g mem)[o]? = some (g.1 o, .inl (g.2.2.2.1, n, .inl (fun j => Int32.ofInt (mem o j)))) := by rw [wsW_get (shp_lt h (by show (2 : Nat) ≠ 9; decide)), wcell_byte h]
theorem ws_ref {g : Gx} {o n : Nat} (h : shp o = (3, n)) : (wsW g mem)[o]? = some (g.1 o, .inl (g.2.2.2.2.1, n, .inr (.inr (.inr (.inr (fun j => some (g.1 (25 + 2 * j)))))))) := by rw [wsW_get (shp_lt h (by show (3 : Nat) ≠ 9; decide)), wcell_ref h]
theorem ne22 {o k : Nat} {q : Nat × Nat} (h : shp o = q) (hq : q ≠ (0, 2)) : ¬ (o = 22 ∧ k = 5) := fun z => hq (by rw [← h, z.1]; rfl)
theorem pw_getf {idx ci k N o : Nat} {C : String} {T : u_T} {v : PV} (hd : Dn y pc (.getfield idx) 3 pc2) (hl : Cond.fieldLink y.1.cls idx (T k).1 (T k).2.1 (T k).2.2.1 ∈ gtbl) (hcl : vwCl[ci]? = some (C, T, N)) (hin : ∀ w ∈ u_ws C T N, w ∈ gtbl) (hk : k < N)
    (ho : shp o = (0, ci)) (hv0 : ∀ ad : Nat → Nat, (wobj ad o ci (mem o))[k]? = some (tr ad v)) (hok : okM mem → okV v) (kk : PW S y Q pc2 ls (v :: st) mem) : PW S y Q pc ls (Aq o :: st) mem := by
  intro g p l e R s m args below meth c cells slots QF X rt H locs L w hS hM hs hls hv
  obtain ⟨hd, rfl⟩ := hd
  exact va_get (D := g.2.1) (cl := vwCl) (tys := tysW g) (ws := wsW g mem) (C := C) (T := T) (N := N) (ci := ci) (fs := wobj g.1 o ci (mem o)) (v := tr g.1 v) (ref := (T k).1) X.1 X.2.1 X.2.2.2.2.1 hin X.2.2.2.1 X.2.2.2.2.2.2.2.2.2.1 w.1 o (ws_obj ho) hcl k hk (X.2.2.2.2.1 _ hl) (fun _ h => h) (hv0 g.1) hd (kk g p l e R s m args below meth c cells slots QF X rt H locs L w hS hM ⟨hok hM, hs.2⟩ hls hv)
theorem pw_putI {idx ci k N o : Nat} {C : String} {T : u_T} {x : Int} {ty : FieldType} {ty0 : Nat → FieldType} (hd : Dn y pc (.putfield idx) 3 pc2) (hl : Cond.fieldLink y.1.cls idx (T k).1 (T k).2.1 (T k).2.2.1 ∈ gtbl) (hcl : vwCl[ci]? = some (C, T, N)) (hin : ∀ w ∈ u_ws C T N, w ∈ gtbl) (hty : ∀ k, k < N → parseFieldDescriptor (T k).2.2.1 = some (ty0 k)) (hnm : ∀ a, a < N → ∀ b, b < N → a ≠ b → (T a).2.1 ≠ (T b).2.1) (hk : k < N)
    (hfin : (T k).2.2.2 = false) (hd2 : parseFieldDescriptor (T k).2.2.1 = some ty) (hn : narrow ty (.int (Int32.ofInt x)) = .int (Int32.ofInt x)) (hfit : fits ty (.int (Int32.ofInt x)) = true)
    (ho : shp o = (0, ci)) (hlen : ∀ ad : Nat → Nat, k < (wobj ad o ci (mem o)).length) (hset : ∀ ad : Nat → Nat, (wobj ad o ci (mem o)).set k (.int (Int32.ofInt x)) = wobj ad o ci (fun j => if j = k then x else mem o j)) (h22 : ¬ (o = 22 ∧ k = 5))
    (kk : PW S y Q pc2 ls st (mup mem o k x)) : PW S y Q pc ls (Iq x :: Aq o :: st) mem := by
  intro g p l e R s m args below meth c cells slots QF X rt H locs L w hS hM hs hls hv
  obtain ⟨hd, rfl⟩ := hd
  have e1 : (wsW g mem).set o (g.1 o, .inr (ci, (wobj g.1 o ci (mem o)).set k (.int (Int32.ofInt x)))) = wsW g (mup mem o k x) := by
    rw [← wsW_set (mem := mem) (mem2 := mup mem o k x) (shp_lt ho (by show (0 : Nat) ≠ 9; decide)) (fun o2 h => mup_other o2 h), wcell_obj ho, hset, mup_same]
  refine va_put (D := g.2.1) (cl := vwCl) (tys := tysW g) (ws := wsW g mem) (C := C) (T := T) (N := N) (ci := ci) (fs := wobj g.1 o ci (mem o)) (v := .int (Int32.ofInt x)) (ty := ty) (ref := (T k).1) X.1 X.2.1 X.2.2.2.2.1 hin ty0 hty hnm X.2.2.2.1 X.2.2.2.2.2.2.2.2.2.1 w.1 w.2 hS o (ws_obj ho) hcl k hk (X.2.2.2.2.1 _ hl) (fun _ h => h) hfin hd2 hn hfit (hlen g.1) hd (fun H1 locs1 hP hD hS1 => ?_)
  rw [e1] at hP hD
  exact kk g p l e R s m args below meth c cells slots QF X rt H1 locs1 L ⟨hP, hD⟩ hS1 (okM_mup hM h22 hs.1) hs.2.2 hls hv
theorem pw_putJ {idx : Nat} {x : Int} (hd : Dn y pc (.putfield idx) 3 pc2) (hl : Cond.fieldLink y.1.cls idx (TX2 5).1 (TX2 5).2.1 (TX2 5).2.2.1 ∈ gtbl) (hin : ∀ w ∈ u_ws RX2 TX2 7, w ∈ gtbl)
    (kk : PW S y Q pc2 ls st (mup mem 22 5 x)) : PW S y Q pc ls (Jq x :: Aq 22 :: st) mem := by
  intro g p l e R s m args below meth c cells slots QF X rt H locs L w hS hM hs hls hv
  obtain ⟨hd, rfl⟩ := hd
  have ho : shp 22 = (0, 2) := rfl
  have e1 : (wsW g mem).set 22 (g.1 22, .inr (2, (wobj g.1 22 2 (mem 22)).set 5 (.long (Int64.ofInt x)))) = wsW g (mup mem 22 5 x) := by
    rw [← wsW_set (mem := mem) (mem2 := mup mem 22 5 x) (shp_lt ho (by show (0 : Nat) ≠ 9; decide)) (fun o2 h => mup_other o2 h), wcell_obj ho, mup_same]
    rfl
  refine va_put (D := g.2.1) (cl := vwCl) (tys := tysW g) (ws := wsW g mem) (C := RX2) (T := TX2) (N := 7) (ci := 2) (fs := wobj g.1 22 2 (mem 22)) (v := .long (Int64.ofInt x)) (ty := .long) (ref := (TX2 5).1) X.1 X.2.1 X.2.2.2.2.1 hin tyX2 tyX2_ok nmX2 X.2.2.2.1 X.2.2.2.2.2.2.2.2.2.1 w.1 w.2 hS 22 (ws_obj ho) rfl 5 (by decide) (X.2.2.2.2.1 _ hl) (fun _ h => h) rfl (by decide +kernel) rfl rfl (Nat.le_of_ble_eq_true rfl) hd (fun H1 locs1 hP hD hS1 => ?_)
  rw [e1] at hP hD
  exact kk g p l e R s m args below meth c cells slots QF X rt H1 locs1 L ⟨hP, hD⟩ hS1 (okM_mupJ hM hs.1) hs.2.2 hls hv
theorem pw_iald {o n : Nat} {i : Int} (hd : Dn y pc .iaload 1 pc2) (ho : shp o = (1, n)) (hi : 0 ≤ i ∧ i < n) (kk : PW S y Q pc2 ls (Iq (mem o i.toNat) :: st) mem) : PW S y Q pc ls (Iq i :: Aq o :: st) mem := by
  intro g p l e R s m args below meth c cells slots QF X rt H locs L w hS hM hs hls hv
  obtain ⟨hd, rfl⟩ := hd
  refine va_iald (D := g.2.1) (cl := vwCl) (tys := tysW g) (ws := wsW g mem) X.1 X.2.1 X.2.2.2.2.2.2.2.2.2.1 w.1 o 0 (ws_int ho) rfl (vpin hi hs.1) hd ?_
  rw [ofI_nat hs.1]
  exact kk g p l e R s m args below meth c cells slots QF X rt H locs L w hS hM ⟨okM_i hM (ne22 ho (by simp)), hs.2.2⟩ hls hv
theorem pw_bald {o n : Nat} {i : Int} (hd : Dn y pc .baload 1 pc2) (ho : shp o = (2, n)) (hi : 0 ≤ i ∧ i < n) (kk : PW S y Q pc2 ls (Iq (mem o i.toNat) :: st) mem) : PW S y Q pc ls (Iq i :: Aq o :: st) mem := by
  intro g p l e R s m args below meth c cells slots QF X rt H locs L w hS hM hs hls hv
  obtain ⟨hd, rfl⟩ := hd
  refine va_bald (D := g.2.1) (cl := vwCl) (tys := tysW g) (ws := wsW g mem) X.1 X.2.1 X.2.2.2.2.2.2.2.2.2.1 w.1 o 1 (ws_byte ho) rfl (vpin hi hs.1) hd ?_
  rw [ofI_nat hs.1]
  exact kk g p l e R s m args below meth c cells slots QF X rt H locs L w hS hM ⟨okM_i hM (ne22 ho (by simp)), hs.2.2⟩ hls hv
theorem pw_aald {o n : Nat} {i : Int} (hd : Dn y pc .aaload 1 pc2) (ho : shp o = (3, n)) (hi : 0 ≤ i ∧ i < n) (kk : PW S y Q pc2 ls (Aq (25 + 2 * i.toNat) :: st) mem) : PW S y Q pc ls (Iq i :: Aq o :: st) mem := by
  intro g p l e R s m args below meth c cells slots QF X rt H locs L w hS hM hs hls hv
  obtain ⟨hd, rfl⟩ := hd
  refine va_aldq (D := g.2.1) (cl := vwCl) (tys := tysW g) (ws := wsW g mem) X.1 X.2.1 X.2.2.2.2.2.2.2.2.2.1 w.1 o 2 (ws_ref ho) rfl (vpin hi hs.1) hd ?_
  rw [ofI_nat hs.1]
  exact kk g p l e R s m args below meth c cells slots QF X rt H locs L w hS hM ⟨trivial, hs.2.2⟩ hls hv
theorem upd_ofI (f : Nat → Int) (k : Nat) (x : Int) : (fun j => Int32.ofInt (if j = k then x else f j)) = upd (fun j => Int32.ofInt (f j)) k (Int32.ofInt x) := by
  funext j
  unfold upd
  split <;> rfl
theorem pw_iast {o n : Nat} {i x : Int} (hd : Dn y pc .iastore 1 pc2) (ho : shp o = (1, n)) (hi : 0 ≤ i ∧ i < n) (kk : PW S y Q pc2 ls st (mup mem o i.toNat x)) : PW S y Q pc ls (Iq x :: Iq i :: Aq o :: st) mem := by
  intro g p l e R s m args below meth c cells slots QF X rt H locs L w hS hM hs hls hv
  obtain ⟨hd, rfl⟩ := hd
  have e1 : (wsW g mem).set o (g.1 o, .inl (g.2.2.1, n, .inl (upd (fun j => Int32.ofInt (mem o j)) i.toNat (Int32.ofInt x)))) = wsW g (mup mem o i.toNat x) := by
    rw [← wsW_set (mem := mem) (mem2 := mup mem o i.toNat x) (shp_lt ho (by show (1 : Nat) ≠ 9; decide)) (fun o2 h => mup_other o2 h), wcell_int ho, mup_same, upd_ofI]
  refine va_iast (D := g.2.1) (cl := vwCl) (tys := tysW g) (ws := wsW g mem) X.1 X.2.1 X.2.2.2.2.2.2.2.2.2.1 w.1 w.2 hS o 0 (ws_int ho) rfl (vpin hi hs.2.1) hd (fun H1 locs1 hP hD hS1 => ?_)
  rw [ofI_nat hs.2.1, e1] at hP hD
  exact kk g p l e R s m args below meth c cells slots QF X rt H1 locs1 L ⟨hP, hD⟩ hS1 (okM_mup hM (ne22 ho (by simp)) hs.1) hs.2.2.2 hls hv
theorem pw_bast {o n : Nat} {i x : Int} (hd : Dn y pc .bastore 1 pc2) (ho : shp o = (2, n)) (hi : 0 ≤ i ∧ i < n) (kk : PW S y Q pc2 ls st (mup mem o i.toNat (toB x))) : PW S y Q pc ls (Iq x :: Iq i :: Aq o :: st) mem := by
  intro g p l e R s m args below meth c cells slots QF X rt H locs L w hS hM hs hls hv
  obtain ⟨hd, rfl⟩ := hd
  have e0 : vp_nar .byte (Int32.ofInt x) = Int32.ofInt (toB x) := by rw [vp_nar_byte]; exact (Int32.ofInt_toInt _).symm
  have e1 : (wsW g mem).set o (g.1 o, .inl (g.2.2.2.1, n, .inl (upd (fun j => Int32.ofInt (mem o j)) i.toNat (Int32.ofInt (toB x))))) = wsW g (mup mem o i.toNat (toB x)) := by
    rw [← wsW_set (mem := mem) (mem2 := mup mem o i.toNat (toB x)) (shp_lt ho (by show (2 : Nat) ≠ 9; decide)) (fun o2 h => mup_other o2 h), wcell_byte ho, mup_same, upd_ofI]
  refine va_bast (D := g.2.1) (cl := vwCl) (tys := tysW g) (ws := wsW g mem) X.1 X.2.1 X.2.2.2.2.2.2.2.2.2.1 w.1 w.2 hS o 1 (ws_byte ho) rfl (vpin hi hs.2.1) hd (fun H1 locs1 hP hD hS1 => ?_)
  rw [ofI_nat hs.2.1, e0, e1] at hP hD
  exact kk g p l e R s m args below meth c cells slots QF X rt H1 locs1 L ⟨hP, hD⟩ hS1 (okM_mup hM (ne22 ho (by simp)) (in32_toInt _)) hs.2.2.2 hls hv
theorem pw_alen {o n : Nat} (hd : Dn y pc .arraylength 1 pc2) (ho : shp o = (1, n)) (hn : n < 2147483648) (kk : PW S y Q pc2 ls (Iq n :: st) mem) : PW S y Q pc ls (Aq o :: st) mem := by
  intro g p l e R s m args below meth c cells slots QF X rt H locs L w hS hM hs hls hv
  obtain ⟨hd, rfl⟩ := hd
  exact va_alen (D := g.2.1) (cl := vwCl) (tys := tysW g) (ws := wsW g mem) (v := Int32.ofInt (n : Int)) X.1 X.2.1 X.2.2.2.2.2.2.2.2.2.1 w.1 o 0 (ws_int ho) rfl (Int32.ofInt_eq_ofNat).symm hd (kk g p l e R s m args below meth c cells slots QF X rt H locs L w hS hM ⟨(⟨by omega, by omega⟩ : in32 (n : Int)), hs.2⟩ hls hv)
/-- what System.arraycopy leaves -/
def mcp (mem : Zm) (a b sp dp n : Nat) : Zm := fun o k => if o = b then (if dp ≤ k ∧ k < dp + n then mem a (sp + (k - dp)) else mem b k) else mem o k
theorem mcp_cell {mem : Zm} {a b sp dp n : Nat} : (fun j => Int32.ofInt (mcp mem a b sp dp n b j)) = va_cpy (fun j => Int32.ofInt (mem a j)) (fun j => Int32.ofInt (mem b j)) sp dp n := by
  funext j
  unfold mcp va_cpy
  rw [if_pos rfl]
  split <;> rfl
theorem pw_acopy {idx a b n0 n1 : Nat} {sp dp n : Int} (hd : Dn y pc (.invokestatic idx) 3 pc2) (hl : Cond.methodLink y.1.cls idx arraycopyName ∈ gtbl) (hnat : Cond.native arraycopyName ∈ gtbl) (hstt : Cond.static arraycopyName ∈ gtbl) (hini : Cond.initialized "java/lang/System" ∈ gtbl)
    (hfr : 1 ≤ y.2.2.2.2.1) (hlo : 34 ≤ y.2.2.2.2.2) (hst : st = []) (ha : shp a = (1, n0)) (hb : shp b = (1, n1)) (h1 : 0 ≤ sp ∧ 0 ≤ dp ∧ 0 ≤ n ∧ sp + n ≤ n0 ∧ dp + n ≤ n1)
    (kk : PW S y Q pc2 ls [] (mcp mem a b sp.toNat dp.toNat n.toNat)) : PW S y Q pc ls (Iq n :: Iq dp :: Aq b :: Iq sp :: Aq a :: st) mem := by
  intro g p l e R s m args below meth c cells slots QF X rt H locs L w hS hM hs hls hv
  obtain ⟨hd, rfl⟩ := hd
  subst hst
  have i1 : in32 n := hs.1
  have i2 : in32 dp := hs.2.1
  have i3 : in32 sp := hs.2.2.2.1
  have z0 : (0 : Int32).toInt = 0 := by decide
  have nn : ∀ {q : Int}, in32 q → 0 ≤ q → ¬ Int32.ofInt q < 0 := fun hq h0 h => by rw [Int32.lt_iff_toInt_lt, ofI hq, z0] at h; omega
  have e1 : (wsW g mem).set b (g.1 b, .inl (g.2.2.1, n1, .inl (va_cpy (fun j => Int32.ofInt (mem a j)) (fun j => Int32.ofInt (mem b j)) sp.toNat dp.toNat n.toNat))) = wsW g (mcp mem a b sp.toNat dp.toNat n.toNat) := by
    rw [← wsW_set (mem := mem) (mem2 := mcp mem a b sp.toNat dp.toNat n.toNat) (shp_lt hb (by show (1 : Nat) ≠ 9; decide)) (fun o2 h => by funext k; unfold mcp; rw [if_neg h]), wcell_int hb, mcp_cell]
  refine va_copyi (D := g.2.1) (cl := vwCl) (tys := tysW g) (ws := wsW g mem) (ty := .int) X.1 X.2.1 (X.2.2.1.trans hv.1.symm) X.2.2.2.1 (X.2.2.2.2.1 _ hl) (X.2.2.2.2.1 _ hnat) (X.2.2.2.2.1 _ hstt) (X.2.2.2.2.1 _ hini) X.2.2.2.2.2.2.2.2.2.1 w.1 w.2 hS a b 0 0 (ws_int ha) (ws_int hb) rfl rfl rfl (nn i3 h1.1) (nn i2 h1.2.1) (nn i1 h1.2.2.1)
    (by rw [ofI_nat i3, ofI_nat i1]; omega) (by rw [ofI_nat i2, ofI_nat i1]; omega) (fun i _ => rfl) (by rw [X.2.2.2.2.2.1]; exact hfr) (by rw [X.2.2.2.2.2.2.1]; exact Nat.le_trans (Nat.le_of_ble_eq_true rfl) hlo) hd (fun H1 locs1 hP hD hS1 => ?_)
  rw [ofI_nat i1, ofI_nat i2, ofI_nat i3, e1] at hP hD
  refine kk g p l e R s m args below meth c cells slots QF X rt H1 locs1 L ⟨hP, hD⟩ hS1 (fun o k => ⟨fun q => ?_, fun q => ?_⟩) trivial hls hv
  · unfold mcp
    rw [if_neg (fun z => ne22 (k := 5) hb (by simp) ⟨by omega, rfl⟩)]
    exact (hM o k).1 q
  · unfold mcp
    split
    · split
      · exact okM_i hM (ne22 ha (by simp))
      · exact okM_i hM (ne22 hb (by simp))
    · exact (hM o k).2 q
/-! tables -/
theorem pw_gsP {idx : Nat} (hd : Dn y pc (.getstatic idx) 3 pc2) (hl : Cond.fieldLinkNest y.1.cls idx RX3 "PRICES" "[I" RX3 = nlP) (kk : PW S y Q pc2 ls (Aq 100 :: st) mem) : PW S y Q pc ls st mem := by
  intro g p l e R s m args below meth c cells slots QF X rt H locs L w hS hM hs hls hv
  obtain ⟨hd, rfl⟩ := hd
  exact va_getsN (host := RX3) X.1 X.2.1 X.2.2.2.2.2.2.2.2.2.2.1 hS X.2.2.2.1 (by rw [hl]; exact va_Nw.use rfl X.2.2.2.2.2.2.2.2.2.2.2.2.2.2.2.2.2.2.2) (fun _ h => h) hd (kk g p l e R s m args below meth c cells slots QF X rt H locs L w hS hM ⟨trivial, hs⟩ hls hv)
theorem pw_gsU {idx : Nat} (hd : Dn y pc (.getstatic idx) 3 pc2) (hl : Cond.fieldLink y.1.cls idx RX3 "UNDER" "[I" ∈ gtbl) (kk : PW S y Q pc2 ls (Aq 101 :: st) mem) : PW S y Q pc ls st mem := by
  intro g p l e R s m args below meth c cells slots QF X rt H locs L w hS hM hs hls hv
  obtain ⟨hd, rfl⟩ := hd
  exact va_gets X.1 X.2.1 X.2.2.2.2.2.2.2.2.2.2.2.2.1 hS X.2.2.2.1 (X.2.2.2.2.1 _ hl) (fun _ h => h) hd (kk g p l e R s m args below meth c cells slots QF X rt H locs L w hS hM ⟨trivial, hs⟩ hls hv)
theorem pw_gsK {idx : Nat} (hd : Dn y pc (.getstatic idx) 3 pc2) (hl : Cond.fieldLink y.1.cls idx RX2 "KIND_WORDS" "[J" ∈ gtbl) (kk : PW S y Q pc2 ls (Aq 102 :: st) mem) : PW S y Q pc ls st mem := by
  intro g p l e R s m args below meth c cells slots QF X rt H locs L w hS hM hs hls hv
  obtain ⟨hd, rfl⟩ := hd
  exact va_gets X.1 X.2.1 X.2.2.2.2.2.2.2.2.2.2.2.2.2.2.1 hS X.2.2.2.1 (X.2.2.2.2.1 _ hl) (fun _ h => h) hd (kk g p l e R s m args below meth c cells slots QF X rt H locs L w hS hM ⟨trivial, hs⟩ hls hv)
theorem tbP_in (j : Nat) : in32 (tbP j) := by
  unfold tbP
  match j with
  | 0 => exact ⟨by decide, by decide⟩
  | 1 => exact ⟨by decide, by decide⟩
  | 2 => exact ⟨by decide, by decide⟩
  | 3 => exact ⟨by decide, by decide⟩
  | 4 => exact ⟨by decide, by decide⟩
  | 5 => exact ⟨by decide, by decide⟩
  | 6 => exact ⟨by decide, by decide⟩
  | n + 7 => exact ⟨by show (-2147483648 : Int) ≤ 0; decide, by show (0 : Int) ≤ 2147483647; decide⟩
theorem tbU_in (j : Nat) : in32 (tbU j) := by
  unfold tbU
  match j with
  | 0 => exact ⟨by decide, by decide⟩
  | 1 => exact ⟨by decide, by decide⟩
  | 2 => exact ⟨by decide, by decide⟩
  | 3 => exact ⟨by decide, by decide⟩
  | 4 => exact ⟨by decide, by decide⟩
  | 5 => exact ⟨by decide, by decide⟩
  | 6 => exact ⟨by decide, by decide⟩
  | n + 7 => exact ⟨by show (-2147483648 : Int) ≤ 0; decide, by show (0 : Int) ≤ 2147483647; decide⟩
theorem tbK_in (j : Nat) : in64 (tbK j) := by
  unfold tbK
  match j with
  | 0 => exact ⟨by decide, by decide⟩
  | 1 => exact ⟨by decide, by decide⟩
  | 2 => exact ⟨by decide, by decide⟩
  | 3 => exact ⟨by decide, by decide⟩
  | 4 => exact ⟨by decide, by decide⟩
  | 5 => exact ⟨by decide, by decide⟩
  | 6 => exact ⟨by decide, by decide⟩
  | n + 7 => exact ⟨by show (-9223372036854775808 : Int) ≤ 0; decide, by show (0 : Int) ≤ 9223372036854775807; decide⟩
theorem pw_ialdP {i : Int} (hd : Dn y pc .iaload 1 pc2) (hi : 0 ≤ i ∧ i < 7) (kk : PW S y Q pc2 ls (Iq (tbP i.toNat) :: st) mem) : PW S y Q pc ls (Iq i :: Aq 100 :: st) mem := by
  intro g p l e R s m args below meth c cells slots QF X rt H locs L w hS hM hs hls hv
  obtain ⟨hd, rfl⟩ := hd
  refine va_ti X.1 X.2.1 X.2.2.2.2.2.2.2.2.2.2.2.1 hS (vpin (n := 7) hi hs.1) (v := tr g.1 (Iq (tbP i.toNat))) (by rw [ofI_nat hs.1]; rfl) hd (kk g p l e R s m args below meth c cells slots QF X rt H locs L w hS hM ⟨tbP_in _, hs.2.2⟩ hls hv)
theorem pw_ialdU {i : Int} (hd : Dn y pc .iaload 1 pc2) (hi : 0 ≤ i ∧ i < 7) (kk : PW S y Q pc2 ls (Iq (tbU i.toNat) :: st) mem) : PW S y Q pc ls (Iq i :: Aq 101 :: st) mem := by
  intro g p l e R s m args below meth c cells slots QF X rt H locs L w hS hM hs hls hv
  obtain ⟨hd, rfl⟩ := hd
  refine va_ti X.1 X.2.1 X.2.2.2.2.2.2.2.2.2.2.2.2.2.1 hS (vpin (n := 7) hi hs.1) (v := tr g.1 (Iq (tbU i.toNat))) (by rw [ofI_nat hs.1]; rfl) hd (kk g p l e R s m args below meth c cells slots QF X rt H locs L w hS hM ⟨tbU_in _, hs.2.2⟩ hls hv)
theorem pw_laldK {i : Int} (hd : Dn y pc .laload 1 pc2) (hi : 0 ≤ i ∧ i < 7) (kk : PW S y Q pc2 ls (Jq (tbK i.toNat) :: st) mem) : PW S y Q pc ls (Iq i :: Aq 102 :: st) mem := by
  intro g p l e R s m args below meth c cells slots QF X rt H locs L w hS hM hs hls hv
  obtain ⟨hd, rfl⟩ := hd
  refine va_tl X.1 X.2.1 X.2.2.2.2.2.2.2.2.2.2.2.2.2.2.2.1 hS (vpin (n := 7) hi hs.1) (v := tr g.1 (Jq (tbK i.toNat))) (by rw [ofI_nat hs.1]; rfl) hd (kk g p l e R s m args below meth c cells slots QF X rt H locs L w hS hM ⟨tbK_in _, hs.2.2⟩ hls hv)
/-! the script -/
theorem pw_scr {i : Int} (hd : Dn y pc .iaload 1 pc2) (hi : 0 ≤ i ∧ i < S.1) (kk : PW S y Q pc2 ls (Iq (S.2 i.toNat).toInt :: st) mem) : PW S y Q pc ls (Iq i :: Aq 103 :: st) mem := by
  intro g p l e R s m args below meth c cells slots QF X rt H locs L w hS hM hs hls hv
  obtain ⟨hd, rfl⟩ := hd
  obtain ⟨h8, h9, h10, h11⟩ := X.2.2.2.2.2.2.2.2.2.2.2.2.2.2.2.2
  refine va_sld X.1 X.2.1 h8 (va_X.lt h8) h9 hS (vpin hi hs.1) hd ?_
  have e1 : Value.int (S.2 (Int32.ofInt i).toNatClampNeg) = tr g.1 (Iq (S.2 i.toNat).toInt) := by
    show _ = Value.int (Int32.ofInt (S.2 i.toNat).toInt)
    rw [ofI_nat hs.1, Int32.ofInt_toInt]
  rw [e1]
  exact kk g p l e R s m args below meth c cells slots QF X rt H locs L w hS hM ⟨in32_toInt _, hs.2.2⟩ hls hv
theorem pw_slen (hd : Dn y pc .arraylength 1 pc2) (kk : PW S y Q pc2 ls (Iq S.1 :: st) mem) : PW S y Q pc ls (Aq 103 :: st) mem := by
  intro g p l e R s m args below meth c cells slots QF X rt H locs L w hS hM hs hls hv
  obtain ⟨hd, rfl⟩ := hd
  obtain ⟨h8, h9, h10, h11⟩ := X.2.2.2.2.2.2.2.2.2.2.2.2.2.2.2.2
  refine va_slen X.1 X.2.1 h8 (va_X.lt h8) h9 hS hd ?_
  rw [← Int32.ofInt_eq_ofNat]
  exact kk g p l e R s m args below meth c cells slots QF X rt H locs L w hS hM ⟨(⟨by omega, by omega⟩ : in32 (S.1 : Int)), hs.2⟩ hls hv
end PH

/-! a walk that knows fewer locals serves where more are known -/
def lmask : List Bool → List (Option PV) → List (Option PV)
  | b :: bs, a :: r => (if b then a else none) :: lmask bs r
  | _, _ => []
theorem lmask_get : ∀ (bs : List Bool) (ls : List (Option PV)) (i : Nat) (v : PV), lget (lmask bs ls) i = some v → lget ls i = some v := by
  intro bs
  induction bs with
  | nil => intro ls i v h; cases ls <;> cases h
  | cons b bs ih =>
    intro ls i v h
    cases ls with
    | nil => cases h
    | cons a r =>
      cases i with
      | zero =>
        have h2 : (if b = true then a else none) = some v := h
        show a = some v
        cases b
        · cases h2
        · exact h2
      | succ n => exact ih r n v h
theorem okL_lmask : ∀ (bs : List Bool) (ls : List (Option PV)), okL ls → okL (lmask bs ls) := by
  intro bs
  induction bs with
  | nil => intro ls h; cases ls <;> exact trivial
  | cons b bs ih =>
    intro ls h
    cases ls with
    | nil => exact trivial
    | cons a r =>
      refine ⟨?_, ih r h.2⟩
      show okO (if b = true then a else none)
      cases b
      · exact trivial
      · exact h.1
theorem pw_drop {S : Sx} {y : MD} {Q : Option PV → Zm → Prop} {pc : Nat} {bs : List Bool} {ls : List (Option PV)} {st : List PV} {mem : Zm} (k : PW S y Q pc (lmask bs ls) st mem) : PW S y Q pc ls st mem := by
  intro g p l e R s m args below meth c cells slots QF X rt H locs L w hS hM hs hl hv
  exact k g p l e R s m args below meth c cells slots QF X rt H locs L w hS hM hs (okL_lmask bs ls hl) ⟨hv.1, hv.2.1, fun i v h => hv.2.2 i v (lmask_get bs ls i v h)⟩

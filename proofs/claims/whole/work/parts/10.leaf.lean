/-! ===== leaves: methods whose answer is a formula ===== -/
theorem bI0 {p : Prop} [Decidable p] : bI p = 0 ↔ ¬ p := by unfold bI; split <;> simp_all
theorem bI1 {p : Prop} [Decidable p] : ¬ bI p = 0 ↔ p := by unfold bI; split <;> simp_all
theorem bIr {p : Prop} [Decidable p] : bI p = 0 ∨ bI p = 1 := by unfold bI; split <;> simp
theorem bIt {p : Prop} [Decidable p] (h : p) : bI p = 1 := if_pos h
theorem bIf {p : Prop} [Decidable p] (h : ¬ p) : bI p = 0 := if_neg h
theorem ct1I {S : Sx} {y : MD} {av : List PV} {mem mem1 : Zm} {v : Int} (hy : y.2.2.2.1 = some .int) (hp : plainName y.1.cls = true) (hc : catS av ≤ y.2.2.1) (h : PW S y (fun r m => r = some (Iq v) ∧ m = mem1) 0 (linit y.2.2.1 av) [] mem) : Ct1 S y av mem (some (Iq v)) mem1 :=
  Ct.ofP hp hc (fun r m hq => by obtain ⟨rfl, rfl⟩ := hq; unfold retK; rw [hy]; exact trivial) h
theorem ct1Z {S : Sx} {y : MD} {av : List PV} {mem mem1 : Zm} {v : Int} (hy : y.2.2.2.1 = some .boolean) (hz : v = 0 ∨ v = 1) (hp : plainName y.1.cls = true) (hc : catS av ≤ y.2.2.1) (h : PW S y (fun r m => r = some (Iq v) ∧ m = mem1) 0 (linit y.2.2.1 av) [] mem) : Ct1 S y av mem (some (Iq v)) mem1 :=
  Ct.ofP hp hc (fun r m hq => by obtain ⟨rfl, rfl⟩ := hq; unfold retK; rw [hy]; exact hz) h
theorem ct1J {S : Sx} {y : MD} {av : List PV} {mem mem1 : Zm} {v : Int} (hy : y.2.2.2.1 = some .long) (hp : plainName y.1.cls = true) (hc : catS av ≤ y.2.2.1) (h : PW S y (fun r m => r = some (Jq v) ∧ m = mem1) 0 (linit y.2.2.1 av) [] mem) : Ct1 S y av mem (some (Jq v)) mem1 :=
  Ct.ofP hp hc (fun r m hq => by obtain ⟨rfl, rfl⟩ := hq; unfold retK; rw [hy]; exact trivial) h
theorem ct1V {S : Sx} {y : MD} {av : List PV} {mem mem1 : Zm} (hy : y.2.2.2.1 = none) (hp : plainName y.1.cls = true) (hc : catS av ≤ y.2.2.1) (h : PW S y (fun r m => r = none ∧ m = mem1) 0 (linit y.2.2.1 av) [] mem) : Ct1 S y av mem none mem1 :=
  Ct.ofP hp hc (fun r m hq => by obtain ⟨rfl, rfl⟩ := hq; unfold retK; rw [hy]; exact trivial) h
theorem cmpL_lt {a b : Int} : cmpL a b < 0 ↔ a < b := by unfold cmpL; split; omega; split <;> omega
theorem cmpL_gt {a b : Int} : 0 < cmpL a b ↔ b < a := by unfold cmpL; split; omega; split <;> omega
theorem cmpL_eq {a b : Int} : cmpL a b = 0 ↔ a = b := by unfold cmpL; split; omega; split <;> omega
section LF
variable {S : Sx} {mem : Zm} {x0 x1 x2 x3 x4 : Int} {r0 : Nat}
theorem ct_X3_within : Ct1 S mX3_within [Iq x0, Iq x1, Iq x2] mem (some (Iq (bI (x1 ≤ x0 ∧ x0 ≤ x2)))) mem :=
  ct1Z rfl bIr (by decide) (Nat.le_of_ble_eq_true rfl) (rg_X3_within_0 ⟨fun c => ⟨by rw [bIf (by omega)], rfl⟩, fun c => ⟨fun d => ⟨by rw [bIf (by omega)], rfl⟩, fun d => ⟨by rw [bIt (by omega)], rfl⟩⟩⟩)
theorem ct_X0_has (hr0 : isRoom r0) : Ct1 S mX0_has [Aq r0, Iq x1] mem (some (Iq (bI (0 ≤ x1 ∧ x1 < mem r0 7)))) mem :=
  ct1Z rfl bIr (by decide) (Nat.le_of_ble_eq_true rfl) (rg_X0_has_0 hr0 ⟨fun c => ⟨by rw [bIf (by omega)], rfl⟩, fun c => ⟨fun d => ⟨by rw [bIf (by omega)], rfl⟩, fun d => ⟨by rw [bIt (by omega)], rfl⟩⟩⟩)
theorem ct_X0_fact (hr0 : isRoom r0) (h : 0 ≤ x1 ∧ x1 < 8 ∧ 0 ≤ x2 ∧ x2 < 6) : Ct1 S mX0_fact [Aq r0, Iq x1, Iq x2] mem (some (Iq (mem (r0 + 2) (6 * x1.toNat + x2.toNat)))) mem :=
  ct1I rfl (by decide) (Nat.le_of_ble_eq_true rfl) (rg_X0_fact_0 hr0 ⟨by omega, by omega, by omega, by rw [show (x1 * 6 + x2).toNat = 6 * x1.toNat + x2.toNat by omega], rfl⟩)
theorem ct_X0_setFact (hr0 : isRoom r0) (h : 0 ≤ x1 ∧ x1 < 8 ∧ 0 ≤ x2 ∧ x2 < 6) : Ct1 S mX0_setFact [Aq r0, Iq x1, Iq x2, Iq x3] mem none (mup mem (r0 + 2) (6 * x1.toNat + x2.toNat) x3) :=
  ct1V rfl (by decide) (Nat.le_of_ble_eq_true rfl) (rg_X0_setFact_0 hr0 ⟨by omega, by omega, by omega, rfl, by rw [show (x1 * 6 + x2).toNat = 6 * x1.toNat + x2.toNat by omega]⟩)
theorem ct_X0_answerOf (hr0 : isRoom r0) (h : 0 ≤ x1 ∧ x1 < 8 ∧ 0 ≤ x2 ∧ x2 < 8) : Ct1 S mX0_answerOf [Aq r0, Iq x1, Iq x2] mem (some (Iq (mem (r0 + 3) (8 * x1.toNat + x2.toNat)))) mem :=
  ct1I rfl (by decide) (Nat.le_of_ble_eq_true rfl) (rg_X0_answerOf_0 hr0 ⟨by omega, by omega, by omega, by rw [show (x1 * 8 + x2).toNat = 8 * x1.toNat + x2.toNat by omega], rfl⟩)
theorem ct_X4_isIn : Ct1 S mX4_isIn [Jq x0, Jq x1, Jq x2] mem (some (Iq (bI (x1 ≤ x0 ∧ x0 ≤ x2)))) mem :=
  ct1Z rfl bIr (by decide) (Nat.le_of_ble_eq_true rfl) (rg_X4_isIn_0 ⟨fun c => ⟨by rw [bIf (by rw [cmpL_lt] at c; omega)], rfl⟩, fun c => ⟨fun d => ⟨by rw [bIf (by rw [cmpL_gt] at d; omega)], rfl⟩, fun d => ⟨by rw [bIt (by rw [cmpL_lt] at c; rw [cmpL_gt] at d; omega)], rfl⟩⟩⟩)
theorem ct_X4_isSum : Ct1 S mX4_isSum [Iq x0] mem (some (Iq (bI (0 ≤ x0 ∧ x0 < 8)))) mem :=
  ct1Z rfl bIr (by decide) (Nat.le_of_ble_eq_true rfl) (rg_X4_isSum_0 ⟨fun c => ⟨by rw [bIf (by omega)], rfl⟩, fun c => ⟨fun d => ⟨by rw [bIf (by omega)], rfl⟩, fun d => ⟨by rw [bIt (by omega)], rfl⟩⟩⟩)
theorem ct_X4_isSheet : Ct1 S mX4_isSheet [Iq x0] mem (some (Iq (bI (0 ≤ x0 ∧ x0 < 4)))) mem :=
  ct1Z rfl bIr (by decide) (Nat.le_of_ble_eq_true rfl) (rg_X4_isSheet_0 ⟨fun c => ⟨by rw [bIf (by omega)], rfl⟩, fun c => ⟨fun d => ⟨by rw [bIf (by omega)], rfl⟩, fun d => ⟨by rw [bIt (by omega)], rfl⟩⟩⟩)
theorem ct_X4_isChild : Ct1 S mX4_isChild [Aq 34, Iq x1] mem (some (Iq (bI (0 ≤ x1 ∧ x1 < mem 35 0)))) mem :=
  ct1Z rfl bIr (by decide) (Nat.le_of_ble_eq_true rfl) (rg_X4_isChild_0 ⟨fun c => ⟨by rw [bIf (by omega)], rfl⟩, fun c => ⟨fun d => ⟨by rw [bIf (by omega)], rfl⟩, fun d => ⟨by rw [bIt (by omega)], rfl⟩⟩⟩)
theorem ct_X4_at (h : 0 ≤ x0 ∧ x0 < 8 ∧ 0 ≤ x1 ∧ x1 < 14) : Ct1 S mX4_at [Iq x0, Iq x1] mem (some (Iq (12 + 14 * x0 + x1))) mem :=
  ct1I rfl (by decide) (Nat.le_of_ble_eq_true rfl) (rg_X4_at_0 ⟨by omega, by omega, by omega, rfl, rfl⟩)
theorem ct_X4_its (h : 0 ≤ x1 ∧ x1 < 8 ∧ 0 ≤ x2 ∧ x2 < 14) : Ct1 S mX4_its [Aq 34, Iq x1, Iq x2] mem (some (Iq (mem 35 (12 + 14 * x1.toNat + x2.toNat)))) mem :=
  ct1I rfl (by decide) (Nat.le_of_ble_eq_true rfl) (rg_X4_its_0 ⟨by omega, by omega, by omega, by omega, by rw [show (12 + 14 * x1 + x2).toNat = 12 + 14 * x1.toNat + x2.toNat by omega], rfl⟩)
theorem ct_X4_becomes (h : 0 ≤ x1 ∧ x1 < 134) : Ct1 S mX4_becomes [Aq 34, Iq x1, Iq x2] mem (some (Iq (mem 35 x1.toNat))) (mup mem 35 x1.toNat x2) :=
  ct1I rfl (by decide) (Nat.le_of_ble_eq_true rfl) (rg_X4_becomes_0 ⟨h, h, rfl, rfl⟩)
theorem ct_X4_least : Ct1 S mX4_least [Iq x0, Iq x1] mem (some (Iq (min x0 x1))) mem :=
  ct1I rfl (by decide) (Nat.le_of_ble_eq_true rfl) (rg_X4_least_0 ⟨fun c => ⟨by rw [show min x0 x1 = x1 by omega], rfl⟩, fun c => ⟨by rw [show min x0 x1 = x0 by omega], rfl⟩⟩)
theorem ct_X4_greatest : Ct1 S mX4_greatest [Iq x0, Iq x1] mem (some (Iq (max x0 x1))) mem :=
  ct1I rfl (by decide) (Nat.le_of_ble_eq_true rfl) (rg_X4_greatest_0 ⟨fun c => ⟨by rw [show max x0 x1 = x1 by omega], rfl⟩, fun c => ⟨by rw [show max x0 x1 = x0 by omega], rfl⟩⟩)
end LF

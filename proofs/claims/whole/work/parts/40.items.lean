/-! ===== items ===== -/
section T4
variable {S : Sx} {mem M : Zm} {L : Nat} {T : Nat → Int} {A : Nat → Int}
def nx (L : Nat) (T : Nat → Int) (p : Nat) : Nat := tkP L T (tkE L T p)
theorem nx_in (hT : okT L T) {p : Nat} (hp : p ≤ L) : p ≤ nx L T p ∧ nx L T p ≤ L := by
  obtain ⟨a, b⟩ := tkE_in hT hp
  obtain ⟨c, d, _⟩ := tkP_spec hT b
  unfold nx
  omega
def nmB (L : Nat) (T : Nat → Int) (p : Nat) (lo hi : Int) : Bool := decide (tkS L T p = 2 ∧ lo ≤ tkV L T p ∧ tkV L T p ≤ hi)
abbrev RS := Bool × (Nat → Int) × Nat
def phS (L : Nat) (T : Nat → Int) (A : Nat → Int) (p : Nat) (c : Bool) (i : Nat) (lo hi : Int) : RS :=
  if c = true then (if nmB L T (nx L T p) lo hi = true then (true, up A i (tkV L T (nx L T p)), nx L T (nx L T p)) else (false, A, nx L T p)) else (true, A, p)
/-- what the reader leaves as it is -/
def FX (a b : Zm) : Prop := ∀ o, o ≠ 22 → ¬ (8 ≤ o ∧ o ≤ 14) → b o = a o
theorem FX.tr {a b c : Zm} (h : FX a b) (g : FX b c) : FX a c := fun o p q => (g o p q).trans (h o p q)
def FM (a b : Zm) : Prop := (∀ o, o ≠ 34 → o ≠ 35 → b o = a o) ∧ ∀ s, ¬ (13 ≤ s ∧ s ≤ 17) → b 34 s = a 34 s
theorem FM.tr {a b c : Zm} (h : FM a b) (g : FM b c) : FM a c := ⟨fun o p q => (g.1 o p q).trans (h.1 o p q), fun s p => (g.2 s p).trans (h.2 s p)⟩
theorem FM.rf {a : Zm} : FM a a := ⟨fun _ _ _ => rfl, fun _ _ => rfl⟩
def Xs (L : Nat) (T : Nat → Int) (M : Zm) (A : Nat → Int) (p : Nat) : Prop := XTk L T M p ∧ XR M 8 A
def Ms (L : Nat) (T : Nat → Int) (M : Zm) (A : Nat → Int) (p : Nat) : Prop := MTk L T M p ∧ M 35 = A
def XO (S : Sx) (L : Nat) (T : Nat → Int) (y : MD) (av : List PV) (M : Zm) (r : RS) : Prop := ∃ m2, Ct1 S y av M (some (Iq (bI (r.1 = true)))) m2 ∧ Xs L T m2 r.2.1 r.2.2 ∧ FX M m2
def MO (S : Sx) (L : Nat) (T : Nat → Int) (y : MD) (av : List PV) (M : Zm) (r : RS) : Prop := ∃ m2, Ct1 S y av M (some (Iq (bI (r.1 = true)))) m2 ∧ Ms L T m2 r.2.1 r.2.2 ∧ FM M m2 ∧ (r.1 = false → m2 34 17 = (r.2.2 : Int))
theorem xs_next (hT : okT L T) {p : Nat} (hp : p ≤ L) (h : Xs L T M A p) : ∃ m2, Ct1 S mX2_nextToken [Aq 22] M none m2 ∧ Xs L T m2 A (nx L T p) ∧ FX M m2 := by
  obtain ⟨⟨h1, h2, h3, h4⟩, h5⟩ := h
  obtain ⟨m2, a, b, c⟩ := xt_next (S := S) hT h1 (tkE_in hT hp).2 h3
  exact ⟨m2, a, ⟨b, h5.other (fun o x y => c o (by omega))⟩, fun o x y => c o x⟩
theorem ms_next (hT : okT L T) {p : Nat} (hp : p ≤ L) (h : Ms L T M A p) : ∃ m2, Ct1 S mX4_nextToken [Aq 34] M none m2 ∧ Ms L T m2 A (nx L T p) ∧ FM M m2 := by
  obtain ⟨⟨h1, h2, h3, h4, h6⟩, h5⟩ := h
  obtain ⟨m2, a, b, c, d⟩ := ct_X4_next (S := S) hT h1 (tkE_in hT hp).2 h4
  exact ⟨m2, a, ⟨b, by rw [c 35 (by omega)]; exact h5⟩, fun o x y => c o x, fun s x => d s (by omega)⟩
theorem xs_num {p : Nat} (h : Xs L T M A p) {lo hi : Int} : Ct1 S mX2_isNumber [Aq 22, Iq lo, Iq hi] M (some (Iq (bI (nmB L T p lo hi = true)))) M := by
  obtain ⟨⟨h1, h2, h3, h4, h5, h6⟩, _⟩ := h
  refine ct1Z rfl (bI_in _) (by decide) (Nat.le_of_ble_eq_true rfl) (rg_X2_isNumber_0 ?_)
  rw [h4]
  unfold nmB
  refine ⟨fun z => ?_, fun z => ⟨by rw [bIf (fun w => z (of_decide_eq_true w).1)], rfl⟩⟩
  rw [h6 z]
  exact ⟨fun z1 => ⟨by rw [bIf (fun w => by have := of_decide_eq_true w; omega)], rfl⟩, fun z1 => ⟨fun z2 => ⟨by rw [bIf (fun w => by have := of_decide_eq_true w; omega)], rfl⟩, fun z2 => ⟨by rw [bIt (decide_eq_true (by omega))], rfl⟩⟩⟩
theorem ms_num {p : Nat} (h : Ms L T M A p) {lo hi : Int} : ∃ m2, Ct1 S mX4_isNumber [Aq 34, Iq lo, Iq hi] M (some (Iq (bI (nmB L T p lo hi = true)))) m2 ∧ Ms L T m2 A p ∧ FM M m2 ∧ (nmB L T p lo hi = false → m2 34 17 = (p : Int)) := by
  have hh := h
  obtain ⟨⟨h1, h2, h3, h4, h6⟩, h5⟩ := h
  have bad : nmB L T p lo hi = false → Ct1 S mX4_isNumber [Aq 34, Iq lo, Iq hi] M (some (Iq 0)) (mup M 34 17 (p : Int)) ∧ Ms L T (mup M 34 17 (p : Int)) A p ∧ FM M (mup M 34 17 (p : Int)) ∧ mup M 34 17 (p : Int) 34 17 = (p : Int) := fun e => by
    have e := of_decide_eq_false e
    refine ⟨ct1Z rfl (by omega) (by decide) (Nat.le_of_ble_eq_true rfl) (rg_X4_isNumber_0 ?_), ⟨⟨h1.up (by omega), by rw [mup_ne (by omega)]; exact h2, by rw [mup_ne (by omega)]; exact h3, by rw [mup_ne (by omega)]; exact h4, fun z => by rw [mup_ne (by omega)]; exact h6 z⟩, by rw [mup_other 35 (by omega)]; exact h5⟩, ⟨fun o x y => mup_other o x, fun s x => mup_ne (by omega)⟩, mup_at _ _ _ _⟩
    rw [h2, h3]
    refine ⟨fun z => ?_, fun z => ⟨rfl, rfl⟩⟩
    rw [h6 z]
    exact ⟨fun z1 => absurd ⟨z, z1⟩ e, fun _ => ⟨rfl, rfl⟩⟩
  cases q : nmB L T p lo hi
  · obtain ⟨a, b, c, d⟩ := bad q
    exact ⟨_, a, b, c, fun _ => d⟩
  · refine ⟨M, ct1Z rfl (bI_in _) (by decide) (Nat.le_of_ble_eq_true rfl) (rg_X4_isNumber_0 ?_), hh, FM.rf, fun z => absurd z (by decide)⟩
    have q := of_decide_eq_true q
    rw [h2, h6 q.1]
    exact ⟨fun _ => ⟨fun _ => ⟨rfl, rfl⟩, fun z => absurd q.2 z⟩, fun z => absurd q.1 z⟩
theorem xs_perh (hT : okT L T) {p : Nat} (hp : p ≤ L) (h : Xs L T M A p) {k w : Nat} (hk : k < 8) (hw : w < 6) {K hi : Int} {c : Bool} (hc : tkW L T p = K ↔ c = true) : XO S L T mX2_readPerhaps [Aq 22, Aq 8, Iq (k : Int), Jq K, Iq (w : Int), Iq hi] M (phS L T A p c (12 + 14 * k + w) 0 hi) := by
  have e5 : M 22 5 = tkW L T p := h.1.2.2.2.2.1
  unfold XO phS
  cases c
  · refine ⟨M, ct1Z rfl (bI_in _) (by decide) (Nat.le_of_ble_eq_true rfl) (rg_X2_readPerhaps_0 isR8 ?_), h, fun _ _ _ => rfl⟩
    rw [e5]
    refine ⟨fun z => ?_, fun _ => ⟨rfl, rfl⟩⟩
    have : tkW L T p = K := by unfold cmpL at z; split at z; exact absurd z (by decide); split at z; assumption; exact absurd z (by decide)
    exact absurd (hc.1 this) (by decide)
  · rw [if_pos rfl]
    have eK : cmpL (M 22 5) K = 0 := by rw [e5, hc.2 rfl]; unfold cmpL; rw [if_neg (by omega), if_pos rfl]
    obtain ⟨m1, a1, a2, a3⟩ := xs_next (S := S) hT hp h
    have n1 := xs_num (S := S) a2 (lo := 0) (hi := hi)
    have hp1 := nx_in hT hp
    cases q : nmB L T (nx L T p) 0 hi
    · rw [if_neg (by decide)]
      rw [q] at n1
      exact ⟨m1, ct1Z rfl (bI_in _) (by decide) (Nat.le_of_ble_eq_true rfl) (rg_X2_readPerhaps_0 isR8 ⟨fun _ => ⟨m1, a1, _, _, n1, fun _ => ⟨rfl, rfl⟩, fun z => absurd rfl z⟩, fun z => absurd eK z⟩), a2, a3⟩
    · rw [if_pos rfl]
      rw [q] at n1
      have e6 : m1 22 6 = tkV L T (nx L T p) := a2.1.2.2.2.2.2 (of_decide_eq_true q).1
      have x2 : Xs L T (mup m1 (8 + 2) (6 * k + w) (tkV L T (nx L T p))) (up A (12 + 14 * k + w) (tkV L T (nx L T p))) (nx L T p) := by
        obtain ⟨⟨b1, b2⟩, b3⟩ := a2
        refine ⟨⟨⟨?_, fun i hi => ?_⟩, ?_⟩, b3.fact hk hw _⟩
        · rw [mup_other 22 (by omega)]; exact b1.1
        · rw [mup_other 23 (by omega)]; exact b1.2 i hi
        · rw [mup_other 22 (by omega)]; exact b2
      obtain ⟨m2, c1, c2, c3⟩ := xs_next (S := S) hT hp1.2 x2
      refine ⟨m2, ct1Z rfl (bI_in _) (by decide) (Nat.le_of_ble_eq_true rfl) (rg_X2_readPerhaps_0 isR8 ⟨fun _ => ⟨m1, a1, _, _, n1, fun z => absurd z (by decide), fun _ => ⟨by omega, m2, ?_, rfl, rfl⟩⟩, fun z => absurd eK z⟩), c2, fun o x y => ?_⟩
      · rw [Int.toNat_natCast, Int.toNat_natCast, e6]; exact c1
      · rw [c3 o x y, mup_other o (by omega)]; exact a3 o x y
theorem ms_perh (hT : okT L T) {p : Nat} (hp : p ≤ L) (h : Ms L T M A p) {i : Nat} (h134 : i < 134) {lo hi : Int} {c : Bool} : MO S L T mX4_perhaps [Aq 34, Iq (bI (c = true)), Iq (i : Int), Iq lo, Iq hi] M (phS L T A p c i lo hi) := by
  unfold MO phS
  cases c
  · exact ⟨M, ct1Z rfl (bI_in _) (by decide) (Nat.le_of_ble_eq_true rfl) (rg_X4_perhaps_0 ⟨fun _ => ⟨rfl, rfl⟩, fun z => absurd rfl z⟩), h, FM.rf, fun z => absurd (show true = false from z) (by decide)⟩
  · rw [if_pos rfl]
    obtain ⟨m1, a1, a2, a3⟩ := ms_next (S := S) hT hp h
    obtain ⟨m2, n1, n2, n3, n4⟩ := ms_num (S := S) a2 (lo := lo) (hi := hi)
    have hp1 := nx_in hT hp
    cases q : nmB L T (nx L T p) lo hi
    · rw [if_neg (by decide)]
      rw [q] at n1
      exact ⟨m2, ct1Z rfl (bI_in _) (by decide) (Nat.le_of_ble_eq_true rfl) (rg_X4_perhaps_0 ⟨fun z => absurd z (by decide), fun _ => ⟨m1, a1, _, _, n1, fun _ => ⟨rfl, rfl⟩, fun z => absurd rfl z⟩⟩), n2, a3.tr n3, fun _ => n4 q⟩
    · rw [if_pos rfl]
      rw [q] at n1
      have e6 : m2 34 16 = tkV L T (nx L T p) := n2.1.2.2.2.2 (of_decide_eq_true q).1
      have x2 : Ms L T (mup m2 35 i (tkV L T (nx L T p))) (up A i (tkV L T (nx L T p))) (nx L T p) := by
        obtain ⟨⟨b1, b2⟩, b3⟩ := n2
        refine ⟨⟨⟨?_, fun j hj => ?_⟩, ?_⟩, by rw [mup_up, b3]⟩
        · rw [mup_other 34 (by omega)]; exact b1.1
        · rw [mup_other 40 (by omega)]; exact b1.2 j hj
        · rw [mup_other 34 (by omega)]; exact b2
      obtain ⟨m3, c1, c2, c3⟩ := ms_next (S := S) hT hp1.2 x2
      have f2 : FM m2 (mup m2 35 i (tkV L T (nx L T p))) := ⟨fun o x y => mup_other o y, fun s _ => by rw [mup_other 34 (by omega)]⟩
      refine ⟨m3, ct1Z rfl (bI_in _) (by decide) (Nat.le_of_ble_eq_true rfl) (rg_X4_perhaps_0 ⟨fun z => absurd z (by decide), fun _ => ⟨m1, a1, _, _, n1, fun z => absurd z (by decide), fun _ => ⟨by omega, m3, ?_, rfl, rfl⟩⟩⟩), c2, ((a3.tr n3).tr f2).tr c3, fun z => absurd (show true = false from z) (by decide)⟩
      rw [Int.toNat_natCast, e6]; exact c1
/-! words on the model's side -/
theorem ms_has3 (hT : okT L T) {p : Nat} (hp : p ≤ L) (h : Ms L T M A p) {i : Nat} (hi : i ≤ 10) {a b c : Int} : Ct1 S mX4_has3 [Aq 34, Iq (i : Int), Iq a, Iq b, Iq c] M (some (Iq (bI (bt L T (p + i) = a ∧ bt L T (p + (i + 1)) = b ∧ bt L T (p + (i + 2)) = c)))) M := by
  obtain ⟨⟨h1, h2, h3, h4, h6⟩, h5⟩ := h
  have hl := hT.1
  refine ct1Z rfl (bI_in _) (by decide) (Nat.le_of_ble_eq_true rfl) (rg_X4_has3_0 ?_)
  have e0 : (p : Int) + (i : Int) = ((p + i : Nat) : Int) := by omega
  have e1 : ((p + i : Nat) : Int) + 1 = ((p + (i + 1) : Nat) : Int) := by omega
  have e2 : ((p + i : Nat) : Int) + 2 = ((p + (i + 2) : Nat) : Int) := by omega
  rw [h3, h1.1, e0, e1, e2, tm_bt h1, tm_bt h1, tm_bt h1]
  exact ⟨by omega, by omega, fun z => ⟨by omega, by omega, by omega, fun z1 => ⟨by omega, by omega, by omega, fun z2 => ⟨by rw [bIt ⟨z, z1, z2⟩], rfl⟩, fun z2 => ⟨by rw [bIf (fun w => z2 w.2.2)], rfl⟩⟩, fun z1 => ⟨by rw [bIf (fun w => z1 w.2.1)], rfl⟩⟩, fun z => ⟨by rw [bIf (fun w => z w.1)], rfl⟩⟩
theorem ms_len (hT : okT L T) {p : Nat} (hp : p ≤ L) (h : Ms L T M A p) {n : Nat} : (M 34 13 = 1 ∧ M 34 15 - M 34 14 = (n : Int)) ↔ (tkS L T p = 1 ∧ tkE L T p - p = n) := by
  obtain ⟨⟨h1, h2, h3, h4, h6⟩, h5⟩ := h
  have := tkE_in hT hp
  rw [h2, h3, h4]
  omega
theorem ms_in (hT : okT L T) {p : Nat} (hp : p ≤ L) (h : Ms L T M A p) : in32 (M 34 15 - M 34 14) := by
  obtain ⟨⟨h1, h2, h3, h4, h6⟩, h5⟩ := h
  have := tkE_in hT hp
  have := hT.1
  rw [h3, h4]
  omega
theorem ms_five (hT : okT L T) {p : Nat} (hp : p ≤ L) (h : Ms L T M A p) {a b c d e : Int} : Ct1 S mX4_isFive [Aq 34, Iq a, Iq b, Iq c, Iq d, Iq e] M (some (Iq (bI (w5 L T p a b c d e)))) M := by
  have hl := ms_len hT hp h (n := 5)
  refine ct1Z rfl (bI_in _) (by decide) (Nat.le_of_ble_eq_true rfl) (rg_X4_isFive_0 ⟨ms_in hT hp h, fun z => ⟨_, _, ms_has3 hT hp h (i := 0) (by omega), fun z1 => ⟨?_, rfl⟩, fun z1 => ⟨_, _, ms_has3 hT hp h (i := 2) (by omega), fun z2 => ⟨?_, rfl⟩, fun z2 => ⟨?_, rfl⟩⟩⟩, fun z => ⟨by rw [bIf (fun w => z (hl.2 ⟨w.1, w.2.1⟩))], rfl⟩⟩)
  · rw [bIf (fun w => bI0.1 z1 ⟨w.2.2.1, w.2.2.2.1, w.2.2.2.2.1⟩)]
  · rw [bIf (fun w => bI0.1 z2 ⟨w.2.2.2.2.1, w.2.2.2.2.2.1, w.2.2.2.2.2.2⟩)]
  · have y := hl.1 z
    have y1 := bI1.1 z1
    have y2 := bI1.1 z2
    rw [bIt ⟨y.1, y.2, y1.1, y1.2.1, y1.2.2, y2.2.1, y2.2.2⟩]
theorem ms_four (hT : okT L T) {p : Nat} (hp : p ≤ L) (h : Ms L T M A p) {a b c d : Int} : Ct1 S mX4_isFour [Aq 34, Iq a, Iq b, Iq c, Iq d] M (some (Iq (bI (w4 L T p a b c d)))) M := by
  have hl := ms_len hT hp h (n := 4)
  refine ct1Z rfl (bI_in _) (by decide) (Nat.le_of_ble_eq_true rfl) (rg_X4_isFour_0 ⟨ms_in hT hp h, fun z => ⟨_, _, ms_has3 hT hp h (i := 0) (by omega), fun z1 => ⟨?_, rfl⟩, fun z1 => ⟨_, _, ms_has3 hT hp h (i := 1) (by omega), fun z2 => ⟨?_, rfl⟩, fun z2 => ⟨?_, rfl⟩⟩⟩, fun z => ⟨by rw [bIf (fun w => z (hl.2 ⟨w.1, w.2.1⟩))], rfl⟩⟩)
  · rw [bIf (fun w => bI0.1 z1 ⟨w.2.2.1, w.2.2.2.1, w.2.2.2.2.1⟩)]
  · rw [bIf (fun w => bI0.1 z2 ⟨w.2.2.2.1, w.2.2.2.2.1, w.2.2.2.2.2⟩)]
  · have y := hl.1 z
    have y1 := bI1.1 z1
    have y2 := bI1.1 z2
    rw [bIt ⟨y.1, y.2, y1.1, y1.2.1, y1.2.2, y2.2.2⟩]
theorem ms_six (hT : okT L T) {p : Nat} (hp : p ≤ L) (h : Ms L T M A p) {a b c d e f : Int} : Ct1 S mX4_isSix [Aq 34, Iq a, Iq b, Iq c, Iq d, Iq e, Iq f] M (some (Iq (bI (w6 L T p a b c d e f)))) M := by
  have hl := ms_len hT hp h (n := 6)
  refine ct1Z rfl (bI_in _) (by decide) (Nat.le_of_ble_eq_true rfl) (rg_X4_isSix_0 ⟨ms_in hT hp h, fun z => ⟨_, _, ms_has3 hT hp h (i := 0) (by omega), fun z1 => ⟨?_, rfl⟩, fun z1 => ⟨_, _, ms_has3 hT hp h (i := 3) (by omega), fun z2 => ⟨?_, rfl⟩, fun z2 => ⟨?_, rfl⟩⟩⟩, fun z => ⟨by rw [bIf (fun w => z (hl.2 ⟨w.1, w.2.1⟩))], rfl⟩⟩)
  · rw [bIf (fun w => bI0.1 z1 ⟨w.2.2.1, w.2.2.2.1, w.2.2.2.2.1⟩)]
  · rw [bIf (fun w => bI0.1 z2 ⟨w.2.2.2.2.2.1, w.2.2.2.2.2.2.1, w.2.2.2.2.2.2.2⟩)]
  · have y := hl.1 z
    have y1 := bI1.1 z1
    have y2 := bI1.1 z2
    rw [bIt ⟨y.1, y.2, y1.1, y1.2.1, y1.2.2, y2.1, y2.2.1, y2.2.2⟩]
/-- which kind's name stands there -/
def kdV (L : Nat) (T : Nat → Int) (p : Nat) : Int :=
  if w5 L T p 99 104 105 108 100 then 0 else if w3 L T p 115 108 121 then 1 else if w6 L T p 115 108 111 112 112 121 then 2 else if w5 L T p 115 101 118 101 110 then 3 else if w4 L T p 108 97 122 121 then 4 else if w6 L T p 104 111 110 101 115 116 then 5 else if w6 L T p 115 101 108 108 101 114 then 6 else -1
theorem kdV_in (p : Nat) : -1 ≤ kdV L T p ∧ kdV L T p ≤ 6 := by
  unfold kdV
  split
  · omega
  · split
    · omega
    · split
      · omega
      · split
        · omega
        · split
          · omega
          · split
            · omega
            · split <;> omega
theorem ms_kind (hT : okT L T) {p : Nat} (hp : p ≤ L) (h : Ms L T M A p) : Ct1 S mX4_kindHere [Aq 34] M (some (Iq (kdV L T p))) M := by
  have hl := ms_len hT hp h (n := 3)
  have tail : ¬ w5 L T p 99 104 105 108 100 → ¬ w3 L T p 115 108 121 → ∃ (v31 : Int) (m32 : Zm), Ct1 S mX4_isSix [Aq 34, Iq 115, Iq 108, Iq 111, Iq 112, Iq 112, Iq 121] M (some (Iq v31)) m32 ∧ ((((v31 = 0) → ((∃ (v35 : Int) (m36 : Zm), Ct1 S mX4_isFive [Aq 34, Iq 115, Iq 101, Iq 118, Iq 101, Iq 110] m32 (some (Iq v35)) m36 ∧ ((((v35 = 0) → ((∃ (v39 : Int) (m40 : Zm), Ct1 S mX4_isFour [Aq 34, Iq 108, Iq 97, Iq 122, Iq 121] m36 (some (Iq v39)) m40 ∧ ((((v39 = 0) → ((∃ (v43 : Int) (m44 : Zm), Ct1 S mX4_isSix [Aq 34, Iq 104, Iq 111, Iq 110, Iq 101, Iq 115, Iq 116] m40 (some (Iq v43)) m44 ∧ ((((v43 = 0) → ((∃ (v47 : Int) (m48 : Zm), Ct1 S mX4_isSix [Aq 34, Iq 115, Iq 101, Iq 108, Iq 108, Iq 101, Iq 114] m44 (some (Iq v47)) m48 ∧ ((((v47 = 0) → ((fun r m => r = some (Iq (kdV L T p)) ∧ m = M) (some (Iq (-1))) m48)) ∧ (¬ (v47 = 0) → ((fun r m => r = some (Iq (kdV L T p)) ∧ m = M) (some (Iq 6)) m48))))))) ∧ (¬ (v43 = 0) → ((fun r m => r = some (Iq (kdV L T p)) ∧ m = M) (some (Iq 5)) m44))))))) ∧ (¬ (v39 = 0) → ((fun r m => r = some (Iq (kdV L T p)) ∧ m = M) (some (Iq 4)) m40))))))) ∧ (¬ (v35 = 0) → ((fun r m => r = some (Iq (kdV L T p)) ∧ m = M) (some (Iq 3)) m36))))))) ∧ (¬ (v31 = 0) → ((fun r m => r = some (Iq (kdV L T p)) ∧ m = M) (some (Iq 2)) m32)))) := fun n0 n1 => by
    refine ⟨_, _, ms_six hT hp h, fun z2 => ⟨_, _, ms_five hT hp h, fun z3 => ⟨_, _, ms_four hT hp h, fun z4 => ⟨_, _, ms_six hT hp h, fun z5 => ⟨_, _, ms_six hT hp h, fun z6 => ⟨?_, rfl⟩, fun z6 => ⟨?_, rfl⟩⟩, fun z5 => ⟨?_, rfl⟩⟩, fun z4 => ⟨?_, rfl⟩⟩, fun z3 => ⟨?_, rfl⟩⟩, fun z2 => ⟨?_, rfl⟩⟩
    · unfold kdV; rw [if_neg n0, if_neg n1, if_neg (bI0.1 z2), if_neg (bI0.1 z3), if_neg (bI0.1 z4), if_neg (bI0.1 z5), if_neg (bI0.1 z6)]
    · unfold kdV; rw [if_neg n0, if_neg n1, if_neg (bI0.1 z2), if_neg (bI0.1 z3), if_neg (bI0.1 z4), if_neg (bI0.1 z5), if_pos (bI1.1 z6)]
    · unfold kdV; rw [if_neg n0, if_neg n1, if_neg (bI0.1 z2), if_neg (bI0.1 z3), if_neg (bI0.1 z4), if_pos (bI1.1 z5)]
    · unfold kdV; rw [if_neg n0, if_neg n1, if_neg (bI0.1 z2), if_neg (bI0.1 z3), if_pos (bI1.1 z4)]
    · unfold kdV; rw [if_neg n0, if_neg n1, if_neg (bI0.1 z2), if_pos (bI1.1 z3)]
    · unfold kdV; rw [if_neg n0, if_neg n1, if_pos (bI1.1 z2)]
  refine ct1I rfl (by decide) (Nat.le_of_ble_eq_true rfl) (rg_X4_kindHere_0 ⟨_, _, ms_five hT hp h, fun z0 => ⟨ms_in hT hp h, fun z => ⟨_, _, ms_has3 hT hp h (i := 0) (by omega), fun z1 => tail (bI0.1 z0) (fun w => bI0.1 z1 ⟨w.2.2.1, w.2.2.2.1, w.2.2.2.2⟩), fun z1 => ⟨?_, rfl⟩⟩, fun z => tail (bI0.1 z0) (fun w => z (hl.2 ⟨w.1, w.2.1⟩))⟩, fun z0 => ⟨?_, rfl⟩⟩)
  · have y := hl.1 z
    have y1 := bI1.1 z1
    unfold kdV
    rw [if_neg (bI0.1 z0), if_pos ⟨y.1, y.2, y1.1, y1.2.1, y1.2.2⟩]
  · unfold kdV; rw [if_pos (bI1.1 z0)]
end T4

/-! ===== words ===== -/
section T3
variable {S : Sx} {mem M : Zm} {L : Nat} {T : Nat → Int}
abbrev w3 (L : Nat) (T : Nat → Int) (p : Nat) (a b c : Int) : Prop := tkS L T p = 1 ∧ tkE L T p - p = 3 ∧ bt L T (p + 0) = a ∧ bt L T (p + 1) = b ∧ bt L T (p + 2) = c
abbrev w4 (L : Nat) (T : Nat → Int) (p : Nat) (a b c d : Int) : Prop := tkS L T p = 1 ∧ tkE L T p - p = 4 ∧ bt L T (p + 0) = a ∧ bt L T (p + 1) = b ∧ bt L T (p + 2) = c ∧ bt L T (p + 3) = d
abbrev w5 (L : Nat) (T : Nat → Int) (p : Nat) (a b c d e : Int) : Prop := tkS L T p = 1 ∧ tkE L T p - p = 5 ∧ bt L T (p + 0) = a ∧ bt L T (p + 1) = b ∧ bt L T (p + 2) = c ∧ bt L T (p + 3) = d ∧ bt L T (p + 4) = e
abbrev w6 (L : Nat) (T : Nat → Int) (p : Nat) (a b c d e f : Int) : Prop := tkS L T p = 1 ∧ tkE L T p - p = 6 ∧ bt L T (p + 0) = a ∧ bt L T (p + 1) = b ∧ bt L T (p + 2) = c ∧ bt L T (p + 3) = d ∧ bt L T (p + 4) = e ∧ bt L T (p + 5) = f
abbrev w8 (L : Nat) (T : Nat → Int) (p : Nat) (a b c d e f g h : Int) : Prop := tkS L T p = 1 ∧ tkE L T p - p = 8 ∧ bt L T (p + 0) = a ∧ bt L T (p + 1) = b ∧ bt L T (p + 2) = c ∧ bt L T (p + 3) = d ∧ bt L T (p + 4) = e ∧ bt L T (p + 5) = f ∧ bt L T (p + 6) = g ∧ bt L T (p + 7) = h
theorem wd_child (hT : okT L T) {p : Nat} (hp : p ≤ L) : tkW L T p = 426953501796 ↔ w5 L T p 99 104 105 108 100 := by
  unfold tkW w5
  by_cases s : tkS L T p = 1 ∧ tkE L T p - p ≤ 8
  · rw [if_pos s]
    have le := fun k (hk : k < tkE L T p - p) => tk_lt hT hp s.1 (k := k) hk
    have bk : ∀ k, k < tkE L T p - p → bt L T (p + k) = T (p + k) := fun k hk => if_pos (le k hk).1
    obtain ⟨n, en⟩ : ∃ n, n = tkE L T p - p := ⟨_, rfl⟩
    rw [← en] at le bk s ⊢
    have h8 : n = 0 ∨ n = 1 ∨ n = 2 ∨ n = 3 ∨ n = 4 ∨ n = 5 ∨ n = 6 ∨ n = 7 ∨ n = 8 := by omega
    rcases h8 with e | e | e | e | e | e | e | e | e
    · rw [show wN8 T p n = (0 : Int) from by rw [e]; rfl]; omega
    · have l0 := le 0 (by omega); rw [show wN8 T p n = (256 * (0 : Int) + T (p + 0)) from by rw [e]; rfl]; omega
    · have l0 := le 0 (by omega); have l1 := le 1 (by omega); rw [show wN8 T p n = (256 * (256 * (0 : Int) + T (p + 0)) + T (p + 1)) from by rw [e]; rfl]; omega
    · have l0 := le 0 (by omega); have l1 := le 1 (by omega); have l2 := le 2 (by omega); rw [show wN8 T p n = (256 * (256 * (256 * (0 : Int) + T (p + 0)) + T (p + 1)) + T (p + 2)) from by rw [e]; rfl]; omega
    · have l0 := le 0 (by omega); have l1 := le 1 (by omega); have l2 := le 2 (by omega); have l3 := le 3 (by omega); rw [show wN8 T p n = (256 * (256 * (256 * (256 * (0 : Int) + T (p + 0)) + T (p + 1)) + T (p + 2)) + T (p + 3)) from by rw [e]; rfl]; omega
    · have l0 := le 0 (by omega); have l1 := le 1 (by omega); have l2 := le 2 (by omega); have l3 := le 3 (by omega); have l4 := le 4 (by omega); have b0 := bk 0 (by omega); have b1 := bk 1 (by omega); have b2 := bk 2 (by omega); have b3 := bk 3 (by omega); have b4 := bk 4 (by omega); rw [show wN8 T p n = (256 * (256 * (256 * (256 * (256 * (0 : Int) + T (p + 0)) + T (p + 1)) + T (p + 2)) + T (p + 3)) + T (p + 4)) from by rw [e]; rfl]; omega
    · have l0 := le 0 (by omega); have l1 := le 1 (by omega); have l2 := le 2 (by omega); have l3 := le 3 (by omega); have l4 := le 4 (by omega); have l5 := le 5 (by omega); rw [show wN8 T p n = (256 * (256 * (256 * (256 * (256 * (256 * (0 : Int) + T (p + 0)) + T (p + 1)) + T (p + 2)) + T (p + 3)) + T (p + 4)) + T (p + 5)) from by rw [e]; rfl]; omega
    · have l0 := le 0 (by omega); have l1 := le 1 (by omega); have l2 := le 2 (by omega); have l3 := le 3 (by omega); have l4 := le 4 (by omega); have l5 := le 5 (by omega); have l6 := le 6 (by omega); rw [show wN8 T p n = (256 * (256 * (256 * (256 * (256 * (256 * (256 * (0 : Int) + T (p + 0)) + T (p + 1)) + T (p + 2)) + T (p + 3)) + T (p + 4)) + T (p + 5)) + T (p + 6)) from by rw [e]; rfl]; omega
    · have l0 := le 0 (by omega); have l1 := le 1 (by omega); have l2 := le 2 (by omega); have l3 := le 3 (by omega); have l4 := le 4 (by omega); have l5 := le 5 (by omega); have l6 := le 6 (by omega); have l7 := le 7 (by omega); rw [show wN8 T p n = (256 * (256 * (256 * (256 * (256 * (256 * (256 * (256 * (0 : Int) + T (p + 0)) + T (p + 1)) + T (p + 2)) + T (p + 3)) + T (p + 4)) + T (p + 5)) + T (p + 6)) + T (p + 7)) from by rw [e]; rfl]; omega
  · rw [if_neg s]
    refine ⟨fun h => by omega, fun h => by omega⟩
theorem wd_sly (hT : okT L T) {p : Nat} (hp : p ≤ L) : tkW L T p = 7564409 ↔ w3 L T p 115 108 121 := by
  unfold tkW w3
  by_cases s : tkS L T p = 1 ∧ tkE L T p - p ≤ 8
  · rw [if_pos s]
    have le := fun k (hk : k < tkE L T p - p) => tk_lt hT hp s.1 (k := k) hk
    have bk : ∀ k, k < tkE L T p - p → bt L T (p + k) = T (p + k) := fun k hk => if_pos (le k hk).1
    obtain ⟨n, en⟩ : ∃ n, n = tkE L T p - p := ⟨_, rfl⟩
    rw [← en] at le bk s ⊢
    have h8 : n = 0 ∨ n = 1 ∨ n = 2 ∨ n = 3 ∨ n = 4 ∨ n = 5 ∨ n = 6 ∨ n = 7 ∨ n = 8 := by omega
    rcases h8 with e | e | e | e | e | e | e | e | e
    · rw [show wN8 T p n = (0 : Int) from by rw [e]; rfl]; omega
    · have l0 := le 0 (by omega); rw [show wN8 T p n = (256 * (0 : Int) + T (p + 0)) from by rw [e]; rfl]; omega
    · have l0 := le 0 (by omega); have l1 := le 1 (by omega); rw [show wN8 T p n = (256 * (256 * (0 : Int) + T (p + 0)) + T (p + 1)) from by rw [e]; rfl]; omega
    · have l0 := le 0 (by omega); have l1 := le 1 (by omega); have l2 := le 2 (by omega); have b0 := bk 0 (by omega); have b1 := bk 1 (by omega); have b2 := bk 2 (by omega); rw [show wN8 T p n = (256 * (256 * (256 * (0 : Int) + T (p + 0)) + T (p + 1)) + T (p + 2)) from by rw [e]; rfl]; omega
    · have l0 := le 0 (by omega); have l1 := le 1 (by omega); have l2 := le 2 (by omega); have l3 := le 3 (by omega); rw [show wN8 T p n = (256 * (256 * (256 * (256 * (0 : Int) + T (p + 0)) + T (p + 1)) + T (p + 2)) + T (p + 3)) from by rw [e]; rfl]; omega
    · have l0 := le 0 (by omega); have l1 := le 1 (by omega); have l2 := le 2 (by omega); have l3 := le 3 (by omega); have l4 := le 4 (by omega); rw [show wN8 T p n = (256 * (256 * (256 * (256 * (256 * (0 : Int) + T (p + 0)) + T (p + 1)) + T (p + 2)) + T (p + 3)) + T (p + 4)) from by rw [e]; rfl]; omega
    · have l0 := le 0 (by omega); have l1 := le 1 (by omega); have l2 := le 2 (by omega); have l3 := le 3 (by omega); have l4 := le 4 (by omega); have l5 := le 5 (by omega); rw [show wN8 T p n = (256 * (256 * (256 * (256 * (256 * (256 * (0 : Int) + T (p + 0)) + T (p + 1)) + T (p + 2)) + T (p + 3)) + T (p + 4)) + T (p + 5)) from by rw [e]; rfl]; omega
    · have l0 := le 0 (by omega); have l1 := le 1 (by omega); have l2 := le 2 (by omega); have l3 := le 3 (by omega); have l4 := le 4 (by omega); have l5 := le 5 (by omega); have l6 := le 6 (by omega); rw [show wN8 T p n = (256 * (256 * (256 * (256 * (256 * (256 * (256 * (0 : Int) + T (p + 0)) + T (p + 1)) + T (p + 2)) + T (p + 3)) + T (p + 4)) + T (p + 5)) + T (p + 6)) from by rw [e]; rfl]; omega
    · have l0 := le 0 (by omega); have l1 := le 1 (by omega); have l2 := le 2 (by omega); have l3 := le 3 (by omega); have l4 := le 4 (by omega); have l5 := le 5 (by omega); have l6 := le 6 (by omega); have l7 := le 7 (by omega); rw [show wN8 T p n = (256 * (256 * (256 * (256 * (256 * (256 * (256 * (256 * (0 : Int) + T (p + 0)) + T (p + 1)) + T (p + 2)) + T (p + 3)) + T (p + 4)) + T (p + 5)) + T (p + 6)) + T (p + 7)) from by rw [e]; rfl]; omega
  · rw [if_neg s]
    refine ⟨fun h => by omega, fun h => by omega⟩
theorem wd_sloppy (hT : okT L T) {p : Nat} (hp : p ≤ L) : tkW L T p = 126909563302009 ↔ w6 L T p 115 108 111 112 112 121 := by
  unfold tkW w6
  by_cases s : tkS L T p = 1 ∧ tkE L T p - p ≤ 8
  · rw [if_pos s]
    have le := fun k (hk : k < tkE L T p - p) => tk_lt hT hp s.1 (k := k) hk
    have bk : ∀ k, k < tkE L T p - p → bt L T (p + k) = T (p + k) := fun k hk => if_pos (le k hk).1
    obtain ⟨n, en⟩ : ∃ n, n = tkE L T p - p := ⟨_, rfl⟩
    rw [← en] at le bk s ⊢
    have h8 : n = 0 ∨ n = 1 ∨ n = 2 ∨ n = 3 ∨ n = 4 ∨ n = 5 ∨ n = 6 ∨ n = 7 ∨ n = 8 := by omega
    rcases h8 with e | e | e | e | e | e | e | e | e
    · rw [show wN8 T p n = (0 : Int) from by rw [e]; rfl]; omega
    · have l0 := le 0 (by omega); rw [show wN8 T p n = (256 * (0 : Int) + T (p + 0)) from by rw [e]; rfl]; omega
    · have l0 := le 0 (by omega); have l1 := le 1 (by omega); rw [show wN8 T p n = (256 * (256 * (0 : Int) + T (p + 0)) + T (p + 1)) from by rw [e]; rfl]; omega
    · have l0 := le 0 (by omega); have l1 := le 1 (by omega); have l2 := le 2 (by omega); rw [show wN8 T p n = (256 * (256 * (256 * (0 : Int) + T (p + 0)) + T (p + 1)) + T (p + 2)) from by rw [e]; rfl]; omega
    · have l0 := le 0 (by omega); have l1 := le 1 (by omega); have l2 := le 2 (by omega); have l3 := le 3 (by omega); rw [show wN8 T p n = (256 * (256 * (256 * (256 * (0 : Int) + T (p + 0)) + T (p + 1)) + T (p + 2)) + T (p + 3)) from by rw [e]; rfl]; omega
    · have l0 := le 0 (by omega); have l1 := le 1 (by omega); have l2 := le 2 (by omega); have l3 := le 3 (by omega); have l4 := le 4 (by omega); rw [show wN8 T p n = (256 * (256 * (256 * (256 * (256 * (0 : Int) + T (p + 0)) + T (p + 1)) + T (p + 2)) + T (p + 3)) + T (p + 4)) from by rw [e]; rfl]; omega
    · have l0 := le 0 (by omega); have l1 := le 1 (by omega); have l2 := le 2 (by omega); have l3 := le 3 (by omega); have l4 := le 4 (by omega); have l5 := le 5 (by omega); have b0 := bk 0 (by omega); have b1 := bk 1 (by omega); have b2 := bk 2 (by omega); have b3 := bk 3 (by omega); have b4 := bk 4 (by omega); have b5 := bk 5 (by omega); rw [show wN8 T p n = (256 * (256 * (256 * (256 * (256 * (256 * (0 : Int) + T (p + 0)) + T (p + 1)) + T (p + 2)) + T (p + 3)) + T (p + 4)) + T (p + 5)) from by rw [e]; rfl]; omega
    · have l0 := le 0 (by omega); have l1 := le 1 (by omega); have l2 := le 2 (by omega); have l3 := le 3 (by omega); have l4 := le 4 (by omega); have l5 := le 5 (by omega); have l6 := le 6 (by omega); rw [show wN8 T p n = (256 * (256 * (256 * (256 * (256 * (256 * (256 * (0 : Int) + T (p + 0)) + T (p + 1)) + T (p + 2)) + T (p + 3)) + T (p + 4)) + T (p + 5)) + T (p + 6)) from by rw [e]; rfl]; omega
    · have l0 := le 0 (by omega); have l1 := le 1 (by omega); have l2 := le 2 (by omega); have l3 := le 3 (by omega); have l4 := le 4 (by omega); have l5 := le 5 (by omega); have l6 := le 6 (by omega); have l7 := le 7 (by omega); rw [show wN8 T p n = (256 * (256 * (256 * (256 * (256 * (256 * (256 * (256 * (0 : Int) + T (p + 0)) + T (p + 1)) + T (p + 2)) + T (p + 3)) + T (p + 4)) + T (p + 5)) + T (p + 6)) + T (p + 7)) from by rw [e]; rfl]; omega
  · rw [if_neg s]
    refine ⟨fun h => by omega, fun h => by omega⟩
theorem wd_seven (hT : okT L T) {p : Nat} (hp : p ≤ L) : tkW L T p = 495623497070 ↔ w5 L T p 115 101 118 101 110 := by
  unfold tkW w5
  by_cases s : tkS L T p = 1 ∧ tkE L T p - p ≤ 8
  · rw [if_pos s]
    have le := fun k (hk : k < tkE L T p - p) => tk_lt hT hp s.1 (k := k) hk
    have bk : ∀ k, k < tkE L T p - p → bt L T (p + k) = T (p + k) := fun k hk => if_pos (le k hk).1
    obtain ⟨n, en⟩ : ∃ n, n = tkE L T p - p := ⟨_, rfl⟩
    rw [← en] at le bk s ⊢
    have h8 : n = 0 ∨ n = 1 ∨ n = 2 ∨ n = 3 ∨ n = 4 ∨ n = 5 ∨ n = 6 ∨ n = 7 ∨ n = 8 := by omega
    rcases h8 with e | e | e | e | e | e | e | e | e
    · rw [show wN8 T p n = (0 : Int) from by rw [e]; rfl]; omega
    · have l0 := le 0 (by omega); rw [show wN8 T p n = (256 * (0 : Int) + T (p + 0)) from by rw [e]; rfl]; omega
    · have l0 := le 0 (by omega); have l1 := le 1 (by omega); rw [show wN8 T p n = (256 * (256 * (0 : Int) + T (p + 0)) + T (p + 1)) from by rw [e]; rfl]; omega
    · have l0 := le 0 (by omega); have l1 := le 1 (by omega); have l2 := le 2 (by omega); rw [show wN8 T p n = (256 * (256 * (256 * (0 : Int) + T (p + 0)) + T (p + 1)) + T (p + 2)) from by rw [e]; rfl]; omega
    · have l0 := le 0 (by omega); have l1 := le 1 (by omega); have l2 := le 2 (by omega); have l3 := le 3 (by omega); rw [show wN8 T p n = (256 * (256 * (256 * (256 * (0 : Int) + T (p + 0)) + T (p + 1)) + T (p + 2)) + T (p + 3)) from by rw [e]; rfl]; omega
    · have l0 := le 0 (by omega); have l1 := le 1 (by omega); have l2 := le 2 (by omega); have l3 := le 3 (by omega); have l4 := le 4 (by omega); have b0 := bk 0 (by omega); have b1 := bk 1 (by omega); have b2 := bk 2 (by omega); have b3 := bk 3 (by omega); have b4 := bk 4 (by omega); rw [show wN8 T p n = (256 * (256 * (256 * (256 * (256 * (0 : Int) + T (p + 0)) + T (p + 1)) + T (p + 2)) + T (p + 3)) + T (p + 4)) from by rw [e]; rfl]; omega
    · have l0 := le 0 (by omega); have l1 := le 1 (by omega); have l2 := le 2 (by omega); have l3 := le 3 (by omega); have l4 := le 4 (by omega); have l5 := le 5 (by omega); rw [show wN8 T p n = (256 * (256 * (256 * (256 * (256 * (256 * (0 : Int) + T (p + 0)) + T (p + 1)) + T (p + 2)) + T (p + 3)) + T (p + 4)) + T (p + 5)) from by rw [e]; rfl]; omega
    · have l0 := le 0 (by omega); have l1 := le 1 (by omega); have l2 := le 2 (by omega); have l3 := le 3 (by omega); have l4 := le 4 (by omega); have l5 := le 5 (by omega); have l6 := le 6 (by omega); rw [show wN8 T p n = (256 * (256 * (256 * (256 * (256 * (256 * (256 * (0 : Int) + T (p + 0)) + T (p + 1)) + T (p + 2)) + T (p + 3)) + T (p + 4)) + T (p + 5)) + T (p + 6)) from by rw [e]; rfl]; omega
    · have l0 := le 0 (by omega); have l1 := le 1 (by omega); have l2 := le 2 (by omega); have l3 := le 3 (by omega); have l4 := le 4 (by omega); have l5 := le 5 (by omega); have l6 := le 6 (by omega); have l7 := le 7 (by omega); rw [show wN8 T p n = (256 * (256 * (256 * (256 * (256 * (256 * (256 * (256 * (0 : Int) + T (p + 0)) + T (p + 1)) + T (p + 2)) + T (p + 3)) + T (p + 4)) + T (p + 5)) + T (p + 6)) + T (p + 7)) from by rw [e]; rfl]; omega
  · rw [if_neg s]
    refine ⟨fun h => by omega, fun h => by omega⟩
theorem wd_lazy (hT : okT L T) {p : Nat} (hp : p ≤ L) : tkW L T p = 1818327673 ↔ w4 L T p 108 97 122 121 := by
  unfold tkW w4
  by_cases s : tkS L T p = 1 ∧ tkE L T p - p ≤ 8
  · rw [if_pos s]
    have le := fun k (hk : k < tkE L T p - p) => tk_lt hT hp s.1 (k := k) hk
    have bk : ∀ k, k < tkE L T p - p → bt L T (p + k) = T (p + k) := fun k hk => if_pos (le k hk).1
    obtain ⟨n, en⟩ : ∃ n, n = tkE L T p - p := ⟨_, rfl⟩
    rw [← en] at le bk s ⊢
    have h8 : n = 0 ∨ n = 1 ∨ n = 2 ∨ n = 3 ∨ n = 4 ∨ n = 5 ∨ n = 6 ∨ n = 7 ∨ n = 8 := by omega
    rcases h8 with e | e | e | e | e | e | e | e | e
    · rw [show wN8 T p n = (0 : Int) from by rw [e]; rfl]; omega
    · have l0 := le 0 (by omega); rw [show wN8 T p n = (256 * (0 : Int) + T (p + 0)) from by rw [e]; rfl]; omega
    · have l0 := le 0 (by omega); have l1 := le 1 (by omega); rw [show wN8 T p n = (256 * (256 * (0 : Int) + T (p + 0)) + T (p + 1)) from by rw [e]; rfl]; omega
    · have l0 := le 0 (by omega); have l1 := le 1 (by omega); have l2 := le 2 (by omega); rw [show wN8 T p n = (256 * (256 * (256 * (0 : Int) + T (p + 0)) + T (p + 1)) + T (p + 2)) from by rw [e]; rfl]; omega
    · have l0 := le 0 (by omega); have l1 := le 1 (by omega); have l2 := le 2 (by omega); have l3 := le 3 (by omega); have b0 := bk 0 (by omega); have b1 := bk 1 (by omega); have b2 := bk 2 (by omega); have b3 := bk 3 (by omega); rw [show wN8 T p n = (256 * (256 * (256 * (256 * (0 : Int) + T (p + 0)) + T (p + 1)) + T (p + 2)) + T (p + 3)) from by rw [e]; rfl]; omega
    · have l0 := le 0 (by omega); have l1 := le 1 (by omega); have l2 := le 2 (by omega); have l3 := le 3 (by omega); have l4 := le 4 (by omega); rw [show wN8 T p n = (256 * (256 * (256 * (256 * (256 * (0 : Int) + T (p + 0)) + T (p + 1)) + T (p + 2)) + T (p + 3)) + T (p + 4)) from by rw [e]; rfl]; omega
    · have l0 := le 0 (by omega); have l1 := le 1 (by omega); have l2 := le 2 (by omega); have l3 := le 3 (by omega); have l4 := le 4 (by omega); have l5 := le 5 (by omega); rw [show wN8 T p n = (256 * (256 * (256 * (256 * (256 * (256 * (0 : Int) + T (p + 0)) + T (p + 1)) + T (p + 2)) + T (p + 3)) + T (p + 4)) + T (p + 5)) from by rw [e]; rfl]; omega
    · have l0 := le 0 (by omega); have l1 := le 1 (by omega); have l2 := le 2 (by omega); have l3 := le 3 (by omega); have l4 := le 4 (by omega); have l5 := le 5 (by omega); have l6 := le 6 (by omega); rw [show wN8 T p n = (256 * (256 * (256 * (256 * (256 * (256 * (256 * (0 : Int) + T (p + 0)) + T (p + 1)) + T (p + 2)) + T (p + 3)) + T (p + 4)) + T (p + 5)) + T (p + 6)) from by rw [e]; rfl]; omega
    · have l0 := le 0 (by omega); have l1 := le 1 (by omega); have l2 := le 2 (by omega); have l3 := le 3 (by omega); have l4 := le 4 (by omega); have l5 := le 5 (by omega); have l6 := le 6 (by omega); have l7 := le 7 (by omega); rw [show wN8 T p n = (256 * (256 * (256 * (256 * (256 * (256 * (256 * (256 * (0 : Int) + T (p + 0)) + T (p + 1)) + T (p + 2)) + T (p + 3)) + T (p + 4)) + T (p + 5)) + T (p + 6)) + T (p + 7)) from by rw [e]; rfl]; omega
  · rw [if_neg s]
    refine ⟨fun h => by omega, fun h => by omega⟩
theorem wd_honest (hT : okT L T) {p : Nat} (hp : p ≤ L) : tkW L T p = 114827802801012 ↔ w6 L T p 104 111 110 101 115 116 := by
  unfold tkW w6
  by_cases s : tkS L T p = 1 ∧ tkE L T p - p ≤ 8
  · rw [if_pos s]
    have le := fun k (hk : k < tkE L T p - p) => tk_lt hT hp s.1 (k := k) hk
    have bk : ∀ k, k < tkE L T p - p → bt L T (p + k) = T (p + k) := fun k hk => if_pos (le k hk).1
    obtain ⟨n, en⟩ : ∃ n, n = tkE L T p - p := ⟨_, rfl⟩
    rw [← en] at le bk s ⊢
    have h8 : n = 0 ∨ n = 1 ∨ n = 2 ∨ n = 3 ∨ n = 4 ∨ n = 5 ∨ n = 6 ∨ n = 7 ∨ n = 8 := by omega
    rcases h8 with e | e | e | e | e | e | e | e | e
    · rw [show wN8 T p n = (0 : Int) from by rw [e]; rfl]; omega
    · have l0 := le 0 (by omega); rw [show wN8 T p n = (256 * (0 : Int) + T (p + 0)) from by rw [e]; rfl]; omega
    · have l0 := le 0 (by omega); have l1 := le 1 (by omega); rw [show wN8 T p n = (256 * (256 * (0 : Int) + T (p + 0)) + T (p + 1)) from by rw [e]; rfl]; omega
    · have l0 := le 0 (by omega); have l1 := le 1 (by omega); have l2 := le 2 (by omega); rw [show wN8 T p n = (256 * (256 * (256 * (0 : Int) + T (p + 0)) + T (p + 1)) + T (p + 2)) from by rw [e]; rfl]; omega
    · have l0 := le 0 (by omega); have l1 := le 1 (by omega); have l2 := le 2 (by omega); have l3 := le 3 (by omega); rw [show wN8 T p n = (256 * (256 * (256 * (256 * (0 : Int) + T (p + 0)) + T (p + 1)) + T (p + 2)) + T (p + 3)) from by rw [e]; rfl]; omega
    · have l0 := le 0 (by omega); have l1 := le 1 (by omega); have l2 := le 2 (by omega); have l3 := le 3 (by omega); have l4 := le 4 (by omega); rw [show wN8 T p n = (256 * (256 * (256 * (256 * (256 * (0 : Int) + T (p + 0)) + T (p + 1)) + T (p + 2)) + T (p + 3)) + T (p + 4)) from by rw [e]; rfl]; omega
    · have l0 := le 0 (by omega); have l1 := le 1 (by omega); have l2 := le 2 (by omega); have l3 := le 3 (by omega); have l4 := le 4 (by omega); have l5 := le 5 (by omega); have b0 := bk 0 (by omega); have b1 := bk 1 (by omega); have b2 := bk 2 (by omega); have b3 := bk 3 (by omega); have b4 := bk 4 (by omega); have b5 := bk 5 (by omega); rw [show wN8 T p n = (256 * (256 * (256 * (256 * (256 * (256 * (0 : Int) + T (p + 0)) + T (p + 1)) + T (p + 2)) + T (p + 3)) + T (p + 4)) + T (p + 5)) from by rw [e]; rfl]; omega
    · have l0 := le 0 (by omega); have l1 := le 1 (by omega); have l2 := le 2 (by omega); have l3 := le 3 (by omega); have l4 := le 4 (by omega); have l5 := le 5 (by omega); have l6 := le 6 (by omega); rw [show wN8 T p n = (256 * (256 * (256 * (256 * (256 * (256 * (256 * (0 : Int) + T (p + 0)) + T (p + 1)) + T (p + 2)) + T (p + 3)) + T (p + 4)) + T (p + 5)) + T (p + 6)) from by rw [e]; rfl]; omega
    · have l0 := le 0 (by omega); have l1 := le 1 (by omega); have l2 := le 2 (by omega); have l3 := le 3 (by omega); have l4 := le 4 (by omega); have l5 := le 5 (by omega); have l6 := le 6 (by omega); have l7 := le 7 (by omega); rw [show wN8 T p n = (256 * (256 * (256 * (256 * (256 * (256 * (256 * (256 * (0 : Int) + T (p + 0)) + T (p + 1)) + T (p + 2)) + T (p + 3)) + T (p + 4)) + T (p + 5)) + T (p + 6)) + T (p + 7)) from by rw [e]; rfl]; omega
  · rw [if_neg s]
    refine ⟨fun h => by omega, fun h => by omega⟩
theorem wd_seller (hT : okT L T) {p : Nat} (hp : p ≤ L) : tkW L T p = 126879447934322 ↔ w6 L T p 115 101 108 108 101 114 := by
  unfold tkW w6
  by_cases s : tkS L T p = 1 ∧ tkE L T p - p ≤ 8
  · rw [if_pos s]
    have le := fun k (hk : k < tkE L T p - p) => tk_lt hT hp s.1 (k := k) hk
    have bk : ∀ k, k < tkE L T p - p → bt L T (p + k) = T (p + k) := fun k hk => if_pos (le k hk).1
    obtain ⟨n, en⟩ : ∃ n, n = tkE L T p - p := ⟨_, rfl⟩
    rw [← en] at le bk s ⊢
    have h8 : n = 0 ∨ n = 1 ∨ n = 2 ∨ n = 3 ∨ n = 4 ∨ n = 5 ∨ n = 6 ∨ n = 7 ∨ n = 8 := by omega
    rcases h8 with e | e | e | e | e | e | e | e | e
    · rw [show wN8 T p n = (0 : Int) from by rw [e]; rfl]; omega
    · have l0 := le 0 (by omega); rw [show wN8 T p n = (256 * (0 : Int) + T (p + 0)) from by rw [e]; rfl]; omega
    · have l0 := le 0 (by omega); have l1 := le 1 (by omega); rw [show wN8 T p n = (256 * (256 * (0 : Int) + T (p + 0)) + T (p + 1)) from by rw [e]; rfl]; omega
    · have l0 := le 0 (by omega); have l1 := le 1 (by omega); have l2 := le 2 (by omega); rw [show wN8 T p n = (256 * (256 * (256 * (0 : Int) + T (p + 0)) + T (p + 1)) + T (p + 2)) from by rw [e]; rfl]; omega
    · have l0 := le 0 (by omega); have l1 := le 1 (by omega); have l2 := le 2 (by omega); have l3 := le 3 (by omega); rw [show wN8 T p n = (256 * (256 * (256 * (256 * (0 : Int) + T (p + 0)) + T (p + 1)) + T (p + 2)) + T (p + 3)) from by rw [e]; rfl]; omega
    · have l0 := le 0 (by omega); have l1 := le 1 (by omega); have l2 := le 2 (by omega); have l3 := le 3 (by omega); have l4 := le 4 (by omega); rw [show wN8 T p n = (256 * (256 * (256 * (256 * (256 * (0 : Int) + T (p + 0)) + T (p + 1)) + T (p + 2)) + T (p + 3)) + T (p + 4)) from by rw [e]; rfl]; omega
    · have l0 := le 0 (by omega); have l1 := le 1 (by omega); have l2 := le 2 (by omega); have l3 := le 3 (by omega); have l4 := le 4 (by omega); have l5 := le 5 (by omega); have b0 := bk 0 (by omega); have b1 := bk 1 (by omega); have b2 := bk 2 (by omega); have b3 := bk 3 (by omega); have b4 := bk 4 (by omega); have b5 := bk 5 (by omega); rw [show wN8 T p n = (256 * (256 * (256 * (256 * (256 * (256 * (0 : Int) + T (p + 0)) + T (p + 1)) + T (p + 2)) + T (p + 3)) + T (p + 4)) + T (p + 5)) from by rw [e]; rfl]; omega
    · have l0 := le 0 (by omega); have l1 := le 1 (by omega); have l2 := le 2 (by omega); have l3 := le 3 (by omega); have l4 := le 4 (by omega); have l5 := le 5 (by omega); have l6 := le 6 (by omega); rw [show wN8 T p n = (256 * (256 * (256 * (256 * (256 * (256 * (256 * (0 : Int) + T (p + 0)) + T (p + 1)) + T (p + 2)) + T (p + 3)) + T (p + 4)) + T (p + 5)) + T (p + 6)) from by rw [e]; rfl]; omega
    · have l0 := le 0 (by omega); have l1 := le 1 (by omega); have l2 := le 2 (by omega); have l3 := le 3 (by omega); have l4 := le 4 (by omega); have l5 := le 5 (by omega); have l6 := le 6 (by omega); have l7 := le 7 (by omega); rw [show wN8 T p n = (256 * (256 * (256 * (256 * (256 * (256 * (256 * (256 * (0 : Int) + T (p + 0)) + T (p + 1)) + T (p + 2)) + T (p + 3)) + T (p + 4)) + T (p + 5)) + T (p + 6)) + T (p + 7)) from by rw [e]; rfl]; omega
  · rw [if_neg s]
    refine ⟨fun h => by omega, fun h => by omega⟩
theorem wd_right (hT : okT L T) {p : Nat} (hp : p ≤ L) : tkW L T p = 491394656372 ↔ w5 L T p 114 105 103 104 116 := by
  unfold tkW w5
  by_cases s : tkS L T p = 1 ∧ tkE L T p - p ≤ 8
  · rw [if_pos s]
    have le := fun k (hk : k < tkE L T p - p) => tk_lt hT hp s.1 (k := k) hk
    have bk : ∀ k, k < tkE L T p - p → bt L T (p + k) = T (p + k) := fun k hk => if_pos (le k hk).1
    obtain ⟨n, en⟩ : ∃ n, n = tkE L T p - p := ⟨_, rfl⟩
    rw [← en] at le bk s ⊢
    have h8 : n = 0 ∨ n = 1 ∨ n = 2 ∨ n = 3 ∨ n = 4 ∨ n = 5 ∨ n = 6 ∨ n = 7 ∨ n = 8 := by omega
    rcases h8 with e | e | e | e | e | e | e | e | e
    · rw [show wN8 T p n = (0 : Int) from by rw [e]; rfl]; omega
    · have l0 := le 0 (by omega); rw [show wN8 T p n = (256 * (0 : Int) + T (p + 0)) from by rw [e]; rfl]; omega
    · have l0 := le 0 (by omega); have l1 := le 1 (by omega); rw [show wN8 T p n = (256 * (256 * (0 : Int) + T (p + 0)) + T (p + 1)) from by rw [e]; rfl]; omega
    · have l0 := le 0 (by omega); have l1 := le 1 (by omega); have l2 := le 2 (by omega); rw [show wN8 T p n = (256 * (256 * (256 * (0 : Int) + T (p + 0)) + T (p + 1)) + T (p + 2)) from by rw [e]; rfl]; omega
    · have l0 := le 0 (by omega); have l1 := le 1 (by omega); have l2 := le 2 (by omega); have l3 := le 3 (by omega); rw [show wN8 T p n = (256 * (256 * (256 * (256 * (0 : Int) + T (p + 0)) + T (p + 1)) + T (p + 2)) + T (p + 3)) from by rw [e]; rfl]; omega
    · have l0 := le 0 (by omega); have l1 := le 1 (by omega); have l2 := le 2 (by omega); have l3 := le 3 (by omega); have l4 := le 4 (by omega); have b0 := bk 0 (by omega); have b1 := bk 1 (by omega); have b2 := bk 2 (by omega); have b3 := bk 3 (by omega); have b4 := bk 4 (by omega); rw [show wN8 T p n = (256 * (256 * (256 * (256 * (256 * (0 : Int) + T (p + 0)) + T (p + 1)) + T (p + 2)) + T (p + 3)) + T (p + 4)) from by rw [e]; rfl]; omega
    · have l0 := le 0 (by omega); have l1 := le 1 (by omega); have l2 := le 2 (by omega); have l3 := le 3 (by omega); have l4 := le 4 (by omega); have l5 := le 5 (by omega); rw [show wN8 T p n = (256 * (256 * (256 * (256 * (256 * (256 * (0 : Int) + T (p + 0)) + T (p + 1)) + T (p + 2)) + T (p + 3)) + T (p + 4)) + T (p + 5)) from by rw [e]; rfl]; omega
    · have l0 := le 0 (by omega); have l1 := le 1 (by omega); have l2 := le 2 (by omega); have l3 := le 3 (by omega); have l4 := le 4 (by omega); have l5 := le 5 (by omega); have l6 := le 6 (by omega); rw [show wN8 T p n = (256 * (256 * (256 * (256 * (256 * (256 * (256 * (0 : Int) + T (p + 0)) + T (p + 1)) + T (p + 2)) + T (p + 3)) + T (p + 4)) + T (p + 5)) + T (p + 6)) from by rw [e]; rfl]; omega
    · have l0 := le 0 (by omega); have l1 := le 1 (by omega); have l2 := le 2 (by omega); have l3 := le 3 (by omega); have l4 := le 4 (by omega); have l5 := le 5 (by omega); have l6 := le 6 (by omega); have l7 := le 7 (by omega); rw [show wN8 T p n = (256 * (256 * (256 * (256 * (256 * (256 * (256 * (256 * (0 : Int) + T (p + 0)) + T (p + 1)) + T (p + 2)) + T (p + 3)) + T (p + 4)) + T (p + 5)) + T (p + 6)) + T (p + 7)) from by rw [e]; rfl]; omega
  · rw [if_neg s]
    refine ⟨fun h => by omega, fun h => by omega⟩
theorem wd_limit (hT : okT L T) {p : Nat} (hp : p ≤ L) : tkW L T p = 465625246068 ↔ w5 L T p 108 105 109 105 116 := by
  unfold tkW w5
  by_cases s : tkS L T p = 1 ∧ tkE L T p - p ≤ 8
  · rw [if_pos s]
    have le := fun k (hk : k < tkE L T p - p) => tk_lt hT hp s.1 (k := k) hk
    have bk : ∀ k, k < tkE L T p - p → bt L T (p + k) = T (p + k) := fun k hk => if_pos (le k hk).1
    obtain ⟨n, en⟩ : ∃ n, n = tkE L T p - p := ⟨_, rfl⟩
    rw [← en] at le bk s ⊢
    have h8 : n = 0 ∨ n = 1 ∨ n = 2 ∨ n = 3 ∨ n = 4 ∨ n = 5 ∨ n = 6 ∨ n = 7 ∨ n = 8 := by omega
    rcases h8 with e | e | e | e | e | e | e | e | e
    · rw [show wN8 T p n = (0 : Int) from by rw [e]; rfl]; omega
    · have l0 := le 0 (by omega); rw [show wN8 T p n = (256 * (0 : Int) + T (p + 0)) from by rw [e]; rfl]; omega
    · have l0 := le 0 (by omega); have l1 := le 1 (by omega); rw [show wN8 T p n = (256 * (256 * (0 : Int) + T (p + 0)) + T (p + 1)) from by rw [e]; rfl]; omega
    · have l0 := le 0 (by omega); have l1 := le 1 (by omega); have l2 := le 2 (by omega); rw [show wN8 T p n = (256 * (256 * (256 * (0 : Int) + T (p + 0)) + T (p + 1)) + T (p + 2)) from by rw [e]; rfl]; omega
    · have l0 := le 0 (by omega); have l1 := le 1 (by omega); have l2 := le 2 (by omega); have l3 := le 3 (by omega); rw [show wN8 T p n = (256 * (256 * (256 * (256 * (0 : Int) + T (p + 0)) + T (p + 1)) + T (p + 2)) + T (p + 3)) from by rw [e]; rfl]; omega
    · have l0 := le 0 (by omega); have l1 := le 1 (by omega); have l2 := le 2 (by omega); have l3 := le 3 (by omega); have l4 := le 4 (by omega); have b0 := bk 0 (by omega); have b1 := bk 1 (by omega); have b2 := bk 2 (by omega); have b3 := bk 3 (by omega); have b4 := bk 4 (by omega); rw [show wN8 T p n = (256 * (256 * (256 * (256 * (256 * (0 : Int) + T (p + 0)) + T (p + 1)) + T (p + 2)) + T (p + 3)) + T (p + 4)) from by rw [e]; rfl]; omega
    · have l0 := le 0 (by omega); have l1 := le 1 (by omega); have l2 := le 2 (by omega); have l3 := le 3 (by omega); have l4 := le 4 (by omega); have l5 := le 5 (by omega); rw [show wN8 T p n = (256 * (256 * (256 * (256 * (256 * (256 * (0 : Int) + T (p + 0)) + T (p + 1)) + T (p + 2)) + T (p + 3)) + T (p + 4)) + T (p + 5)) from by rw [e]; rfl]; omega
    · have l0 := le 0 (by omega); have l1 := le 1 (by omega); have l2 := le 2 (by omega); have l3 := le 3 (by omega); have l4 := le 4 (by omega); have l5 := le 5 (by omega); have l6 := le 6 (by omega); rw [show wN8 T p n = (256 * (256 * (256 * (256 * (256 * (256 * (256 * (0 : Int) + T (p + 0)) + T (p + 1)) + T (p + 2)) + T (p + 3)) + T (p + 4)) + T (p + 5)) + T (p + 6)) from by rw [e]; rfl]; omega
    · have l0 := le 0 (by omega); have l1 := le 1 (by omega); have l2 := le 2 (by omega); have l3 := le 3 (by omega); have l4 := le 4 (by omega); have l5 := le 5 (by omega); have l6 := le 6 (by omega); have l7 := le 7 (by omega); rw [show wN8 T p n = (256 * (256 * (256 * (256 * (256 * (256 * (256 * (256 * (0 : Int) + T (p + 0)) + T (p + 1)) + T (p + 2)) + T (p + 3)) + T (p + 4)) + T (p + 5)) + T (p + 6)) + T (p + 7)) from by rw [e]; rfl]; omega
  · rw [if_neg s]
    refine ⟨fun h => by omega, fun h => by omega⟩
theorem wd_knows (hT : okT L T) {p : Nat} (hp : p ≤ L) : tkW L T p = 461414299507 ↔ w5 L T p 107 110 111 119 115 := by
  unfold tkW w5
  by_cases s : tkS L T p = 1 ∧ tkE L T p - p ≤ 8
  · rw [if_pos s]
    have le := fun k (hk : k < tkE L T p - p) => tk_lt hT hp s.1 (k := k) hk
    have bk : ∀ k, k < tkE L T p - p → bt L T (p + k) = T (p + k) := fun k hk => if_pos (le k hk).1
    obtain ⟨n, en⟩ : ∃ n, n = tkE L T p - p := ⟨_, rfl⟩
    rw [← en] at le bk s ⊢
    have h8 : n = 0 ∨ n = 1 ∨ n = 2 ∨ n = 3 ∨ n = 4 ∨ n = 5 ∨ n = 6 ∨ n = 7 ∨ n = 8 := by omega
    rcases h8 with e | e | e | e | e | e | e | e | e
    · rw [show wN8 T p n = (0 : Int) from by rw [e]; rfl]; omega
    · have l0 := le 0 (by omega); rw [show wN8 T p n = (256 * (0 : Int) + T (p + 0)) from by rw [e]; rfl]; omega
    · have l0 := le 0 (by omega); have l1 := le 1 (by omega); rw [show wN8 T p n = (256 * (256 * (0 : Int) + T (p + 0)) + T (p + 1)) from by rw [e]; rfl]; omega
    · have l0 := le 0 (by omega); have l1 := le 1 (by omega); have l2 := le 2 (by omega); rw [show wN8 T p n = (256 * (256 * (256 * (0 : Int) + T (p + 0)) + T (p + 1)) + T (p + 2)) from by rw [e]; rfl]; omega
    · have l0 := le 0 (by omega); have l1 := le 1 (by omega); have l2 := le 2 (by omega); have l3 := le 3 (by omega); rw [show wN8 T p n = (256 * (256 * (256 * (256 * (0 : Int) + T (p + 0)) + T (p + 1)) + T (p + 2)) + T (p + 3)) from by rw [e]; rfl]; omega
    · have l0 := le 0 (by omega); have l1 := le 1 (by omega); have l2 := le 2 (by omega); have l3 := le 3 (by omega); have l4 := le 4 (by omega); have b0 := bk 0 (by omega); have b1 := bk 1 (by omega); have b2 := bk 2 (by omega); have b3 := bk 3 (by omega); have b4 := bk 4 (by omega); rw [show wN8 T p n = (256 * (256 * (256 * (256 * (256 * (0 : Int) + T (p + 0)) + T (p + 1)) + T (p + 2)) + T (p + 3)) + T (p + 4)) from by rw [e]; rfl]; omega
    · have l0 := le 0 (by omega); have l1 := le 1 (by omega); have l2 := le 2 (by omega); have l3 := le 3 (by omega); have l4 := le 4 (by omega); have l5 := le 5 (by omega); rw [show wN8 T p n = (256 * (256 * (256 * (256 * (256 * (256 * (0 : Int) + T (p + 0)) + T (p + 1)) + T (p + 2)) + T (p + 3)) + T (p + 4)) + T (p + 5)) from by rw [e]; rfl]; omega
    · have l0 := le 0 (by omega); have l1 := le 1 (by omega); have l2 := le 2 (by omega); have l3 := le 3 (by omega); have l4 := le 4 (by omega); have l5 := le 5 (by omega); have l6 := le 6 (by omega); rw [show wN8 T p n = (256 * (256 * (256 * (256 * (256 * (256 * (256 * (0 : Int) + T (p + 0)) + T (p + 1)) + T (p + 2)) + T (p + 3)) + T (p + 4)) + T (p + 5)) + T (p + 6)) from by rw [e]; rfl]; omega
    · have l0 := le 0 (by omega); have l1 := le 1 (by omega); have l2 := le 2 (by omega); have l3 := le 3 (by omega); have l4 := le 4 (by omega); have l5 := le 5 (by omega); have l6 := le 6 (by omega); have l7 := le 7 (by omega); rw [show wN8 T p n = (256 * (256 * (256 * (256 * (256 * (256 * (256 * (256 * (0 : Int) + T (p + 0)) + T (p + 1)) + T (p + 2)) + T (p + 3)) + T (p + 4)) + T (p + 5)) + T (p + 6)) + T (p + 7)) from by rw [e]; rfl]; omega
  · rw [if_neg s]
    refine ⟨fun h => by omega, fun h => by omega⟩
theorem wd_from (hT : okT L T) {p : Nat} (hp : p ≤ L) : tkW L T p = 1718775661 ↔ w4 L T p 102 114 111 109 := by
  unfold tkW w4
  by_cases s : tkS L T p = 1 ∧ tkE L T p - p ≤ 8
  · rw [if_pos s]
    have le := fun k (hk : k < tkE L T p - p) => tk_lt hT hp s.1 (k := k) hk
    have bk : ∀ k, k < tkE L T p - p → bt L T (p + k) = T (p + k) := fun k hk => if_pos (le k hk).1
    obtain ⟨n, en⟩ : ∃ n, n = tkE L T p - p := ⟨_, rfl⟩
    rw [← en] at le bk s ⊢
    have h8 : n = 0 ∨ n = 1 ∨ n = 2 ∨ n = 3 ∨ n = 4 ∨ n = 5 ∨ n = 6 ∨ n = 7 ∨ n = 8 := by omega
    rcases h8 with e | e | e | e | e | e | e | e | e
    · rw [show wN8 T p n = (0 : Int) from by rw [e]; rfl]; omega
    · have l0 := le 0 (by omega); rw [show wN8 T p n = (256 * (0 : Int) + T (p + 0)) from by rw [e]; rfl]; omega
    · have l0 := le 0 (by omega); have l1 := le 1 (by omega); rw [show wN8 T p n = (256 * (256 * (0 : Int) + T (p + 0)) + T (p + 1)) from by rw [e]; rfl]; omega
    · have l0 := le 0 (by omega); have l1 := le 1 (by omega); have l2 := le 2 (by omega); rw [show wN8 T p n = (256 * (256 * (256 * (0 : Int) + T (p + 0)) + T (p + 1)) + T (p + 2)) from by rw [e]; rfl]; omega
    · have l0 := le 0 (by omega); have l1 := le 1 (by omega); have l2 := le 2 (by omega); have l3 := le 3 (by omega); have b0 := bk 0 (by omega); have b1 := bk 1 (by omega); have b2 := bk 2 (by omega); have b3 := bk 3 (by omega); rw [show wN8 T p n = (256 * (256 * (256 * (256 * (0 : Int) + T (p + 0)) + T (p + 1)) + T (p + 2)) + T (p + 3)) from by rw [e]; rfl]; omega
    · have l0 := le 0 (by omega); have l1 := le 1 (by omega); have l2 := le 2 (by omega); have l3 := le 3 (by omega); have l4 := le 4 (by omega); rw [show wN8 T p n = (256 * (256 * (256 * (256 * (256 * (0 : Int) + T (p + 0)) + T (p + 1)) + T (p + 2)) + T (p + 3)) + T (p + 4)) from by rw [e]; rfl]; omega
    · have l0 := le 0 (by omega); have l1 := le 1 (by omega); have l2 := le 2 (by omega); have l3 := le 3 (by omega); have l4 := le 4 (by omega); have l5 := le 5 (by omega); rw [show wN8 T p n = (256 * (256 * (256 * (256 * (256 * (256 * (0 : Int) + T (p + 0)) + T (p + 1)) + T (p + 2)) + T (p + 3)) + T (p + 4)) + T (p + 5)) from by rw [e]; rfl]; omega
    · have l0 := le 0 (by omega); have l1 := le 1 (by omega); have l2 := le 2 (by omega); have l3 := le 3 (by omega); have l4 := le 4 (by omega); have l5 := le 5 (by omega); have l6 := le 6 (by omega); rw [show wN8 T p n = (256 * (256 * (256 * (256 * (256 * (256 * (256 * (0 : Int) + T (p + 0)) + T (p + 1)) + T (p + 2)) + T (p + 3)) + T (p + 4)) + T (p + 5)) + T (p + 6)) from by rw [e]; rfl]; omega
    · have l0 := le 0 (by omega); have l1 := le 1 (by omega); have l2 := le 2 (by omega); have l3 := le 3 (by omega); have l4 := le 4 (by omega); have l5 := le 5 (by omega); have l6 := le 6 (by omega); have l7 := le 7 (by omega); rw [show wN8 T p n = (256 * (256 * (256 * (256 * (256 * (256 * (256 * (256 * (0 : Int) + T (p + 0)) + T (p + 1)) + T (p + 2)) + T (p + 3)) + T (p + 4)) + T (p + 5)) + T (p + 6)) + T (p + 7)) from by rw [e]; rfl]; omega
  · rw [if_neg s]
    refine ⟨fun h => by omega, fun h => by omega⟩
theorem wd_biscuits (hT : okT L T) {p : Nat} (hp : p ≤ L) : tkW L T p = 7091325959280358515 ↔ w8 L T p 98 105 115 99 117 105 116 115 := by
  unfold tkW w8
  by_cases s : tkS L T p = 1 ∧ tkE L T p - p ≤ 8
  · rw [if_pos s]
    have le := fun k (hk : k < tkE L T p - p) => tk_lt hT hp s.1 (k := k) hk
    have bk : ∀ k, k < tkE L T p - p → bt L T (p + k) = T (p + k) := fun k hk => if_pos (le k hk).1
    obtain ⟨n, en⟩ : ∃ n, n = tkE L T p - p := ⟨_, rfl⟩
    rw [← en] at le bk s ⊢
    have h8 : n = 0 ∨ n = 1 ∨ n = 2 ∨ n = 3 ∨ n = 4 ∨ n = 5 ∨ n = 6 ∨ n = 7 ∨ n = 8 := by omega
    rcases h8 with e | e | e | e | e | e | e | e | e
    · rw [show wN8 T p n = (0 : Int) from by rw [e]; rfl]; omega
    · have l0 := le 0 (by omega); rw [show wN8 T p n = (256 * (0 : Int) + T (p + 0)) from by rw [e]; rfl]; omega
    · have l0 := le 0 (by omega); have l1 := le 1 (by omega); rw [show wN8 T p n = (256 * (256 * (0 : Int) + T (p + 0)) + T (p + 1)) from by rw [e]; rfl]; omega
    · have l0 := le 0 (by omega); have l1 := le 1 (by omega); have l2 := le 2 (by omega); rw [show wN8 T p n = (256 * (256 * (256 * (0 : Int) + T (p + 0)) + T (p + 1)) + T (p + 2)) from by rw [e]; rfl]; omega
    · have l0 := le 0 (by omega); have l1 := le 1 (by omega); have l2 := le 2 (by omega); have l3 := le 3 (by omega); rw [show wN8 T p n = (256 * (256 * (256 * (256 * (0 : Int) + T (p + 0)) + T (p + 1)) + T (p + 2)) + T (p + 3)) from by rw [e]; rfl]; omega
    · have l0 := le 0 (by omega); have l1 := le 1 (by omega); have l2 := le 2 (by omega); have l3 := le 3 (by omega); have l4 := le 4 (by omega); rw [show wN8 T p n = (256 * (256 * (256 * (256 * (256 * (0 : Int) + T (p + 0)) + T (p + 1)) + T (p + 2)) + T (p + 3)) + T (p + 4)) from by rw [e]; rfl]; omega
    · have l0 := le 0 (by omega); have l1 := le 1 (by omega); have l2 := le 2 (by omega); have l3 := le 3 (by omega); have l4 := le 4 (by omega); have l5 := le 5 (by omega); rw [show wN8 T p n = (256 * (256 * (256 * (256 * (256 * (256 * (0 : Int) + T (p + 0)) + T (p + 1)) + T (p + 2)) + T (p + 3)) + T (p + 4)) + T (p + 5)) from by rw [e]; rfl]; omega
    · have l0 := le 0 (by omega); have l1 := le 1 (by omega); have l2 := le 2 (by omega); have l3 := le 3 (by omega); have l4 := le 4 (by omega); have l5 := le 5 (by omega); have l6 := le 6 (by omega); rw [show wN8 T p n = (256 * (256 * (256 * (256 * (256 * (256 * (256 * (0 : Int) + T (p + 0)) + T (p + 1)) + T (p + 2)) + T (p + 3)) + T (p + 4)) + T (p + 5)) + T (p + 6)) from by rw [e]; rfl]; omega
    · have l0 := le 0 (by omega); have l1 := le 1 (by omega); have l2 := le 2 (by omega); have l3 := le 3 (by omega); have l4 := le 4 (by omega); have l5 := le 5 (by omega); have l6 := le 6 (by omega); have l7 := le 7 (by omega); have b0 := bk 0 (by omega); have b1 := bk 1 (by omega); have b2 := bk 2 (by omega); have b3 := bk 3 (by omega); have b4 := bk 4 (by omega); have b5 := bk 5 (by omega); have b6 := bk 6 (by omega); have b7 := bk 7 (by omega); rw [show wN8 T p n = (256 * (256 * (256 * (256 * (256 * (256 * (256 * (256 * (0 : Int) + T (p + 0)) + T (p + 1)) + T (p + 2)) + T (p + 3)) + T (p + 4)) + T (p + 5)) + T (p + 6)) + T (p + 7)) from by rw [e]; rfl]; omega
  · rw [if_neg s]
    refine ⟨fun h => by omega, fun h => by omega⟩
end T3

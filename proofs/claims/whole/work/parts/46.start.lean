/-! ===== the memory at the start ===== -/
def mem0 : Zm := fun o k =>
  if (o = 1 ∨ o = 8 ∨ o = 15) ∧ k = 6 then 2
  else if (o = 1 ∨ o = 8 ∨ o = 15) ∧ k = 9 then 1
  else if (o = 2 ∨ o = 9 ∨ o = 16) ∧ k < 8 then 11 * (k : Int) + 14
  else if (o = 5 ∨ o = 12 ∨ o = 19) ∧ k < 10 then -1
  else if o = 22 ∧ k = 6 then -1
  else if o = 35 ∧ k = 2 then 1
  else if o = 35 ∧ k = 3 then 2
  else if o = 35 ∧ 4 ≤ k ∧ k < 12 then 11 * ((k : Int) - 4) + 14
  else if o = 35 ∧ 124 ≤ k ∧ k < 134 then -1
  else if o = 41 ∧ k < 4 then -1
  else 0
theorem mem0_z {o k : Nat} (h : ¬ ((o = 1 ∨ o = 8 ∨ o = 15) ∧ (k = 6 ∨ k = 9)) ∧ ¬ ((o = 2 ∨ o = 9 ∨ o = 16) ∧ k < 8) ∧ ¬ ((o = 5 ∨ o = 12 ∨ o = 19) ∧ k < 10) ∧ ¬ (o = 22 ∧ k = 6) ∧ ¬ (o = 35 ∧ ((2 ≤ k ∧ k < 12) ∨ (124 ≤ k ∧ k < 134))) ∧ ¬ (o = 41 ∧ k < 4)) : mem0 o k = 0 := by
  unfold mem0
  rw [if_neg (by omega), if_neg (by omega), if_neg (by omega), if_neg (by omega), if_neg (by omega), if_neg (by omega), if_neg (by omega), if_neg (by omega), if_neg (by omega), if_neg (by omega)]
theorem mem0_r {o k : Nat} (h : (o = 2 ∨ o = 9 ∨ o = 16) ∧ k < 8) : mem0 o k = 11 * (k : Int) + 14 := by
  unfold mem0
  rw [if_neg (by omega), if_neg (by omega), if_pos h]
theorem mem0_s {o k : Nat} (h : (o = 5 ∨ o = 12 ∨ o = 19) ∧ k < 10) : mem0 o k = -1 := by
  unfold mem0
  rw [if_neg (by omega), if_neg (by omega), if_neg (by omega), if_pos h]
theorem mem0_35r {k : Nat} (h : k < 8) : mem0 35 (4 + k) = 11 * (k : Int) + 14 := by
  unfold mem0
  rw [if_neg (by omega), if_neg (by omega), if_neg (by omega), if_neg (by omega), if_neg (by omega), if_neg (by omega), if_neg (by omega), if_pos (by omega)]
  omega
theorem mem0_35s {k : Nat} (h : k < 10) : mem0 35 (124 + k) = -1 := by
  unfold mem0
  rw [if_neg (by omega), if_neg (by omega), if_neg (by omega), if_neg (by omega), if_neg (by omega), if_neg (by omega), if_neg (by omega), if_neg (by omega), if_pos (by omega)]
theorem mem0_in (o k : Nat) : -1 ≤ mem0 o k ∧ mem0 o k ≤ 200 := by
  unfold mem0
  (repeat' split) <;> omega
theorem mem0_ok : okM mem0 := fun o k => by
  have := mem0_in o k
  exact ⟨fun _ => by omega, fun _ => by omega⟩
theorem mem0_A : OKA (mem0 35) := by
  have e0 : mem0 35 0 = 0 := mem0_z (by omega)
  refine ⟨by rw [e0]; omega, fun i hi => ?_⟩
  rw [e0]
  have b := mem0_in 35 i
  unfold rng
  refine ⟨fun z => by rw [z, mem0_z (by omega)]; omega, fun z => ?_, fun z => ?_, fun z => ?_, fun z => by omega⟩
  · rw [z, show mem0 35 3 = 2 from rfl]; omega
  · obtain ⟨k, rfl⟩ : ∃ k, i = 4 + k := ⟨i - 4, by omega⟩
    rw [mem0_35r (by omega)]; omega
  · obtain ⟨k, rfl⟩ : ∃ k, i = 124 + k := ⟨i - 124, by omega⟩
    rw [mem0_35s (by omega)]; omega
theorem mem0_X {r : Nat} (h : r = 1) : XR mem0 r (mem0 35) := by
  subst h
  refine ⟨⟨?_, ?_, ?_, ?_⟩, fun k hk => ?_, fun c hc w hw => ?_, fun c hc k hk => ?_, fun k hk => ?_⟩
  · rw [mem0_z (by omega), mem0_z (by omega)]
  · rw [mem0_z (by omega), mem0_z (by omega)]
  · rfl
  · rfl
  · rw [mem0_r (by omega), mem0_35r hk]
  · rw [mem0_z (by omega), mem0_z (by omega)]
  · rw [mem0_z (by omega), mem0_z (by omega)]
  · rw [mem0_s (by omega), mem0_35s hk]
theorem iv_0 : IV ((60 * 0 : Nat) : Int) mem0 := by
  have e4 : mem0 34 4 = 0 := mem0_z (by omega)
  have e7 : mem0 34 7 = 0 := mem0_z (by omega)
  have e41 : ∀ t, t < 4 → mem0 41 t = -1 := fun t ht => by
    unfold mem0
    rw [if_neg (by omega), if_neg (by omega), if_neg (by omega), if_neg (by omega), if_neg (by omega), if_neg (by omega), if_neg (by omega), if_neg (by omega), if_neg (by omega), if_pos (by omega)]
  have e42 : ∀ t, mem0 42 t = 0 := fun t => mem0_z (by omega)
  have e39 : ∀ t, mem0 39 t = 0 := fun t => mem0_z (by omega)
  refine ⟨mem0_X rfl, ⟨?_, fun z => ?_⟩, ⟨?_, fun k hk => ?_⟩, fun t ht => ⟨?_, ?_, fun k hk => ?_⟩, fun k hk => ?_, .inl e4, ⟨mem0_A, ?_⟩, fun z => ?_, ⟨by rw [e7]; omega, fun k hk => ?_⟩, fun t ht => ⟨.inl (e41 t ht), by rw [e42]; omega⟩, fun k hk => ?_, ?_⟩
  · rw [e4, mem0_z (by omega)]
  · rw [e4] at z; exact absurd z (by decide)
  · rw [e7, mem0_z (by omega)]
  · rw [e7] at hk; omega
  · rw [e41 t ht, if_pos rfl, mem0_z (by omega)]
  · rw [e42, mem0_z (by omega)]
  · rw [mem0_z (by omega), mem0_z (by omega)]
  · rw [e39, mem0_z (by omega)]
  · rw [mem0_z (by omega)]; omega
  · rw [e4] at z; exact absurd z (by decide)
  · rw [e7] at hk; omega
  · rw [e39]; omega
  · rw [e39, e39, e39, e39, e39, e39, e39, e39]; rfl

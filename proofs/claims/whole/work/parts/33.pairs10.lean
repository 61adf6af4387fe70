/-! ===== pairs: fits, knew ===== -/
section P10
variable {S : Sx} {D : Int} {mem : Zm} {x1 x2 x3 x4 x5 : Int} {A B : Nat → Int}
/-! what a child knows and what it writes -/
theorem up_comm {A : Nat → Int} {i j : Nat} {v w : Int} (h : i ≠ j) : up (up A i v) j w = up (up A j w) i v := by
  funext k
  by_cases a : k = i
  · subst a; rw [up_ne h, up_at, up_at]
  · by_cases b : k = j
    · subst b; rw [up_at, up_ne a, up_at]
    · rw [up_ne b, up_ne a, up_ne a, up_ne b]
theorem cpP_up {c k : Nat} {v : Int} : cpP (up A (12 + 14 * k + 1) v) c = cpP A c := by
  have e2 : up A (12 + 14 * k + 1) v (12 + 14 * c + 2) = A (12 + 14 * c + 2) := up_ne (by omega)
  have ef : frm (up A (12 + 14 * k + 1) v) c = frm A c := by unfold frm; rw [e2]
  unfold cpP
  rw [ef, e2, up_ne (by omega), up_ne (by omega), up_ne (by omega), up_ne (by omega), up_ne (by omega)]
theorem anV_up {c k j : Nat} {v : Int} (hj : j < 8) (hc : c ≠ k) : anV (up A (12 + 14 * k + 1) v) c j = anV A c j := by
  have e2 : up A (12 + 14 * k + 1) v (12 + 14 * c + 2) = A (12 + 14 * c + 2) := up_ne (by omega)
  have ef : frm (up A (12 + 14 * k + 1) v) c = frm A c := by unfold frm; rw [e2]
  unfold anV
  rw [cpP_up, ef, up_ne (by omega), up_ne (by omega), up_ne (by omega), up_ne (by omega), up_ne (by omega)]
theorem w1_up {c k : Nat} {v : Int} (hc : c ≠ k) : ∀ n : Nat, n ≤ 8 → w1 (up A (12 + 14 * k + 1) v) c n = up (w1 A c n) (12 + 14 * k + 1) v := by
  intro n
  induction n with
  | zero => intro _; rfl
  | succ n ih =>
    intro hn
    show up _ _ _ = up (up _ _ _) _ _
    rw [ih (by omega), anV_up (by omega) hc, up_comm (by omega)]
theorem wA_up {c k : Nat} {v : Int} (hc : c ≠ k) : wA (up A (12 + 14 * k + 1) v) c = up (wA A c) (12 + 14 * k + 1) v := by
  have e2 : up A (12 + 14 * k + 1) v (12 + 14 * c + 2) = A (12 + 14 * c + 2) := up_ne (by omega)
  have ef : frm (up A (12 + 14 * k + 1) v) c = frm A c := by unfold frm; rw [e2]
  unfold wA
  rw [cpP_up, ef, w1_up hc 8 (by omega), up_ne (A := A) (i := 12 + 14 * c) (by omega)]
  split
  · unfold pyA
    rw [up_ne (A := w1 A c 8) (i := 12 + 14 * c + 4) (by omega), up_comm (A := w1 A c 8) (by omega), up_ne (i := 12 + 14 * frm A c + 4) (k := 12 + 14 * k + 1) (by omega), up_comm (i := 12 + 14 * k + 1) (by omega)]
  · rfl
theorem wN_up {k : Nat} {v : Int} : ∀ n : Nat, n ≤ k → wN (up A (12 + 14 * k + 1) v) n = up (wN A n) (12 + 14 * k + 1) v := by
  intro n
  induction n with
  | zero => intro _; rfl
  | succ n ih => intro hn; show wA _ _ = up (wA _ _) _ _; rw [ih (by omega), wA_up (by omega)]
theorem wA_rt {c i : Nat} (h : i < 12) : wA A c i = A i := by
  unfold wA pyA
  split
  · rw [up_ne (by omega), up_ne (by omega), w1_other (by omega)]
  · rw [w1_other (by omega)]
theorem wN_rt {i : Nat} (h : i < 12) : ∀ n, wN A n i = A i := by
  intro n
  induction n with
  | zero => rfl
  | succ n ih => show wA _ _ _ = _; rw [wA_rt h, ih]
theorem wA_an {c k j : Nat} (h : c ≠ k) (hj : j < 8) : wA A c (12 + 14 * k + (6 + j)) = A (12 + 14 * k + (6 + j)) := by
  unfold wA pyA
  split
  · rw [up_ne (by omega), up_ne (by omega), w1_other (by omega)]
  · rw [w1_other (by omega)]
theorem wN_an {k j : Nat} (hj : j < 8) : ∀ d : Nat, wN A (k + 1 + d) (12 + 14 * k + (6 + j)) = wN A (k + 1) (12 + 14 * k + (6 + j)) := by
  intro d
  induction d with
  | zero => rfl
  | succ d ih => show wA (wN A (k + 1 + d)) (k + 1 + d) _ = _; rw [wA_an (by omega) hj, ih]
theorem wA_own {k j : Nat} (hj : j < 8) : wA A k (12 + 14 * k + (6 + j)) = anV A k j := by
  unfold wA pyA
  split
  · rw [up_ne (by omega), up_ne (by omega), w1_at hj]
  · rw [w1_at hj]
theorem day_an (hA : OKA A) {k j : Nat} (hk : (k : Int) < A 0) (hj : j < 8) : dayA A (12 + 14 * k + (6 + j)) = anV (wN A k) k j := by
  have hn := hA.n
  unfold dayA
  rw [up_ne (by omega), rtN_hi (by omega) 8 (by omega), mkN_ans hj]
  have := wN_an (A := A) (k := k) hj (nA A - (k + 1))
  rw [show k + 1 + (nA A - (k + 1)) = nA A by omega] at this
  rw [this]
  show wA (wN A k) k _ = _
  rw [wA_own hj]
theorem an_split {k j : Nat} {v : Int} (hv : inS 0 j = false) (hj : j < 8) : anV (up A (12 + 14 * k + 1) v) k j = if inS v j = true then A (4 + j) else anV (up A (12 + 14 * k + 1) 0) k j := by
  have e2 : ∀ w, up A (12 + 14 * k + 1) w (12 + 14 * k + 2) = A (12 + 14 * k + 2) := fun w => up_ne (by omega)
  have ef : ∀ w, frm (up A (12 + 14 * k + 1) w) k = frm A k := fun w => by unfold frm; rw [e2]
  unfold anV
  simp only [cpP_up, ef, up_at]
  rw [hv]
  have q : ∀ w, up A (12 + 14 * k + 1) w (4 + j) = A (4 + j) := fun w => up_ne (by omega)
  have q0 : ∀ w, up A (12 + 14 * k + 1) w (12 + 14 * k) = A (12 + 14 * k) := fun w => up_ne (by omega)
  have q1 : ∀ w, up A (12 + 14 * k + 1) w 1 = A 1 := fun w => up_ne (by omega)
  have q3 : ∀ w, up A (12 + 14 * k + 1) w (12 + 14 * frm A k + (6 + j)) = A (12 + 14 * frm A k + (6 + j)) := fun w => up_ne (by omega)
  simp only [q, q0, q1, q3]
  rw [if_neg (c := false = true) (by decide)]
theorem in0 : ∀ j : Nat, j < 8 → inS 0 j = false := by decide
/-- the answers of a child who knows v -/
theorem day_kn (hA : OKA A) {k j : Nat} (hk : (k : Int) < A 0) (hj : j < 8) {v : Int} (hv : 0 ≤ v ∧ v ≤ 255) : dN 1 (up A (12 + 14 * k + 1) v) (12 + 14 * k + (6 + j)) = if inS v j = true then A (4 + j) else dN 1 (up A (12 + 14 * k + 1) 0) (12 + 14 * k + (6 + j)) := by
  have h0 := hA.1
  have ok : ∀ w : Int, 0 ≤ w → w ≤ 255 → OKA (up A (12 + 14 * k + 1) w) := fun w a b => hA.st (by omega) (fun _ => rng1 (by omega) ⟨a, b⟩)
  have e : ∀ w : Int, 0 ≤ w → w ≤ 255 → dN 1 (up A (12 + 14 * k + 1) w) (12 + 14 * k + (6 + j)) = anV (up (wN A k) (12 + 14 * k + 1) w) k j := fun w a b => by
    show dayA _ _ = _
    rw [day_an (ok w a b) (by rw [up_ne (by omega)]; exact hk) hj, wN_up k (by omega)]
  rw [e v hv.1 hv.2, e 0 (by omega) (by omega), an_split (in0 j hj) hj, wN_rt (by omega)]
/-! how many sets fit -/
def ftF (u kn : Nat → Bool) : Nat → Nat → Bool
  | 0, _ => true
  | n + 1, K => ftF u kn n K && (if inS (K : Int) n = true then kn n else u n)
def ftC (u kn : Nat → Bool) : Nat → Int
  | 0 => 1
  | n + 1 => ftC u kn n * ((if u n = true then 1 else 0) + (if kn n = true then 1 else 0))
theorem cnt_add (P : Nat → Bool) (a : Nat) : ∀ b : Nat, cnt P (a + b) = cnt P a + cnt (fun k => P (a + k)) b := by
  intro b
  induction b with
  | zero => show cnt P a = _ + 0; omega
  | succ b ih =>
    have e1 : cnt P (a + (b + 1)) = if P (a + b) = true then cnt P (a + b) + 1 else cnt P (a + b) := rfl
    have e2 : cnt (fun k => P (a + k)) (b + 1) = if P (a + b) = true then cnt (fun k => P (a + k)) b + 1 else cnt (fun k => P (a + k)) b := rfl
    rw [e1, e2, ih]
    split <;> omega
theorem cnt_none : ∀ n : Nat, cnt (fun _ => false) n = 0 := by
  intro n
  induction n with
  | zero => rfl
  | succ n ih => show (if false = true then _ else _) = _; rw [if_neg (by decide), ih]
theorem cnt_pos {P : Nat → Bool} {n : Nat} : ∀ {m : Nat}, n < m → P n = true → 1 ≤ cnt P m := by
  intro m
  induction m with
  | zero => intro h; omega
  | succ m ih =>
    intro h hp
    have lo := cnt_le P m
    show 1 ≤ (if P m = true then _ else _)
    by_cases q : n = m
    · rw [← q, if_pos hp, q]; omega
    · have := ih (by omega) hp
      split <;> omega
theorem cnt_and (P : Nat → Bool) (c : Bool) (n : Nat) : cnt (fun k => P k && c) n = cnt P n * (if c = true then 1 else 0) := by
  cases c
  · rw [show cnt (fun k => P k && false) n = cnt (fun _ => false) n from cnt_congr (fun k _ => Bool.and_false _), cnt_none, if_neg (by decide), Int.mul_zero]
  · rw [show cnt (fun k => P k && true) n = cnt P n from cnt_congr (fun k _ => Bool.and_true _), if_pos rfl, Int.mul_one]
theorem ftF_add (u kn : Nat → Bool) {n K : Nat} : ∀ m, m ≤ n → ftF u kn m (2 ^ n + K) = ftF u kn m K := by
  intro m
  induction m with
  | zero => intro _; rfl
  | succ m ih =>
    intro hm
    show (_ && _) = (_ && _)
    rw [ih (by omega), inS_nat, inS_nat, Nat.testBit_two_pow_add_gt (by omega)]
theorem ftF_cnt (u kn : Nat → Bool) : ∀ n : Nat, cnt (ftF u kn n) (2 ^ n) = ftC u kn n := by
  intro n
  induction n with
  | zero => rfl
  | succ n ih =>
    rw [Nat.pow_succ, Nat.mul_two, cnt_add]
    have e1 : cnt (ftF u kn (n + 1)) (2 ^ n) = cnt (fun K => ftF u kn n K && u n) (2 ^ n) := cnt_congr (fun K hK => by
      show (_ && _) = _
      rw [inS_nat, Nat.testBit_lt_two_pow hK, if_neg (by decide)])
    have e2 : cnt (fun K => ftF u kn (n + 1) (2 ^ n + K)) (2 ^ n) = cnt (fun K => ftF u kn n K && kn n) (2 ^ n) := cnt_congr (fun K hK => by
      show (_ && _) = _
      rw [ftF_add u kn n (by omega), inS_nat, Nat.testBit_two_pow_add_eq, Nat.testBit_lt_two_pow hK, show (!false) = true from rfl, if_pos rfl])
    rw [e1, e2, cnt_and, cnt_and, ih]
    show _ = _ * _
    rw [Int.mul_add]
theorem ftF_iff (u kn : Nat → Bool) {K : Nat} : ∀ n, ftF u kn n K = true ↔ ∀ j, j < n → (if inS (K : Int) j = true then kn j else u j) = true := by
  intro n
  induction n with
  | zero => exact ⟨fun _ j hj => absurd hj (by omega), fun _ => rfl⟩
  | succ n ih =>
    show (_ && _) = true ↔ _
    rw [Bool.and_eq_true, ih]
    refine ⟨fun h j hj => ?_, fun h => ⟨fun j hj => h j (by omega), h n (by omega)⟩⟩
    by_cases q : j = n
    · rw [q]; exact h.2
    · exact h.1 j (by omega)
theorem ftC_in (u kn : Nat → Bool) : ∀ n, 0 ≤ ftC u kn n ∧ ftC u kn n ≤ 2 ^ n := by
  intro n
  rw [← ftF_cnt]
  have := cnt_le (ftF u kn n) (2 ^ n)
  rw [Int.natCast_pow] at this
  exact this
/-- fits of a sheet, for a child -/
def ftU (mem : Zm) (t k : Nat) (j : Nat) : Bool := tdW (mem 42 t) (nmS mem t) (dN 1 (up (mem 35) (12 + 14 * k + 1) 0) (12 + 14 * k + (6 + j))) j
def ftK (mem : Zm) (t : Nat) (j : Nat) : Bool := tdW (mem 42 t) (nmS mem t) (mem 35 (4 + j)) j
theorem told_fit (hA : OKA (mem 35)) {t k : Nat} (hk : (k : Int) < mem 35 0) {K : Nat} (hK : K < 256) : tdB mem t (dN 1 (up (mem 35) (12 + 14 * k + 1) (K : Int))) k = ftF (ftU mem t k) (ftK mem t) 8 K := by
  have q : (tdB mem t (dN 1 (up (mem 35) (12 + 14 * k + 1) (K : Int))) k = true) ↔ (ftF (ftU mem t k) (ftK mem t) 8 K = true) := by
    unfold tdB
    rw [tdP_iff, ftF_iff]
    have e : ∀ j, j < 8 → tdW (mem 42 t) (nmS mem t) (dN 1 (up (mem 35) (12 + 14 * k + 1) (K : Int)) (12 + 14 * k + (6 + j))) j = (if inS (K : Int) j = true then ftK mem t j else ftU mem t k j) := fun j hj => by
      rw [day_kn hA hk hj (by omega)]
      unfold ftK ftU
      split <;> rfl
    exact ⟨fun h j hj => by rw [← e j hj]; exact h j hj, fun h j hj => by rw [e j hj]; exact h j hj⟩
  cases a : tdB mem t (dN 1 (up (mem 35) (12 + 14 * k + 1) (K : Int))) k <;> cases b : ftF (ftU mem t k) (ftK mem t) 8 K <;> simp_all
/-- the model goes through all sets -/
theorem ct_X4_findsFits (hA : OKA (mem 35)) (hd : mem 35 1 < 99900) {t k : Nat} (hl : 0 ≤ mem 42 t ∧ mem 42 t ≤ 40) (ht : t < 4) (hk8 : k < 8) (hk : (k : Int) < mem 35 0) : ∃ m2, Ct1 S mX4_findsFits [Aq 34, Iq (t : Int), Iq (k : Int)] mem none m2 ∧ (∀ o, vis o → o ≠ 34 → m2 o = mem o) ∧ (∀ s, s ≠ 11 → s ≠ 12 → m2 34 s = mem 34 s) ∧ m2 34 11 = ftC (ftU mem t k) (ftK mem t) 8 ∧ (∀ K : Nat, K < 256 → ftF (ftU mem t k) (ftK mem t) 8 K = true → 1 ≤ m2 34 11) ∧ ((∀ K : Nat, K < 256 → ftF (ftU mem t k) (ftK mem t) 8 K = false) → m2 34 11 = 0) ∧ (∀ K : Nat, K < 256 → ftF (ftU mem t k) (ftK mem t) 8 K = true → (∀ j, j < K → ftF (ftU mem t k) (ftK mem t) 8 j = false) → m2 34 12 = (K : Int)) := by
  obtain ⟨N, hN⟩ : ∃ N : Nat, N = 2 ^ 8 := ⟨_, rfl⟩
  have hN2 : N = 256 := by rw [hN]
  obtain ⟨F, eF⟩ : ∃ F : Nat → Bool, F = ftF (ftU mem t k) (ftK mem t) 8 := ⟨_, rfl⟩
  have ok : ∀ K : Nat, K < 256 → OKA (up (mem 35) (12 + 14 * k + 1) (K : Int)) := fun K hK => hA.st (by omega) (fun _ => rng1 hk8 (by omega))
  have ei : (12 + 14 * (k : Int) + 1).toNat = 12 + 14 * k + 1 := by omega
  have fold : ∀ K : Nat, K < 256 → tdB mem t (dN 1 (up (mem 35) (12 + 14 * k + 1) (K : Int))) k = F K := fun K hK => by rw [eF]; exact told_fit hA hk hK
  rw [← eF]
  have e35 : mup mem 34 11 0 35 = mem 35 := mup_other 35 (by omega)
  obtain ⟨m2, ⟨⟨w, a1⟩, a2, a3, a4, a5⟩, ago⟩ := loopE (fun Q s (M : Zm) => PW S mX4_findsFits Q 17 [some (Aq 34), some (Iq (t : Int)), some (Iq (k : Int)), some (Iq (mem 35 (12 + 14 * k + 1))), some (Iq (255 - (s : Int)))] [] M) (fun s M => (∃ v, M 35 = up (mem 35) (12 + 14 * k + 1) v) ∧ (∀ o, o ≠ 35 → o ≠ 38 → o ≠ 34 → M o = mem o) ∧ (∀ c, c ≠ 11 → c ≠ 12 → M 34 c = mem 34 c) ∧ M 34 11 = cnt F N - cnt F (N - s) ∧ (∀ K : Nat, N - s ≤ K → K < N → F K = true → (∀ j, N - s ≤ j → j < K → F j = false) → M 34 12 = (K : Int))) (n := N) (s0 := mup mem 34 11 0) ⟨⟨mem 35 (12 + 14 * k + 1), by rw [e35, up_self]⟩, fun o a b c => mup_other o c, fun c a b => mup_ne (by omega), by rw [mup_at]; show (0 : Int) = cnt F N - cnt F N; omega, fun K a b => absurd a (by omega)⟩ (by
    intro s M hs ⟨⟨v, b1⟩, b2, b3, b4, b5⟩
    have e42 : M 42 = mem 42 := b2 42 (by omega) (by omega) (by omega)
    have e43 : M 43 = mem 43 := b2 43 (by omega) (by omega) (by omega)
    have ev : (255 - (s : Int)) = ((255 - s : Nat) : Int) := by omega
    have sm : SM (setR M 35 (mem 35)) (12 + 14 * k + 1) M := ⟨⟨v, by rw [setR_at]; exact b1⟩, fun o a b => by rw [setR_ne _ _ a]⟩
    obtain ⟨m3, q1, q2⟩ := sm.told (S := S) (v := ((255 - s : Nat) : Int)) (by rw [setR_at]; exact ok _ (by omega)) (by omega) (by rw [setR_at]; omega) ht hk8 (by rw [setR_ne _ _ (by omega), e42]; exact hl)
    rw [setR_at, tdB_c (m1 := setR M 35 (mem 35)) (mem := mem) (by rw [setR_ne _ _ (by omega), e42]) (by rw [setR_ne _ _ (by omega), e43]), fold _ (by omega)] at q1
    obtain ⟨⟨v3, c1⟩, c2⟩ := q2
    rw [setR_at] at c1
    have c2 : ∀ o, o ≠ 35 → o ≠ 38 → m3 o = M o := fun o a b => by rw [c2 o a b, setR_ne _ _ a]
    have e34 : m3 34 = M 34 := c2 34 (by omega) (by omega)
    have ec : cnt F (N - s) = if F (255 - s) = true then cnt F (N - (s + 1)) + 1 else cnt F (N - (s + 1)) := by
      rw [show N - s = N - (s + 1) + 1 by omega, show 255 - s = N - (s + 1) by omega]; rfl
    have lo := cnt_le F N
    have lo2 := cnt_le F (N - s)
    have lo3 := cnt_le F (N - (s + 1))
    have ev2 : (255 - (s : Int)) + -1 = 255 - ((s + 1 : Nat) : Int) := by omega
    by_cases f : F (255 - s) = true
    · rw [if_pos f] at ec
      refine ⟨mup (mup m3 34 11 (m3 34 11 + 1)) 34 12 (255 - (s : Int)), ⟨⟨v3, by rw [mup_other 35 (by omega), mup_other 35 (by omega)]; exact c1⟩, fun o a b c => by rw [mup_other o c, mup_other o c, c2 o a b]; exact b2 o a b c, fun c a b => by rw [mup_ne (by omega), mup_ne (by omega), e34]; exact b3 c a b, by rw [mup_ne (by omega), mup_at, e34, b4]; omega, fun K a b c d => ?_⟩, fun Q hq => rg_X4_findsFits_17 ⟨fun z => by omega, fun _ => ⟨by omega, by omega, _, m3, (by rw [ei, ev]; exact q1), fun z => ?_, fun _ => ⟨by rw [e34, b4]; omega, by omega, by rw [ev2]; exact hq⟩⟩⟩⟩
      · rw [mup_at]
        by_cases q : K = 255 - s
        · rw [q]; exact ev
        · have := d (255 - s) (by omega) (by omega)
          rw [f] at this
          exact absurd this (by decide)
      · rw [bIt f] at z; exact absurd z (by decide)
    · rw [if_neg f] at ec
      refine ⟨m3, ⟨⟨v3, c1⟩, fun o a b c => by rw [c2 o a b]; exact b2 o a b c, fun c a b => by rw [e34]; exact b3 c a b, by rw [e34, b4]; omega, fun K a b c d => ?_⟩, fun Q hq => rg_X4_findsFits_17 ⟨fun z => by omega, fun _ => ⟨by omega, by omega, _, m3, (by rw [ei, ev]; exact q1), fun _ => ⟨by omega, by rw [ev2]; exact hq⟩, fun z => absurd (bIf f) z⟩⟩⟩
      rw [e34]
      by_cases q : K = 255 - s
      · rw [q] at c; exact absurd c f
      · exact b5 K (by omega) b c (fun j x y => d j (by omega) y))
  refine ⟨mup m2 35 (12 + 14 * k + 1) (mem 35 (12 + 14 * k + 1)), ct1V rfl (by decide) (Nat.le_of_ble_eq_true rfl) (rg_X4_findsFits_0 ⟨by omega, ?_⟩), fun o ho h34 => ?_, fun s a b => ?_, ?_, fun K a b => ?_, fun a => ?_, fun K a b c => ?_⟩
  · have := ago (fun r m => r = none ∧ m = mup m2 35 (12 + 14 * k + 1) (mem 35 (12 + 14 * k + 1))) (rg_X4_findsFits_17 ⟨fun _ => ⟨by omega, by omega, rfl, by rw [ei]⟩, fun z => by omega⟩)
    rw [show (255 : Int) - ((0 : Nat) : Int) = 255 by omega] at this
    rw [Int.toNat_natCast]
    exact this
  · by_cases q : o = 35
    · subst q; rw [mup_up, a1, up_up, up_self]
    · rw [mup_other o q]; exact a2 o q (by unfold vis at ho; omega) h34
  · rw [mup_other 34 (by omega)]; exact a3 s a b
  · rw [mup_other 34 (by omega), a4, Nat.sub_self, hN, eF, ftF_cnt]; show _ - 0 = _; omega
  · rw [mup_other 34 (by omega), a4, Nat.sub_self]
    have := cnt_pos (P := F) (n := K) (m := N) (by omega) b
    show 1 ≤ _ - 0
    omega
  · rw [mup_other 34 (by omega), a4, Nat.sub_self, show cnt F N = cnt (fun _ => false) N from cnt_congr (fun K hK => a K (by omega)), cnt_none]; rfl
  · rw [mup_other 34 (by omega)]; exact a5 K (by omega) (by omega) b (fun j _ y => c j y)
theorem xt_nothing {M : Zm} (hX : XR M 1 A) (hd : A 1 < 99900) {k : Nat} (hk : k < 8) (hA : OKA (up A (12 + 14 * k + 1) 0)) : ∃ m2, Ct1 S mX3_tryDayKnowingNothing [Aq 0, Iq (k : Int)] M none m2 ∧ XR m2 8 (dN 1 (up A (12 + 14 * k + 1) 0)) ∧ Fr 8 M m2 := by
  obtain ⟨m1, k1, k2, k3⟩ := xt_become (S := S) (r := 8) (r1 := 1) isR8 isR1 (by decide) hX
  have k4 := k2.fact hk (w := 1) (by omega) 0
  obtain ⟨m2, j1, j2, j3⟩ := xt_days (S := S) isR8 k4 hA (n := 1) (by rw [up_ne (by omega)]; omega) (by omega)
  exact ⟨m2, ct1V rfl (by decide) (Nat.le_of_ble_eq_true rfl) (rg_X3_tryDayKnowingNothing_0 ⟨m1, k1, by omega, m2, by rw [Int.toNat_natCast]; exact j1, rfl, rfl⟩), j2, (k3.trans (Fr.mup (by omega))).trans j3⟩
theorem bI_in (p : Prop) [Decidable p] : bI p = 0 ∨ bI p = 1 := by unfold bI; split <;> omega
theorem xt_fitU (h : IV D mem) {M : Zm} (hf : Fr 8 mem M) {t k : Nat} (ht : t < 4) (hk : k < 8) (hX : XR M 8 (dN 1 (up (mem 35) (12 + 14 * k + 1) 0))) {j : Nat} (hj : j < 8) : Ct1 S mX3_fitsUnknown [Aq 0, Aq (25 + 2 * t), Iq (k : Int), Iq (j : Int)] M (some (Iq (bI (ftU mem t k j = true)))) M := by
  have hl := h.len ht
  have e2 : M (25 + 2 * t) 2 = mem 42 t := by rw [(hf.sh ht).1]; exact (h.2.2.2.1 t ht).2.1
  refine ct1Z rfl (bI_in _) (by decide) (Nat.le_of_ble_eq_true rfl) (rg_X3_fitsUnknown_0 (sheet_is ht) ⟨by omega, by omega, ?_, rfl⟩)
  rw [bIc (x_td h hf ht hj), Int.toNat_natCast, Int.toNat_natCast, hX.a hk hj]
  rfl
theorem xt_fitK (h : IV D mem) {M : Zm} (hf : Fr 8 mem M) {t : Nat} (ht : t < 4) {j : Nat} (hj : j < 8) : Ct1 S mX3_fitsKnown [Aq 0, Aq (25 + 2 * t), Iq (j : Int)] M (some (Iq (bI (ftK mem t j = true)))) M := by
  have hl := h.len ht
  have e2 : M (25 + 2 * t) 2 = mem 42 t := by rw [(hf.sh ht).1]; exact (h.2.2.2.1 t ht).2.1
  refine ct1Z rfl (bI_in _) (by decide) (Nat.le_of_ble_eq_true rfl) (rg_X3_fitsKnown_0 (sheet_is ht) ⟨by omega, by omega, ?_, rfl⟩)
  rw [bIc (x_td h hf ht hj), Int.toNat_natCast, show M 2 j = mem 35 (4 + j) from (hf.X1 h.X).r hj]
  rfl
theorem pr_fits (h : IV D mem) (hD : D ≤ 90000) : PR S D mem mX3_fits mX4_fits [Iq x1, Iq x2] := by
  have hD2 : D ≤ 90000 := hD
  have hD : D ≤ 1000000 := by omega
  have hd := h.d
  by_cases c : ckV mem x1 x2 = 0
  · obtain ⟨c1, c2, c3, c4⟩ := ckV_0 c
    have h0 := h.A.1
    obtain ⟨t, ht, rfl⟩ := int_nat (x := x1) (n := 4) ⟨by omega, by omega⟩
    obtain ⟨k, hk, rfl⟩ := int_nat (x := x2) (n := 8) ⟨by omega, by omega⟩
    obtain ⟨m1, a1, a2, a3⟩ := xt_nothing (S := S) h.X (by omega) hk (h.A.st (by omega) (fun _ => rng1 hk (by omega)))
    have h1 : IV D m1 := h.keep a3.vis8 (Int.le_refl _)
    have e35 : m1 35 = mem 35 := a3 35 (by omega)
    have e41 : m1 41 = mem 41 := a3 41 (by omega)
    have e42 : m1 42 = mem 42 := a3 42 (by omega)
    have e43 : m1 43 = mem 43 := a3 43 (by omega)
    obtain ⟨m2, b1, b2, b3, b4, _⟩ := ct_X4_findsFits (S := S) (mem := m1) (by rw [e35]; exact h.A) (by rw [e35]; omega) (by rw [e42]; exact h.len ht) ht hk (by rw [e35]; exact c4)
    have eU : ftU m1 t k = ftU mem t k := by funext j; unfold ftU nmS; rw [e42, e43, e35]
    have eK : ftK m1 t = ftK mem t := by funext j; unfold ftK nmS; rw [e42, e43, e35]
    rw [eU, eK] at b4
    have lp : ∀ e : Nat, e ≤ 8 → ∀ Q, PW S mX3_fits Q 28 [some (Aq 0), some (Iq (t : Int)), some (Iq (k : Int)), some (Iq 0), some (Iq (ftC (ftU mem t k) (ftK mem t) e)), some (Iq (e : Int)), none] [] m1 → PW S mX3_fits Q 28 [some (Aq 0), some (Iq (t : Int)), some (Iq (k : Int)), some (Iq 0), some (Iq 1), some (Iq 0), none] [] m1 := by
      intro e
      induction e with
      | zero => intro _ Q hq; exact hq
      | succ e ih =>
        intro he Q hq
        have r1 := ftC_in (ftU mem t k) (ftK mem t) e
        have r2 : (2 : Int) ^ e ≤ 2 ^ 8 := by
          have : 2 ^ e ≤ 2 ^ 8 := Nat.pow_le_pow_right (n := 2) (by omega) (show e ≤ 8 by omega)
          have := Int.ofNat_le.2 this
          rw [Int.natCast_pow, Int.natCast_pow] at this
          exact this
        have r3 : (2 : Int) ^ 8 = 256 := by decide
        have cu := xt_fitU (S := S) h a3 ht hk a2 (j := e) (by omega)
        have ck := xt_fitK (S := S) h a3 ht (j := e) (by omega)
        have es : ftC (ftU mem t k) (ftK mem t) (e + 1) = ftC (ftU mem t k) (ftK mem t) e * ((if ftU mem t k e = true then 1 else 0) + (if ftK mem t e = true then 1 else 0)) := rfl
        refine ih (by omega) Q (rg_X3_fits_28 ⟨fun z => by omega, fun _ => ⟨by omega, _, m1, cu, fun z => ⟨by omega, _, m1, ck, fun z2 => ?_, fun z2 => ?_⟩, fun z => ⟨by omega, _, m1, ck, fun z2 => ?_, fun z2 => ?_⟩⟩⟩)
        · have u : ¬ ftU mem t k e = true := fun w => by rw [bIt w] at z; exact absurd z (by decide)
          have v : ¬ ftK mem t e = true := fun w => by rw [bIt w] at z2; exact absurd z2 (by decide)
          rw [es, if_neg u, if_neg v] at hq
          exact ⟨by omega, by omega, hq⟩
        · have u : ¬ ftU mem t k e = true := fun w => by rw [bIt w] at z; exact absurd z (by decide)
          have v : ftK mem t e = true := Decidable.of_not_not (fun w => z2 (bIf w))
          rw [es, if_neg u, if_pos v] at hq
          exact ⟨by omega, by omega, hq⟩
        · have u : ftU mem t k e = true := Decidable.of_not_not (fun w => z (bIf w))
          have v : ¬ ftK mem t e = true := fun w => by rw [bIt w] at z2; exact absurd z2 (by decide)
          rw [es, if_pos u, if_neg v] at hq
          exact ⟨by omega, by omega, hq⟩
        · have u : ftU mem t k e = true := Decidable.of_not_not (fun w => z (bIf w))
          have v : ftK mem t e = true := Decidable.of_not_not (fun w => z2 (bIf w))
          rw [es, if_pos u, if_pos v] at hq
          exact ⟨by omega, by omega, hq⟩
    have ck2 : Ct1 S mX4_wantsFor [Aq 34, Iq (t : Int), Iq (k : Int)] m1 (some (Iq 0)) m1 := by
      have := ct_X4_wantsFor (S := S) (mem := m1) (x1 := (t : Int)) (x2 := (k : Int))
      rw [ckV_c e41 (by rw [e35]), c] at this
      exact this
    refine ⟨_, m1, m2, ct1I rfl (by decide) (Nat.le_of_ble_eq_true rfl) (rg_X3_fits_0 ⟨_, _, c ▸ xt_ck h, fun _ => ⟨m1, a1, lp 8 (by omega) _ (rg_X3_fits_28 ⟨fun _ => ⟨rfl, rfl⟩, fun z => by omega⟩)⟩, fun z => absurd rfl z⟩), ct1I rfl (by decide) (Nat.le_of_ble_eq_true rfl) (rg_X4_fits_0 ⟨_, _, ck2, fun _ => ⟨m2, b1, by rw [b4], rfl⟩, fun z => absurd rfl z⟩), ?_⟩
    exact h1.keepS (fun o a b d => b2 o a d) (by rw [b2 22 (by unfold vis; omega) (by omega)]) (b3 4 (by omega) (by omega)) (b3 7 (by omega) (by omega)) (by omega)
  · exact pr_ckF h hD rfl c (fun hfx => ct1I rfl (by decide) (Nat.le_of_ble_eq_true rfl) (rg_X3_fits_0 ⟨_, _, xt_ck h, fun z => absurd z c, fun _ => ⟨hfx, rfl, rfl⟩⟩)) (fun e hfm => ct1I rfl (by decide) (Nat.le_of_ble_eq_true rfl) (rg_X4_fits_0 ⟨_, _, e ▸ ct_X4_wantsFor, fun z => absurd z c, fun _ => ⟨hfm, rfl, rfl⟩⟩))
theorem pr_knew (h : IV D mem) (hD : D ≤ 90000) : PR S D mem mX3_knew mX4_knew [Iq x1, Iq x2] := by
  have hD2 : D ≤ 90000 := hD
  have hD : D ≤ 1000000 := by omega
  have hd := h.d
  by_cases c : ckV mem x1 x2 = 0
  · obtain ⟨c1, c2, c3, c4⟩ := ckV_0 c
    have h0 := h.A.1
    obtain ⟨t, ht, rfl⟩ := int_nat (x := x1) (n := 4) ⟨by omega, by omega⟩
    obtain ⟨k, hk, rfl⟩ := int_nat (x := x2) (n := 8) ⟨by omega, by omega⟩
    obtain ⟨m1, a1, a2, a3⟩ := xt_nothing (S := S) h.X (by omega) hk (h.A.st (by omega) (fun _ => rng1 hk (by omega)))
    have fin : ∀ m : Zm, m 35 = mem 35 → m 41 = mem 41 → m 42 = mem 42 → m 43 = mem 43 → ∃ m2, Ct1 S mX4_findsFits [Aq 34, Iq (t : Int), Iq (k : Int)] m none m2 ∧ (∀ o, vis o → o ≠ 34 → m2 o = m o) ∧ (∀ s, s ≠ 11 → s ≠ 12 → m2 34 s = m 34 s) ∧ (∀ K : Nat, K < 256 → ftF (ftU mem t k) (ftK mem t) 8 K = true → 1 ≤ m2 34 11) ∧ ((∀ K : Nat, K < 256 → ftF (ftU mem t k) (ftK mem t) 8 K = false) → m2 34 11 = 0) ∧ (∀ K : Nat, K < 256 → ftF (ftU mem t k) (ftK mem t) 8 K = true → (∀ j, j < K → ftF (ftU mem t k) (ftK mem t) 8 j = false) → m2 34 12 = (K : Int)) ∧ Ct1 S mX4_wantsFor [Aq 34, Iq (t : Int), Iq (k : Int)] m (some (Iq 0)) m := fun m e35 e41 e42 e43 => by
      obtain ⟨m2, b1, b2, b3, b4, b5, b6, b7⟩ := ct_X4_findsFits (S := S) (mem := m) (by rw [e35]; exact h.A) (by rw [e35]; omega) (by rw [e42]; exact h.len ht) ht hk (by rw [e35]; exact c4)
      have eU : ftU m t k = ftU mem t k := by funext j; unfold ftU nmS; rw [e42, e43, e35]
      have eK : ftK m t = ftK mem t := by funext j; unfold ftK nmS; rw [e42, e43, e35]
      rw [eU, eK] at b5 b6 b7
      have ck := ct_X4_wantsFor (S := S) (mem := m) (x1 := (t : Int)) (x2 := (k : Int))
      rw [ckV_c e41 (by rw [e35]), c] at ck
      exact ⟨m2, b1, b2, b3, b5, b6, b7, ck⟩
    have lp : ∀ e : Nat, e ≤ 8 → (∀ j, j < e → ¬ (ftU mem t k j = false ∧ ftK mem t j = false)) → ∀ Q, PW S mX3_knew Q 28 [some (Aq 0), some (Iq (t : Int)), some (Iq (k : Int)), some (Iq 0), some (Iq (sS (fun j => !(ftU mem t k j)) e)), some (Iq (e : Int))] [] m1 → PW S mX3_knew Q 28 [some (Aq 0), some (Iq (t : Int)), some (Iq (k : Int)), some (Iq 0), some (Iq 0), some (Iq 0)] [] m1 := by
      intro e
      induction e with
      | zero => intro _ _ Q hq; exact hq
      | succ e ih =>
        intro he hj Q hq
        have cu := xt_fitU (S := S) h a3 ht hk a2 (j := e) (by omega)
        have ck := xt_fitK (S := S) h a3 ht (j := e) (by omega)
        refine ih (by omega) (fun j q => hj j (by omega)) Q (rg_X3_knew_28 ⟨fun z => by omega, fun _ => ⟨by omega, _, m1, cu, fun z => ⟨by omega, _, m1, ck, fun z2 => ?_, fun z2 => ⟨by omega, ?_⟩⟩, fun z => ⟨by omega, ?_⟩⟩⟩)
        · refine absurd ⟨?_, ?_⟩ (hj e (by omega))
          · cases u : ftU mem t k e
            · rfl
            · rw [bIt u] at z; exact absurd z (by decide)
          · cases u : ftK mem t e
            · rfl
            · rw [bIt u] at z2; exact absurd z2 (by decide)
        · rw [sS_t (P := fun j => !(ftU mem t k j)) (by omega) (by
            cases u : ftU mem t k e
            · rfl
            · rw [bIt u] at z; exact absurd z (by decide))]
          exact hq
        · rw [sS_f (P := fun j => !(ftU mem t k j)) (by
            cases u : ftU mem t k e
            · rw [u] at z; exact absurd rfl z
            · rfl)] at hq
          exact hq
    rcases leastD (fun j => ftU mem t k j = false ∧ ftK mem t j = false) 8 with ⟨e, p1, p2, p3⟩ | p
    · have g : ∀ o, o ≠ 33 → fndx m1 (-1000004) o = m1 o := fun o ho => mup_other o ho
      obtain ⟨m2, b1, b2, b3, b5, b6, b7, b8⟩ := fin (fndx m1 (-1000004)) (by rw [g 35 (by omega)]; exact a3 35 (by omega)) (by rw [g 41 (by omega)]; exact a3 41 (by omega)) (by rw [g 42 (by omega)]; exact a3 42 (by omega)) (by rw [g 43 (by omega)]; exact a3 43 (by omega))
      obtain ⟨f1, f2, f3⟩ := h.fndS (ma := m1) (mb := m2) hD (f := -1000004) (by omega) (fun o a _ _ => a3.vis8 o a) (fun o a _ b => b2 o a b) (by rw [b2 22 (by unfold vis; omega) (by omega), g 22 (by omega), a3 22 (by omega)]) (by rw [b3 4 (by omega) (by omega), g 34 (by omega), a3 34 (by omega)]) (by rw [b3 7 (by omega) (by omega), g 34 (by omega), a3 34 (by omega)])
      have z0 := b6 (fun K hK => by
        cases q : ftF (ftU mem t k) (ftK mem t) 8 K
        · rfl
        · have := (ftF_iff _ _ 8).1 q e p1
          rw [p2.1, p2.2] at this
          revert this
          split <;> intro w <;> exact absurd w (by decide))
      have cu := xt_fitU (S := S) h a3 ht hk a2 (j := e) (by omega)
      have ck := xt_fitK (S := S) h a3 ht (j := e) (by omega)
      rw [p2.1] at cu
      rw [p2.2] at ck
      exact ⟨-1000004, fndx m1 (-1000004), _, ct1I rfl (by decide) (Nat.le_of_ble_eq_true rfl) (rg_X3_knew_0 ⟨_, _, c ▸ xt_ck h, fun _ => ⟨m1, a1, lp e (by omega) p3 _ (rg_X3_knew_28 ⟨fun z => by omega, fun _ => ⟨by omega, _, m1, cu, fun _ => ⟨by omega, _, m1, ck, fun _ => ⟨f1, rfl, rfl⟩, fun z => absurd rfl z⟩, fun z => absurd rfl z⟩⟩)⟩, fun z => absurd rfl z⟩), ct1I rfl (by decide) (Nat.le_of_ble_eq_true rfl) (rg_X4_knew_0 ⟨_, _, b8, fun _ => ⟨m2, b1, fun _ => ⟨f2, rfl, rfl⟩, fun z => by omega⟩, fun z => absurd rfl z⟩), f3⟩
    · obtain ⟨m2, b1, b2, b3, b5, b6, b7, b8⟩ := fin m1 (a3 35 (by omega)) (a3 41 (by omega)) (a3 42 (by omega)) (a3 43 (by omega))
      have rr := sS_256 (fun j => !(ftU mem t k j)) (n := 8) (by omega)
      obtain ⟨r, hr, er⟩ := int_nat rr
      have rb : ∀ j, j < 8 → inS (r : Int) j = !(ftU mem t k j) := fun j hj => by rw [← er]; exact inS_sS hj
      have fr : ftF (ftU mem t k) (ftK mem t) 8 r = true := (ftF_iff _ _ 8).2 (fun j hj => by
        rw [rb j hj]
        cases u : ftU mem t k j
        · have := p j hj
          rw [u] at this
          cases v : ftK mem t j
          · exact absurd ⟨rfl, v⟩ this
          · rfl
        · rfl)
      have lo : ∀ K, K < r → ftF (ftU mem t k) (ftK mem t) 8 K = false := fun K hK => by
        cases q : ftF (ftU mem t k) (ftK mem t) 8 K
        · rfl
        · have w := (ftF_iff _ _ 8).1 q
          have e : bAnd (r : Int) (K : Int) = (r : Int) := set_ext (and_in (by omega) (by omega)) (by omega) (fun j hj => by
            rw [inS_and (by omega) (by omega), rb j hj]
            have := w j hj
            cases u : ftU mem t k j
            · rw [u] at this
              cases v : inS (K : Int) j
              · rw [v, if_neg (by decide)] at this; exact absurd this (by decide)
              · rfl
            · rfl)
          rw [bAnd_nat hr (by omega)] at e
          have := Nat.and_le_right (n := r) (m := K)
          omega
      have v12 := b7 r hr fr lo
      have v11 := b5 r hr fr
      refine ⟨(r : Int), m1, m2, ct1I rfl (by decide) (Nat.le_of_ble_eq_true rfl) (rg_X3_knew_0 ⟨_, _, c ▸ xt_ck h, fun _ => ⟨m1, a1, lp 8 (by omega) p _ (rg_X3_knew_28 ⟨fun _ => ⟨by rw [er], rfl⟩, fun z => by omega⟩)⟩, fun z => absurd rfl z⟩), ct1I rfl (by decide) (Nat.le_of_ble_eq_true rfl) (rg_X4_knew_0 ⟨_, _, b8, fun _ => ⟨m2, b1, fun z => by omega, fun _ => ⟨by rw [v12], rfl⟩⟩, fun z => absurd rfl z⟩), ?_⟩
      exact (h.keep a3.vis8 (Int.le_refl _)).keepS (fun o a _ d => b2 o a d) (by rw [b2 22 (by unfold vis; omega) (by omega)]) (b3 4 (by omega) (by omega)) (b3 7 (by omega) (by omega)) (by omega)
  · exact pr_ckF h hD rfl c (fun hfx => ct1I rfl (by decide) (Nat.le_of_ble_eq_true rfl) (rg_X3_knew_0 ⟨_, _, xt_ck h, fun z => absurd z c, fun _ => ⟨hfx, rfl, rfl⟩⟩)) (fun e hfm => ct1I rfl (by decide) (Nat.le_of_ble_eq_true rfl) (rg_X4_knew_0 ⟨_, _, e ▸ ct_X4_wantsFor, fun z => absurd z c, fun _ => ⟨hfm, rfl, rfl⟩⟩))
end P10

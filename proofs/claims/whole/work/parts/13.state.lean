/-! ===== the state as one row of 134 numbers, as the document's terms go: 0 children, 1 day, 2 z, 3 limit, 4.. right, 12 + 14 c .. a child (kind, knows, from, marks, biscuits, caught, answers), 124 .. spots ===== -/
def nA (A : Nat → Int) : Nat := (A 0).toNat
def rng (n : Int) (i : Nat) (v : Int) : Prop :=
  (i = 1 → 0 ≤ v) ∧ (i = 3 → 1 ≤ v ∧ v ≤ 9) ∧ (4 ≤ i ∧ i < 12 → 0 ≤ v ∧ v ≤ 99) ∧ (124 ≤ i ∧ i < 134 → -1 ≤ v ∧ v < n) ∧
  (12 ≤ i ∧ i < 124 ∧ (((i - 12) / 14 : Nat) : Int) < n → ((i - 12) % 14 = 0 → 0 ≤ v ∧ v ≤ 6) ∧ ((i - 12) % 14 = 1 → 0 ≤ v ∧ v ≤ 255) ∧ ((i - 12) % 14 = 2 → -1 ≤ v ∧ v < n) ∧ ((i - 12) % 14 = 3 → 0 ≤ v ∧ v ≤ 9999) ∧ ((i - 12) % 14 = 4 → 0 ≤ v ∧ v ≤ 999) ∧ ((i - 12) % 14 = 5 → 0 ≤ v ∧ v ≤ 9999) ∧ (6 ≤ (i - 12) % 14 → -1 ≤ v ∧ v ≤ 99))
def OKA (A : Nat → Int) : Prop := (0 ≤ A 0 ∧ A 0 ≤ 8) ∧ ∀ i, i < 134 → rng (A 0) i (A i)
theorem OKA.n {A : Nat → Int} (h : OKA A) : ((nA A : Nat) : Int) = A 0 ∧ nA A ≤ 8 := by
  have h1 := h.1
  unfold nA
  omega
theorem OKA.day {A : Nat → Int} (h : OKA A) : 0 ≤ A 1 := by
  have := h.2 1 (by omega)
  unfold rng at this
  omega
theorem OKA.lim {A : Nat → Int} (h : OKA A) : 1 ≤ A 3 ∧ A 3 ≤ 9 := by
  have := h.2 3 (by omega)
  unfold rng at this
  omega
theorem OKA.rt {A : Nat → Int} (h : OKA A) {k : Nat} (hk : k < 8) : 0 ≤ A (4 + k) ∧ A (4 + k) ≤ 99 := by
  have := h.2 (4 + k) (by omega)
  unfold rng at this
  omega
theorem OKA.spot {A : Nat → Int} (h : OKA A) {k : Nat} (hk : k < 10) : -1 ≤ A (124 + k) ∧ A (124 + k) < A 0 := by
  have := h.2 (124 + k) (by omega)
  unfold rng at this
  omega
theorem OKA.c0 {A : Nat → Int} (h : OKA A) {c : Nat} (hc : (c : Int) < A 0) : 0 ≤ A (12 + 14 * c) ∧ A (12 + 14 * c) ≤ 6 := by
  have h0 := h.1
  have := h.2 (12 + 14 * c) (by omega)
  unfold rng at this
  omega
theorem OKA.c1 {A : Nat → Int} (h : OKA A) {c : Nat} (hc : (c : Int) < A 0) : 0 ≤ A (12 + 14 * c + 1) ∧ A (12 + 14 * c + 1) ≤ 255 := by
  have h0 := h.1
  have := h.2 (12 + 14 * c + 1) (by omega)
  unfold rng at this
  omega
theorem OKA.c2 {A : Nat → Int} (h : OKA A) {c : Nat} (hc : (c : Int) < A 0) : -1 ≤ A (12 + 14 * c + 2) ∧ A (12 + 14 * c + 2) < A 0 := by
  have h0 := h.1
  have := h.2 (12 + 14 * c + 2) (by omega)
  unfold rng at this
  omega
theorem OKA.c3 {A : Nat → Int} (h : OKA A) {c : Nat} (hc : (c : Int) < A 0) : 0 ≤ A (12 + 14 * c + 3) ∧ A (12 + 14 * c + 3) ≤ 9999 := by
  have h0 := h.1
  have := h.2 (12 + 14 * c + 3) (by omega)
  unfold rng at this
  omega
theorem OKA.c4 {A : Nat → Int} (h : OKA A) {c : Nat} (hc : (c : Int) < A 0) : 0 ≤ A (12 + 14 * c + 4) ∧ A (12 + 14 * c + 4) ≤ 999 := by
  have h0 := h.1
  have := h.2 (12 + 14 * c + 4) (by omega)
  unfold rng at this
  omega
theorem OKA.c5 {A : Nat → Int} (h : OKA A) {c : Nat} (hc : (c : Int) < A 0) : 0 ≤ A (12 + 14 * c + 5) ∧ A (12 + 14 * c + 5) ≤ 9999 := by
  have h0 := h.1
  have := h.2 (12 + 14 * c + 5) (by omega)
  unfold rng at this
  omega
theorem OKA.an {A : Nat → Int} (h : OKA A) {c : Nat} (hc : (c : Int) < A 0) {k : Nat} (hk : k < 8) : -1 ≤ A (12 + 14 * c + (6 + k)) ∧ A (12 + 14 * c + (6 + k)) ≤ 99 := by
  have h0 := h.1
  have := h.2 (12 + 14 * c + (6 + k)) (by omega)
  unfold rng at this
  omega
theorem OKA.st {A : Nat → Int} (h : OKA A) {i : Nat} {v : Int} (h0 : i ≠ 0) (hv : i < 134 → rng (A 0) i v) : OKA (up A i v) := by
  have e0 : up A i v 0 = A 0 := up_ne (fun q => h0 q.symm)
  refine ⟨by rw [e0]; exact h.1, fun j hj => ?_⟩
  rw [e0]
  by_cases hji : j = i
  · subst hji; rw [up_at]; exact hv hj
  · rw [up_ne hji]; exact h.2 j hj
theorem rng0 {n : Int} {c : Nat} {v : Int} (hc : c < 8) (h : 0 ≤ v ∧ v ≤ 6) : rng n (12 + 14 * c) v := by unfold rng; omega
theorem rng1 {n : Int} {c : Nat} {v : Int} (hc : c < 8) (h : 0 ≤ v ∧ v ≤ 255) : rng n (12 + 14 * c + 1) v := by unfold rng; omega
theorem rng2 {n : Int} {c : Nat} {v : Int} (hc : c < 8) (h : -1 ≤ v ∧ v < n) : rng n (12 + 14 * c + 2) v := by unfold rng; omega
theorem rng3 {n : Int} {c : Nat} {v : Int} (hc : c < 8) (h : 0 ≤ v ∧ v ≤ 9999) : rng n (12 + 14 * c + 3) v := by unfold rng; omega
theorem rng4 {n : Int} {c : Nat} {v : Int} (hc : c < 8) (h : 0 ≤ v ∧ v ≤ 999) : rng n (12 + 14 * c + 4) v := by unfold rng; omega
theorem rng5 {n : Int} {c : Nat} {v : Int} (hc : c < 8) (h : 0 ≤ v ∧ v ≤ 9999) : rng n (12 + 14 * c + 5) v := by unfold rng; omega
theorem rngA {n : Int} {c k : Nat} {v : Int} (hc : c < 8) (hk : k < 8) (h : -1 ≤ v ∧ v ≤ 99) : rng n (12 + 14 * c + (6 + k)) v := by unfold rng; omega
theorem rngR {n : Int} {k : Nat} {v : Int} (hk : k < 8) (h : 0 ≤ v ∧ v ≤ 99) : rng n (4 + k) v := by unfold rng; omega
/-! what a day does -/
def alkB (A : Nat → Int) (a b k : Nat) : Bool := decide (A (12 + 14 * a + (6 + k)) = A (12 + 14 * b + (6 + k)) ∧ ¬ A (12 + 14 * a + (6 + k)) = -1 ∧ ¬ A (12 + 14 * a + (6 + k)) = A (4 + k))
def alk (A : Nat → Int) (a b : Nat) : Int := sS (alkB A a b) 8
def fndN (A : Nat → Int) (c : Nat) : Nat → Bool
  | 0 => false
  | o + 1 => fndN A c o || (decide (¬ o = c) && decide (A 3 ≤ pcn (alk A c o)))
def gdB (A : Nat → Int) (c k : Nat) : Bool := decide (A (12 + 14 * c + (6 + k)) = A (4 + k))
def frm (A : Nat → Int) (c : Nat) : Nat := (A (12 + 14 * c + 2)).toNat
def cpP (A : Nat → Int) (c : Nat) : Bool := decide (0 ≤ A (12 + 14 * c + 2) ∧ lendP (A (12 + 14 * frm A c)) (A 1) (A (12 + 14 * frm A c + 4)) ∧ payV (A (12 + 14 * c)) ≤ A (12 + 14 * c + 4))
def anV (A : Nat → Int) (c k : Nat) : Int := if inS (A (12 + 14 * c + 1)) k = true then A (4 + k) else if cpP A c = true then slipV (A (12 + 14 * c)) (A 1) (k : Int) (A (12 + 14 * frm A c + (6 + k))) else -1
def w1 (A : Nat → Int) (c : Nat) : Nat → (Nat → Int)
  | 0 => A
  | n + 1 => up (w1 A c n) (12 + 14 * c + (6 + n)) (anV A c n)
def pyA (B : Nat → Int) (c f : Nat) (p : Int) : Nat → Int := up (up B (12 + 14 * c + 4) (B (12 + 14 * c + 4) - p)) (12 + 14 * f + 4) (min 999 (up B (12 + 14 * c + 4) (B (12 + 14 * c + 4) - p) (12 + 14 * f + 4) + p))
def wA (A : Nat → Int) (c : Nat) : Nat → Int := if cpP A c = true then pyA (w1 A c 8) c (frm A c) (payV (A (12 + 14 * c))) else w1 A c 8
def wN (A : Nat → Int) : Nat → (Nat → Int)
  | 0 => A
  | n + 1 => wA (wN A n) n
def mkA (A : Nat → Int) (c : Nat) : Nat → Int := if fndN A c (nA A) = true then up (up A (12 + 14 * c + 5) (min 9999 (A (12 + 14 * c + 5) + 1))) (12 + 14 * c + 1) (bOr (A (12 + 14 * c + 1)) (bShl 1 (A 1 % 8))) else up A (12 + 14 * c + 3) (min 9999 (A (12 + 14 * c + 3) + cnt (gdB A c) 8))
def mkN (A : Nat → Int) : Nat → (Nat → Int)
  | 0 => A
  | n + 1 => mkA (mkN A n) n
def rtN (A : Nat → Int) : Nat → (Nat → Int)
  | 0 => A
  | n + 1 => up (rtN A n) (4 + n) ((3 * rtN A n (4 + n) + (n : Int) + 1) % 100)
def dayA (A : Nat → Int) : Nat → Int := up (rtN (mkN (wN A (nA A)) (nA A)) 8) 1 (A 1 + 1)
def dN : Nat → (Nat → Int) → (Nat → Int)
  | 0, A => A
  | n + 1, A => dN n (dayA A)
/-! ranges are kept -/
theorem exch_in {s a : Int} (h : 0 ≤ a ∧ a ≤ 99) : 0 ≤ exch s a ∧ exch s a ≤ 99 := by unfold exch; split <;> omega
theorem sevn_in {a : Int} (h : 0 ≤ a ∧ a ≤ 99) : 0 ≤ sevn a ∧ sevn a ≤ 99 := by
  unfold sevn o7
  split <;> split <;> omega
theorem slip_in {k d s a : Int} (h : -1 ≤ a ∧ a ≤ 99) : -1 ≤ slipV k d s a ∧ slipV k d s a ≤ 99 := by
  unfold slipV
  split
  · omega
  · have h1 := exch_in (s := s) (a := a) (by omega)
    have h2 := sevn_in h1
    split
    · split <;> omega
    · split
      · omega
      · split
        · omega
        · split
          · split <;> omega
          · split <;> omega
theorem pay_in2 (k : Int) : 0 ≤ payV k ∧ payV k ≤ 2 := by unfold payV; split; omega; split <;> omega
theorem frm_lt {A : Nat → Int} (h : OKA A) {c : Nat} (hc : (c : Int) < A 0) (hf : 0 ≤ A (12 + 14 * c + 2)) : ((frm A c : Nat) : Int) < A 0 ∧ frm A c < 8 := by
  have h1 := h.c2 hc
  have h2 := h.1
  unfold frm
  omega
theorem cpP_f {A : Nat → Int} {c : Nat} (h : cpP A c = true) : 0 ≤ A (12 + 14 * c + 2) := (of_decide_eq_true h).1
theorem anV_in {A : Nat → Int} (h : OKA A) {c : Nat} (hc : (c : Int) < A 0) {k : Nat} (hk : k < 8) : -1 ≤ anV A c k ∧ anV A c k ≤ 99 := by
  unfold anV
  split
  · have := h.rt hk; omega
  · split
    · rename_i q
      exact slip_in (h.an (frm_lt h hc (cpP_f q)).1 hk)
    · omega
theorem w1_ok {A : Nat → Int} (h : OKA A) {c : Nat} (hc : (c : Int) < A 0) : ∀ n, n ≤ 8 → OKA (w1 A c n) ∧ w1 A c n 0 = A 0 := by
  have h0 := h.1
  intro n
  induction n with
  | zero => intro _; exact ⟨h, rfl⟩
  | succ n ih =>
    intro hn
    obtain ⟨h1, h2⟩ := ih (by omega)
    exact ⟨h1.st (by omega) (fun _ => rngA (by omega) (by omega) (anV_in h hc (by omega))), by show up _ _ _ 0 = _; rw [up_ne (by omega)]; exact h2⟩
theorem w1_other {A : Nat → Int} {c : Nat} : ∀ {n i : Nat}, (i < 12 + 14 * c + 6 ∨ 12 + 14 * c + (6 + n) ≤ i) → w1 A c n i = A i := by
  intro n
  induction n with
  | zero => intro i _; rfl
  | succ n ih =>
    intro i hi
    show up _ _ _ i = _
    rw [up_ne (by omega), ih (by omega)]
theorem w1_at {A : Nat → Int} {c : Nat} : ∀ {n k : Nat}, k < n → w1 A c n (12 + 14 * c + (6 + k)) = anV A c k := by
  intro n
  induction n with
  | zero => intro k hk; omega
  | succ n ih =>
    intro k hk
    show up _ _ _ _ = _
    by_cases h : k = n
    · subst h; rw [up_at]
    · rw [up_ne (by omega), ih (by omega)]
theorem pyA_ok {B : Nat → Int} (h : OKA B) {c f : Nat} {p : Int} (hc : (c : Int) < B 0) (hf : (f : Int) < B 0) (hp : 0 ≤ p) (hb : p ≤ B (12 + 14 * c + 4)) : OKA (pyA B c f p) ∧ pyA B c f p 0 = B 0 := by
  have h0 := h.1
  have h4 := h.c4 hc
  have h1 : OKA (up B (12 + 14 * c + 4) (B (12 + 14 * c + 4) - p)) := h.st (by omega) (fun _ => rng4 (by omega) (by omega))
  have e0 : up B (12 + 14 * c + 4) (B (12 + 14 * c + 4) - p) 0 = B 0 := up_ne (by omega)
  have h5 := h1.c4 (c := f) (by rw [e0]; exact hf)
  refine ⟨h1.st (by omega) (fun _ => rng4 (by omega) ?_), ?_⟩
  · omega
  · show up _ _ _ 0 = _
    rw [up_ne (by omega), e0]
theorem wA_ok {A : Nat → Int} (h : OKA A) {c : Nat} (hc : (c : Int) < A 0) : OKA (wA A c) ∧ wA A c 0 = A 0 := by
  have h0 := h.1
  obtain ⟨h1, h2⟩ := w1_ok h hc 8 (by omega)
  unfold wA
  split
  · rename_i q
    have hf := frm_lt h hc (cpP_f q)
    have hp := pay_in2 (A (12 + 14 * c))
    obtain ⟨g1, g2⟩ := pyA_ok h1 (c := c) (f := frm A c) (p := payV (A (12 + 14 * c))) (by rw [h2]; exact hc) (by rw [h2]; exact hf.1) hp.1 (by rw [w1_other (by omega)]; exact (of_decide_eq_true q).2.2)
    exact ⟨g1, by rw [g2, h2]⟩
  · exact ⟨h1, h2⟩
theorem wN_ok {A : Nat → Int} (h : OKA A) : ∀ n : Nat, (n : Int) ≤ A 0 → OKA (wN A n) ∧ wN A n 0 = A 0 := by
  intro n
  induction n with
  | zero => intro _; exact ⟨h, rfl⟩
  | succ n ih =>
    intro hn
    obtain ⟨h1, h2⟩ := ih (by omega)
    obtain ⟨g1, g2⟩ := wA_ok h1 (c := n) (by rw [h2]; omega)
    exact ⟨g1, by show wA (wN A n) n 0 = _; rw [g2, h2]⟩
theorem mod8 {d : Int} (h : 0 ≤ d) : 0 ≤ d % 8 ∧ d % 8 < 8 := by omega
theorem mkA_ok {A : Nat → Int} (h : OKA A) {c : Nat} (hc : (c : Int) < A 0) : OKA (mkA A c) ∧ mkA A c 0 = A 0 := by
  have h0 := h.1
  have h1 := h.c1 hc
  have h3 := h.c3 hc
  have h5 := h.c5 hc
  have hd := h.day
  unfold mkA
  split
  · have e0 : up A (12 + 14 * c + 5) (min 9999 (A (12 + 14 * c + 5) + 1)) 0 = A 0 := up_ne (by omega)
    have g1 : OKA (up A (12 + 14 * c + 5) (min 9999 (A (12 + 14 * c + 5) + 1))) := h.st (by omega) (fun _ => rng5 (by omega) (by omega))
    have g2 := or_in (s := A (12 + 14 * c + 1)) (j := A 1 % 8) (by omega) (mod8 hd)
    exact ⟨g1.st (by omega) (fun _ => rng1 (by omega) (by omega)), by rw [up_ne (by omega), e0]⟩
  · have g := cnt_le (gdB A c) 8
    exact ⟨h.st (by omega) (fun _ => rng3 (by omega) (by omega)), by rw [up_ne (by omega)]⟩
theorem mkN_ok {A : Nat → Int} (h : OKA A) : ∀ n : Nat, (n : Int) ≤ A 0 → OKA (mkN A n) ∧ mkN A n 0 = A 0 := by
  intro n
  induction n with
  | zero => intro _; exact ⟨h, rfl⟩
  | succ n ih =>
    intro hn
    obtain ⟨h1, h2⟩ := ih (by omega)
    obtain ⟨g1, g2⟩ := mkA_ok h1 (c := n) (by rw [h2]; omega)
    exact ⟨g1, by show mkA (mkN A n) n 0 = _; rw [g2, h2]⟩
theorem rtN_ok {A : Nat → Int} (h : OKA A) : ∀ n : Nat, n ≤ 8 → OKA (rtN A n) ∧ rtN A n 0 = A 0 := by
  intro n
  induction n with
  | zero => intro _; exact ⟨h, rfl⟩
  | succ n ih =>
    intro hn
    obtain ⟨h1, h2⟩ := ih (by omega)
    have h3 := h1.rt (k := n) (by omega)
    exact ⟨h1.st (by omega) (fun _ => rngR (by omega) (by omega)), by show up _ _ _ 0 = _; rw [up_ne (by omega), h2]⟩
theorem dayA_ok {A : Nat → Int} (h : OKA A) : OKA (dayA A) ∧ dayA A 0 = A 0 ∧ dayA A 1 = A 1 + 1 := by
  have hn := h.n
  have hd := h.day
  obtain ⟨h1, h2⟩ := wN_ok h (nA A) (by omega)
  obtain ⟨h3, h4⟩ := mkN_ok h1 (nA A) (by omega)
  obtain ⟨h5, h6⟩ := rtN_ok h3 8 (by omega)
  exact ⟨h5.st (by omega) (fun _ => by unfold rng; omega), by show up _ _ _ 0 = _; rw [up_ne (by omega), h6, h4, h2], by show up _ _ _ 1 = _; rw [up_at]⟩

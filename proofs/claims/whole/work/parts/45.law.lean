/-! ===== the law's loop ===== -/
section LW
variable {S : Sx}
theorem in32_S (x : Int32) : in32 x.toInt := in32_toInt x

theorem lw_c224 {D x3 : Int} {mem : Zm} {Q : Option PV → Zm → Prop} (h : IV D mem) (hD : D ≤ 90000) (hx : 0 ≤ x3 ∧ x3 + 5 < S.1 ∧ x3 < 100000) (go : ∀ m, IV (D + 60) m → PW S mL_law Q 1537 [some (Aq 103), some (Aq 0), some (Aq 34), some (Iq x3)] [] m) : PW S mL_law Q 224 [some (Aq 103), some (Aq 0), some (Aq 34), some (Iq x3)] [] mem := by
  obtain ⟨v, m1, m2, p1, p2, p3⟩ := pr_right (S := S) h (by omega)
  exact rg_L_law_224 ⟨by omega, by omega, by omega, by omega, v, m1, p1, by omega, by omega, by omega, by omega, v, m2, p2, fun _ => go m2 p3, fun z => absurd rfl z⟩

theorem lw_c257 {D x3 : Int} {mem : Zm} {Q : Option PV → Zm → Prop} (h : IV D mem) (hD : D ≤ 90000) (hx : 0 ≤ x3 ∧ x3 + 5 < S.1 ∧ x3 < 100000) (go : ∀ m, IV (D + 60) m → PW S mL_law Q 1537 [some (Aq 103), some (Aq 0), some (Aq 34), some (Iq x3)] [] m) : PW S mL_law Q 257 [some (Aq 103), some (Aq 0), some (Aq 34), some (Iq x3)] [] mem := by
  obtain ⟨v, m1, m2, p1, p2, p3⟩ := pr_isRight (S := S) h (by omega)
  exact rg_L_law_257 ⟨by omega, by omega, v, m1, p1, by omega, by omega, v, m2, p2, fun _ => go m2 p3, fun z => absurd rfl z⟩

theorem lw_c280 {D x3 : Int} {mem : Zm} {Q : Option PV → Zm → Prop} (h : IV D mem) (hD : D ≤ 90000) (hx : 0 ≤ x3 ∧ x3 + 5 < S.1 ∧ x3 < 100000) (go : ∀ m, IV (D + 60) m → PW S mL_law Q 1537 [some (Aq 103), some (Aq 0), some (Aq 34), some (Iq x3)] [] m) : PW S mL_law Q 280 [some (Aq 103), some (Aq 0), some (Aq 34), some (Iq x3)] [] mem := by
  obtain ⟨v, m1, m2, p1, p2, p3⟩ := pr_limit (S := S) h (by omega)
  exact rg_L_law_280 ⟨by omega, by omega, v, m1, p1, by omega, by omega, v, m2, p2, fun _ => go m2 p3, fun z => absurd rfl z⟩

theorem lw_c303 {D x3 : Int} {mem : Zm} {Q : Option PV → Zm → Prop} (h : IV D mem) (hD : D ≤ 90000) (hx : 0 ≤ x3 ∧ x3 + 5 < S.1 ∧ x3 < 100000) (go : ∀ m, IV (D + 60) m → PW S mL_law Q 1537 [some (Aq 103), some (Aq 0), some (Aq 34), some (Iq x3)] [] m) : PW S mL_law Q 303 [some (Aq 103), some (Aq 0), some (Aq 34), some (Iq x3)] [] mem := by
  obtain ⟨v, m1, m2, p1, p2, p3⟩ := pr_child (S := S) h (by omega)
  exact rg_L_law_303 ⟨by omega, by omega, by omega, by omega, v, m1, p1, by omega, by omega, by omega, by omega, v, m2, p2, fun _ => go m2 p3, fun z => absurd rfl z⟩

theorem lw_c336 {D x3 : Int} {mem : Zm} {Q : Option PV → Zm → Prop} (h : IV D mem) (hD : D ≤ 90000) (hx : 0 ≤ x3 ∧ x3 + 5 < S.1 ∧ x3 < 100000) (go : ∀ m, IV (D + 60) m → PW S mL_law Q 1537 [some (Aq 103), some (Aq 0), some (Aq 34), some (Iq x3)] [] m) : PW S mL_law Q 336 [some (Aq 103), some (Aq 0), some (Aq 34), some (Iq x3)] [] mem := by
  obtain ⟨v, m1, m2, p1, p2, p3⟩ := pr_of (S := S) h (by omega)
  exact rg_L_law_336 ⟨by omega, by omega, by omega, by omega, v, m1, p1, by omega, by omega, by omega, by omega, v, m2, p2, fun _ => go m2 p3, fun z => absurd rfl z⟩

theorem lw_c369 {D x3 : Int} {mem : Zm} {Q : Option PV → Zm → Prop} (h : IV D mem) (hD : D ≤ 90000) (hx : 0 ≤ x3 ∧ x3 + 5 < S.1 ∧ x3 < 100000) (go : ∀ m, IV (D + 60) m → PW S mL_law Q 1537 [some (Aq 103), some (Aq 0), some (Aq 34), some (Iq x3)] [] m) : PW S mL_law Q 369 [some (Aq 103), some (Aq 0), some (Aq 34), some (Iq x3)] [] mem := by
  obtain ⟨v, m1, m2, p1, p2, p3⟩ := pr_change (S := S) h (by omega)
  exact rg_L_law_369 ⟨by omega, by omega, by omega, by omega, by omega, by omega, v, m1, p1, by omega, by omega, by omega, by omega, by omega, by omega, v, m2, p2, fun _ => go m2 p3, fun z => absurd rfl z⟩

theorem lw_c412 {D x3 : Int} {mem : Zm} {Q : Option PV → Zm → Prop} (h : IV D mem) (hD : D ≤ 90000) (hx : 0 ≤ x3 ∧ x3 + 5 < S.1 ∧ x3 < 100000) (go : ∀ m, IV (D + 60) m → PW S mL_law Q 1537 [some (Aq 103), some (Aq 0), some (Aq 34), some (Iq x3)] [] m) : PW S mL_law Q 412 [some (Aq 103), some (Aq 0), some (Aq 34), some (Iq x3)] [] mem := by
  obtain ⟨v, m1, m2, p1, p2, p3⟩ := pr_answer (S := S) h (by omega)
  exact rg_L_law_412 ⟨by omega, by omega, by omega, by omega, v, m1, p1, by omega, by omega, by omega, by omega, v, m2, p2, fun _ => go m2 p3, fun z => absurd rfl z⟩

theorem lw_c445 {D x3 : Int} {mem : Zm} {Q : Option PV → Zm → Prop} (h : IV D mem) (hD : D ≤ 90000) (hx : 0 ≤ x3 ∧ x3 + 5 < S.1 ∧ x3 < 100000) (go : ∀ m, IV (D + 60) m → PW S mL_law Q 1537 [some (Aq 103), some (Aq 0), some (Aq 34), some (Iq x3)] [] m) : PW S mL_law Q 445 [some (Aq 103), some (Aq 0), some (Aq 34), some (Iq x3)] [] mem := by
  obtain ⟨v, m1, m2, p1, p2, p3⟩ := pr_slips (S := S) h (by omega)
  exact rg_L_law_445 ⟨by omega, by omega, by omega, by omega, by omega, by omega, v, m1, p1, by omega, by omega, by omega, by omega, by omega, by omega, v, m2, p2, fun _ => go m2 p3, fun z => absurd rfl z⟩

theorem lw_c488 {D x3 : Int} {mem : Zm} {Q : Option PV → Zm → Prop} (h : IV D mem) (hD : D ≤ 90000) (hx : 0 ≤ x3 ∧ x3 + 5 < S.1 ∧ x3 < 100000) (go : ∀ m, IV (D + 60) m → PW S mL_law Q 1537 [some (Aq 103), some (Aq 0), some (Aq 34), some (Iq x3)] [] m) : PW S mL_law Q 488 [some (Aq 103), some (Aq 0), some (Aq 34), some (Iq x3)] [] mem := by
  obtain ⟨v, m1, m2, p1, p2, p3⟩ := pr_alike (S := S) h (by omega)
  exact rg_L_law_488 ⟨by omega, by omega, by omega, by omega, v, m1, p1, by omega, by omega, by omega, by omega, v, m2, p2, fun _ => go m2 p3, fun z => absurd rfl z⟩

theorem lw_c521 {D x3 : Int} {mem : Zm} {Q : Option PV → Zm → Prop} (h : IV D mem) (hD : D ≤ 90000) (hx : 0 ≤ x3 ∧ x3 + 5 < S.1 ∧ x3 < 100000) (go : ∀ m, IV (D + 60) m → PW S mL_law Q 1537 [some (Aq 103), some (Aq 0), some (Aq 34), some (Iq x3)] [] m) : PW S mL_law Q 521 [some (Aq 103), some (Aq 0), some (Aq 34), some (Iq x3)] [] mem := by
  obtain ⟨v, m1, m2, p1, p2, p3⟩ := pr_go (S := S) h (by omega)
  exact rg_L_law_521 ⟨by omega, by omega, v, m1, p1, by omega, by omega, v, m2, p2, fun _ => go m2 p3, fun z => absurd rfl z⟩

theorem lw_c544 {D x3 : Int} {mem : Zm} {Q : Option PV → Zm → Prop} (h : IV D mem) (hD : D ≤ 90000) (hx : 0 ≤ x3 ∧ x3 + 5 < S.1 ∧ x3 < 100000) (go : ∀ m, IV (D + 60) m → PW S mL_law Q 1537 [some (Aq 103), some (Aq 0), some (Aq 34), some (Iq x3)] [] m) : PW S mL_law Q 544 [some (Aq 103), some (Aq 0), some (Aq 34), some (Iq x3)] [] mem := by
  obtain ⟨v, m1, m2, p1, p2, p3⟩ := pr_now (S := S) h (by omega)
  exact rg_L_law_544 ⟨by omega, by omega, v, m1, p1, by omega, by omega, v, m2, p2, fun _ => go m2 p3, fun z => absurd rfl z⟩

theorem lw_c567 {D x3 : Int} {mem : Zm} {Q : Option PV → Zm → Prop} (h : IV D mem) (hD : D ≤ 90000) (hx : 0 ≤ x3 ∧ x3 + 5 < S.1 ∧ x3 < 100000) (go : ∀ m, IV (D + 60) m → PW S mL_law Q 1537 [some (Aq 103), some (Aq 0), some (Aq 34), some (Iq x3)] [] m) : PW S mL_law Q 567 [some (Aq 103), some (Aq 0), some (Aq 34), some (Iq x3)] [] mem := by
  obtain ⟨v, m1, m2, p1, p2, p3⟩ := pr_chain (S := S) h (by omega)
  exact rg_L_law_567 ⟨by omega, by omega, v, m1, p1, by omega, by omega, v, m2, p2, fun _ => go m2 p3, fun z => absurd rfl z⟩

theorem lw_c590 {D x3 : Int} {mem : Zm} {Q : Option PV → Zm → Prop} (h : IV D mem) (hD : D ≤ 90000) (hx : 0 ≤ x3 ∧ x3 + 5 < S.1 ∧ x3 < 100000) (go : ∀ m, IV (D + 60) m → PW S mL_law Q 1537 [some (Aq 103), some (Aq 0), some (Aq 34), some (Iq x3)] [] m) : PW S mL_law Q 590 [some (Aq 103), some (Aq 0), some (Aq 34), some (Iq x3)] [] mem := by
  obtain ⟨v, m1, m2, p1, p2, p3⟩ := pr_ahead (S := S) h (by omega)
  exact rg_L_law_590 ⟨by omega, by omega, by omega, by omega, by omega, by omega, v, m1, p1, by omega, by omega, by omega, by omega, by omega, by omega, v, m2, p2, fun _ => go m2 p3, fun z => absurd rfl z⟩

theorem lw_c633 {D x3 : Int} {mem : Zm} {Q : Option PV → Zm → Prop} (h : IV D mem) (hD : D ≤ 90000) (hx : 0 ≤ x3 ∧ x3 + 5 < S.1 ∧ x3 < 100000) (go : ∀ m, IV (D + 60) m → PW S mL_law Q 1537 [some (Aq 103), some (Aq 0), some (Aq 34), some (Iq x3)] [] m) : PW S mL_law Q 633 [some (Aq 103), some (Aq 0), some (Aq 34), some (Iq x3)] [] mem := by
  obtain ⟨v, m1, m2, p1, p2, p3⟩ := pr_writes (S := S) h (by omega)
  exact rg_L_law_633 ⟨by omega, by omega, by omega, by omega, by omega, by omega, v, m1, p1, by omega, by omega, by omega, by omega, by omega, by omega, v, m2, p2, fun _ => go m2 p3, fun z => absurd rfl z⟩

theorem lw_c676 {D x3 : Int} {mem : Zm} {Q : Option PV → Zm → Prop} (h : IV D mem) (hD : D ≤ 90000) (hx : 0 ≤ x3 ∧ x3 + 5 < S.1 ∧ x3 < 100000) (go : ∀ m, IV (D + 60) m → PW S mL_law Q 1537 [some (Aq 103), some (Aq 0), some (Aq 34), some (Iq x3)] [] m) : PW S mL_law Q 676 [some (Aq 103), some (Aq 0), some (Aq 34), some (Iq x3)] [] mem := by
  obtain ⟨v, m1, m2, p1, p2, p3⟩ := pr_caught (S := S) h (by omega)
  exact rg_L_law_676 ⟨by omega, by omega, v, m1, p1, by omega, by omega, v, m2, p2, fun _ => go m2 p3, fun z => absurd rfl z⟩

theorem lw_c699 {D x3 : Int} {mem : Zm} {Q : Option PV → Zm → Prop} (h : IV D mem) (hD : D ≤ 90000) (hx : 0 ≤ x3 ∧ x3 + 5 < S.1 ∧ x3 < 100000) (go : ∀ m, IV (D + 60) m → PW S mL_law Q 1537 [some (Aq 103), some (Aq 0), some (Aq 34), some (Iq x3)] [] m) : PW S mL_law Q 699 [some (Aq 103), some (Aq 0), some (Aq 34), some (Iq x3)] [] mem := by
  obtain ⟨v, m1, m2, p1, p2, p3⟩ := pr_when (S := S) h (by omega)
  exact rg_L_law_699 ⟨by omega, by omega, by omega, by omega, v, m1, p1, by omega, by omega, by omega, by omega, v, m2, p2, fun _ => go m2 p3, fun z => absurd rfl z⟩

theorem lw_c732 {D x3 : Int} {mem : Zm} {Q : Option PV → Zm → Prop} (h : IV D mem) (hD : D ≤ 90000) (hx : 0 ≤ x3 ∧ x3 + 5 < S.1 ∧ x3 < 100000) (go : ∀ m, IV (D + 60) m → PW S mL_law Q 1537 [some (Aq 103), some (Aq 0), some (Aq 34), some (Iq x3)] [] m) : PW S mL_law Q 732 [some (Aq 103), some (Aq 0), some (Aq 34), some (Iq x3)] [] mem := by
  obtain ⟨v, m1, m2, p1, p2, p3⟩ := pr_copyFrom (S := S) h (by omega)
  exact rg_L_law_732 ⟨by omega, by omega, by omega, by omega, v, m1, p1, by omega, by omega, by omega, by omega, v, m2, p2, fun _ => go m2 p3, fun z => absurd rfl z⟩

theorem lw_c765 {D x3 : Int} {mem : Zm} {Q : Option PV → Zm → Prop} (h : IV D mem) (hD : D ≤ 90000) (hx : 0 ≤ x3 ∧ x3 + 5 < S.1 ∧ x3 < 100000) (go : ∀ m, IV (D + 60) m → PW S mL_law Q 1537 [some (Aq 103), some (Aq 0), some (Aq 34), some (Iq x3)] [] m) : PW S mL_law Q 765 [some (Aq 103), some (Aq 0), some (Aq 34), some (Iq x3)] [] mem := by
  obtain ⟨v, m1, m2, p1, p2, p3⟩ := pr_kindFor (S := S) h (by omega)
  exact rg_L_law_765 ⟨by omega, by omega, by omega, by omega, v, m1, p1, by omega, by omega, by omega, by omega, v, m2, p2, fun _ => go m2 p3, fun z => absurd rfl z⟩

theorem lw_c798 {D x3 : Int} {mem : Zm} {Q : Option PV → Zm → Prop} (h : IV D mem) (hD : D ≤ 90000) (hx : 0 ≤ x3 ∧ x3 + 5 < S.1 ∧ x3 < 100000) (go : ∀ m, IV (D + 60) m → PW S mL_law Q 1537 [some (Aq 103), some (Aq 0), some (Aq 34), some (Iq x3)] [] m) : PW S mL_law Q 798 [some (Aq 103), some (Aq 0), some (Aq 34), some (Iq x3)] [] mem := by
  obtain ⟨v, m1, m2, p1, p2, p3⟩ := pr_learn (S := S) h (by omega)
  exact rg_L_law_798 ⟨by omega, by omega, by omega, by omega, v, m1, p1, by omega, by omega, by omega, by omega, v, m2, p2, fun _ => go m2 p3, fun z => absurd rfl z⟩

theorem lw_c831 {D x3 : Int} {mem : Zm} {Q : Option PV → Zm → Prop} (h : IV D mem) (hD : D ≤ 90000) (hx : 0 ≤ x3 ∧ x3 + 5 < S.1 ∧ x3 < 100000) (go : ∀ m, IV (D + 60) m → PW S mL_law Q 1537 [some (Aq 103), some (Aq 0), some (Aq 34), some (Iq x3)] [] m) : PW S mL_law Q 831 [some (Aq 103), some (Aq 0), some (Aq 34), some (Iq x3)] [] mem := by
  obtain ⟨v, m1, m2, p1, p2, p3⟩ := pr_limitFor (S := S) h (by omega)
  exact rg_L_law_831 ⟨by omega, by omega, v, m1, p1, by omega, by omega, v, m2, p2, fun _ => go m2 p3, fun z => absurd rfl z⟩

theorem lw_c854 {D x3 : Int} {mem : Zm} {Q : Option PV → Zm → Prop} (h : IV D mem) (hD : D ≤ 90000) (hx : 0 ≤ x3 ∧ x3 + 5 < S.1 ∧ x3 < 100000) (go : ∀ m, IV (D + 60) m → PW S mL_law Q 1537 [some (Aq 103), some (Aq 0), some (Aq 34), some (Iq x3)] [] m) : PW S mL_law Q 854 [some (Aq 103), some (Aq 0), some (Aq 34), some (Iq x3)] [] mem := by
  obtain ⟨v, m1, m2, p1, p2, p3⟩ := pr_forbid (S := S) h (by omega)
  exact rg_L_law_854 ⟨by omega, by omega, v, m1, p1, by omega, by omega, v, m2, p2, fun _ => go m2 p3, fun z => absurd rfl z⟩

theorem lw_c877 {D x3 : Int} {mem : Zm} {Q : Option PV → Zm → Prop} (h : IV D mem) (hD : D ≤ 90000) (hx : 0 ≤ x3 ∧ x3 + 5 < S.1 ∧ x3 < 100000) (go : ∀ m, IV (D + 60) m → PW S mL_law Q 1537 [some (Aq 103), some (Aq 0), some (Aq 34), some (Iq x3)] [] m) : PW S mL_law Q 877 [some (Aq 103), some (Aq 0), some (Aq 34), some (Iq x3)] [] mem := by
  obtain ⟨v, m1, m2, p1, p2, p3⟩ := pr_biscuitsFor (S := S) h (by omega)
  exact rg_L_law_877 ⟨by omega, by omega, by omega, by omega, v, m1, p1, by omega, by omega, by omega, by omega, v, m2, p2, fun _ => go m2 p3, fun z => absurd rfl z⟩

theorem lw_c910 {D x3 : Int} {mem : Zm} {Q : Option PV → Zm → Prop} (h : IV D mem) (hD : D ≤ 90000) (hx : 0 ≤ x3 ∧ x3 + 5 < S.1 ∧ x3 < 100000) (go : ∀ m, IV (D + 60) m → PW S mL_law Q 1537 [some (Aq 103), some (Aq 0), some (Aq 34), some (Iq x3)] [] m) : PW S mL_law Q 910 [some (Aq 103), some (Aq 0), some (Aq 34), some (Iq x3)] [] mem := by
  obtain ⟨v, m1, m2, p1, p2, p3⟩ := pr_sources (S := S) h (by omega)
  exact rg_L_law_910 ⟨by omega, by omega, by omega, by omega, v, m1, p1, by omega, by omega, by omega, by omega, v, m2, p2, fun _ => go m2 p3, fun z => absurd rfl z⟩

theorem lw_c943 {D x3 : Int} {mem : Zm} {Q : Option PV → Zm → Prop} (h : IV D mem) (hD : D ≤ 90000) (hx : 0 ≤ x3 ∧ x3 + 5 < S.1 ∧ x3 < 100000) (go : ∀ m, IV (D + 60) m → PW S mL_law Q 1537 [some (Aq 103), some (Aq 0), some (Aq 34), some (Iq x3)] [] m) : PW S mL_law Q 943 [some (Aq 103), some (Aq 0), some (Aq 34), some (Iq x3)] [] mem := by
  obtain ⟨v, m1, m2, p1, p2, p3⟩ := pr_fits (S := S) h (by omega)
  exact rg_L_law_943 ⟨by omega, by omega, by omega, by omega, v, m1, p1, by omega, by omega, by omega, by omega, v, m2, p2, fun _ => go m2 p3, fun z => absurd rfl z⟩

theorem lw_c976 {D x3 : Int} {mem : Zm} {Q : Option PV → Zm → Prop} (h : IV D mem) (hD : D ≤ 90000) (hx : 0 ≤ x3 ∧ x3 + 5 < S.1 ∧ x3 < 100000) (go : ∀ m, IV (D + 60) m → PW S mL_law Q 1537 [some (Aq 103), some (Aq 0), some (Aq 34), some (Iq x3)] [] m) : PW S mL_law Q 976 [some (Aq 103), some (Aq 0), some (Aq 34), some (Iq x3)] [] mem := by
  obtain ⟨v, m1, m2, p1, p2, p3⟩ := pr_knew (S := S) h (by omega)
  exact rg_L_law_976 ⟨by omega, by omega, by omega, by omega, v, m1, p1, by omega, by omega, by omega, by omega, v, m2, p2, fun _ => go m2 p3, fun z => absurd rfl z⟩

theorem lw_c1009 {D x3 : Int} {mem : Zm} {Q : Option PV → Zm → Prop} (h : IV D mem) (hD : D ≤ 90000) (hx : 0 ≤ x3 ∧ x3 + 5 < S.1 ∧ x3 < 100000) (go : ∀ m, IV (D + 60) m → PW S mL_law Q 1537 [some (Aq 103), some (Aq 0), some (Aq 34), some (Iq x3)] [] m) : PW S mL_law Q 1009 [some (Aq 103), some (Aq 0), some (Aq 34), some (Iq x3)] [] mem := by
  obtain ⟨v, m1, m2, p1, p2, p3⟩ := pr_kinds (S := S) h (by omega)
  exact rg_L_law_1009 ⟨by omega, by omega, by omega, by omega, v, m1, p1, by omega, by omega, by omega, by omega, v, m2, p2, fun _ => go m2 p3, fun z => absurd rfl z⟩

theorem lw_c1042 {D x3 : Int} {mem : Zm} {Q : Option PV → Zm → Prop} (h : IV D mem) (hD : D ≤ 90000) (hx : 0 ≤ x3 ∧ x3 + 5 < S.1 ∧ x3 < 100000) (go : ∀ m, IV (D + 60) m → PW S mL_law Q 1537 [some (Aq 103), some (Aq 0), some (Aq 34), some (Iq x3)] [] m) : PW S mL_law Q 1042 [some (Aq 103), some (Aq 0), some (Aq 34), some (Iq x3)] [] mem := by
  obtain ⟨v, m1, m2, p1, p2, p3⟩ := pr_seats (S := S) h (by omega)
  exact rg_L_law_1042 ⟨by omega, by omega, v, m1, p1, by omega, by omega, v, m2, p2, fun _ => go m2 p3, fun z => absurd rfl z⟩

theorem lw_c1065 {D x3 : Int} {mem : Zm} {Q : Option PV → Zm → Prop} (h : IV D mem) (hD : D ≤ 90000) (hx : 0 ≤ x3 ∧ x3 + 5 < S.1 ∧ x3 < 100000) (go : ∀ m, IV (D + 60) m → PW S mL_law Q 1537 [some (Aq 103), some (Aq 0), some (Aq 34), some (Iq x3)] [] m) : PW S mL_law Q 1065 [some (Aq 103), some (Aq 0), some (Aq 34), some (Iq x3)] [] mem := by
  obtain ⟨v, m1, m2, p1, p2, p3⟩ := pr_odds (S := S) h (by omega)
  exact rg_L_law_1065 ⟨by omega, by omega, by omega, by omega, by omega, by omega, v, m1, p1, by omega, by omega, by omega, by omega, by omega, by omega, v, m2, p2, fun _ => go m2 p3, fun z => absurd (cmpE.2 rfl) z⟩

theorem lw_c1109 {D x3 : Int} {mem : Zm} {Q : Option PV → Zm → Prop} (h : IV D mem) (hD : D ≤ 90000) (hx : 0 ≤ x3 ∧ x3 + 5 < S.1 ∧ x3 < 100000) (go : ∀ m, IV (D + 60) m → PW S mL_law Q 1537 [some (Aq 103), some (Aq 0), some (Aq 34), some (Iq x3)] [] m) : PW S mL_law Q 1109 [some (Aq 103), some (Aq 0), some (Aq 34), some (Iq x3)] [] mem := by
  obtain ⟨v, m1, m2, p1, p2, p3⟩ := pr_seed (S := S) h (by omega)
  exact rg_L_law_1109 ⟨by omega, by omega, v, m1, p1, by omega, by omega, v, m2, p2, fun _ => go m2 p3, fun z => absurd rfl z⟩

theorem lw_c1132 {D x3 : Int} {mem : Zm} {Q : Option PV → Zm → Prop} (h : IV D mem) (hD : D ≤ 90000) (hx : 0 ≤ x3 ∧ x3 + 5 < S.1 ∧ x3 < 100000) (go : ∀ m, IV (D + 60) m → PW S mL_law Q 1537 [some (Aq 103), some (Aq 0), some (Aq 34), some (Iq x3)] [] m) : PW S mL_law Q 1132 [some (Aq 103), some (Aq 0), some (Aq 34), some (Iq x3)] [] mem := by
  obtain ⟨v, m1, m2, p1, p2, p3⟩ := pr_feed (S := S) h (by omega)
  exact rg_L_law_1132 ⟨by omega, by omega, by omega, by omega, v, m1, p1, by omega, by omega, by omega, by omega, v, m2, p2, fun _ => go m2 p3, fun z => absurd rfl z⟩

theorem lw_c1165 {D x3 : Int} {mem : Zm} {Q : Option PV → Zm → Prop} (h : IV D mem) (hD : D ≤ 90000) (hx : 0 ≤ x3 ∧ x3 + 5 < S.1 ∧ x3 < 100000) (go : ∀ m, IV (D + 60) m → PW S mL_law Q 1537 [some (Aq 103), some (Aq 0), some (Aq 34), some (Iq x3)] [] m) : PW S mL_law Q 1165 [some (Aq 103), some (Aq 0), some (Aq 34), some (Iq x3)] [] mem := by
  obtain ⟨v, m1, m2, p1, p2, p3⟩ := pr_wipe (S := S) h (by omega)
  exact rg_L_law_1165 ⟨v, m1, p1, v, m2, p2, fun _ => go m2 p3, fun z => absurd rfl z⟩

theorem lw_c1178 {D x3 : Int} {mem : Zm} {Q : Option PV → Zm → Prop} (h : IV D mem) (hD : D ≤ 90000) (hx : 0 ≤ x3 ∧ x3 + 5 < S.1 ∧ x3 < 100000) (go : ∀ m, IV (D + 60) m → PW S mL_law Q 1537 [some (Aq 103), some (Aq 0), some (Aq 34), some (Iq x3)] [] m) : PW S mL_law Q 1178 [some (Aq 103), some (Aq 0), some (Aq 34), some (Iq x3)] [] mem := by
  obtain ⟨v, m1, m2, p1, p2, p3⟩ := pr_text (S := S) h (by omega)
  exact rg_L_law_1178 ⟨v, m1, p1, v, m2, p2, fun _ => go m2 p3, fun z => absurd rfl z⟩

theorem lw_c1191 {D x3 : Int} {mem : Zm} {Q : Option PV → Zm → Prop} (h : IV D mem) (hD : D ≤ 90000) (hx : 0 ≤ x3 ∧ x3 + 5 < S.1 ∧ x3 < 100000) (go : ∀ m, IV (D + 60) m → PW S mL_law Q 1537 [some (Aq 103), some (Aq 0), some (Aq 34), some (Iq x3)] [] m) : PW S mL_law Q 1191 [some (Aq 103), some (Aq 0), some (Aq 34), some (Iq x3)] [] mem := by
  obtain ⟨v, m1, m2, p1, p2, p3⟩ := pr_hold (S := S) h (by omega)
  exact rg_L_law_1191 ⟨by omega, by omega, by omega, by omega, v, m1, p1, by omega, by omega, by omega, by omega, v, m2, p2, fun _ => go m2 p3, fun z => absurd rfl z⟩

theorem lw_c1224 {D x3 : Int} {mem : Zm} {Q : Option PV → Zm → Prop} (h : IV D mem) (hD : D ≤ 90000) (hx : 0 ≤ x3 ∧ x3 + 5 < S.1 ∧ x3 < 100000) (go : ∀ m, IV (D + 60) m → PW S mL_law Q 1537 [some (Aq 103), some (Aq 0), some (Aq 34), some (Iq x3)] [] m) : PW S mL_law Q 1224 [some (Aq 103), some (Aq 0), some (Aq 34), some (Iq x3)] [] mem := by
  obtain ⟨v, m1, m2, p1, p2, p3⟩ := pr_as (S := S) h (by omega)
  exact rg_L_law_1224 ⟨by omega, by omega, by omega, by omega, v, m1, p1, by omega, by omega, by omega, by omega, v, m2, p2, fun _ => go m2 p3, fun z => absurd rfl z⟩

theorem lw_c1257 {D x3 : Int} {mem : Zm} {Q : Option PV → Zm → Prop} (h : IV D mem) (hD : D ≤ 90000) (hx : 0 ≤ x3 ∧ x3 + 5 < S.1 ∧ x3 < 100000) (go : ∀ m, IV (D + 60) m → PW S mL_law Q 1537 [some (Aq 103), some (Aq 0), some (Aq 34), some (Iq x3)] [] m) : PW S mL_law Q 1257 [some (Aq 103), some (Aq 0), some (Aq 34), some (Iq x3)] [] mem := by
  obtain ⟨v, m1, m2, p1, p2, p3⟩ := pr_sheet (S := S) h (by omega)
  exact rg_L_law_1257 ⟨by omega, by omega, by omega, by omega, by omega, by omega, v, m1, p1, by omega, by omega, by omega, by omega, by omega, by omega, v, m2, p2, fun _ => go m2 p3, fun z => absurd rfl z⟩

theorem lw_c1300 {D x3 : Int} {mem : Zm} {Q : Option PV → Zm → Prop} (h : IV D mem) (hD : D ≤ 90000) (hx : 0 ≤ x3 ∧ x3 + 5 < S.1 ∧ x3 < 100000) (go : ∀ m, IV (D + 60) m → PW S mL_law Q 1537 [some (Aq 103), some (Aq 0), some (Aq 34), some (Iq x3)] [] m) : PW S mL_law Q 1300 [some (Aq 103), some (Aq 0), some (Aq 34), some (Iq x3)] [] mem := by
  obtain ⟨v, m1, m2, p1, p2, p3⟩ := pr_write (S := S) h (by omega)
  exact rg_L_law_1300 ⟨by omega, by omega, by omega, by omega, by omega, by omega, v, m1, p1, by omega, by omega, by omega, by omega, by omega, by omega, v, m2, p2, fun _ => go m2 p3, fun z => absurd rfl z⟩

theorem lw_c1343 {D x3 : Int} {mem : Zm} {Q : Option PV → Zm → Prop} (h : IV D mem) (hD : D ≤ 90000) (hx : 0 ≤ x3 ∧ x3 + 5 < S.1 ∧ x3 < 100000) (go : ∀ m, IV (D + 60) m → PW S mL_law Q 1537 [some (Aq 103), some (Aq 0), some (Aq 34), some (Iq x3)] [] m) : PW S mL_law Q 1343 [some (Aq 103), some (Aq 0), some (Aq 34), some (Iq x3)] [] mem := by
  obtain ⟨v, m1, m2, p1, p2, p3⟩ := pr_copy (S := S) h (by omega) (in32_S _) (in32_S _)
  exact rg_L_law_1343 ⟨by omega, by omega, by omega, by omega, by omega, by omega, by omega, by omega, by omega, by omega, v, m1, p1, by omega, by omega, by omega, by omega, by omega, by omega, by omega, by omega, by omega, by omega, v, m2, p2, fun _ => go m2 p3, fun z => absurd rfl z⟩

theorem lw_c1406 {D x3 : Int} {mem : Zm} {Q : Option PV → Zm → Prop} (h : IV D mem) (hD : D ≤ 90000) (hx : 0 ≤ x3 ∧ x3 + 5 < S.1 ∧ x3 < 100000) (go : ∀ m, IV (D + 60) m → PW S mL_law Q 1537 [some (Aq 103), some (Aq 0), some (Aq 34), some (Iq x3)] [] m) : PW S mL_law Q 1406 [some (Aq 103), some (Aq 0), some (Aq 34), some (Iq x3)] [] mem := by
  obtain ⟨v, m1, m2, p1, p2, p3⟩ := pr_load (S := S) h (by omega)
  exact rg_L_law_1406 ⟨by omega, by omega, v, m1, p1, by omega, by omega, v, m2, p2, fun _ => go m2 p3, fun z => absurd rfl z⟩

theorem lw_c1429 {D x3 : Int} {mem : Zm} {Q : Option PV → Zm → Prop} (h : IV D mem) (hD : D ≤ 90000) (hx : 0 ≤ x3 ∧ x3 + 5 < S.1 ∧ x3 < 100000) (go : ∀ m, IV (D + 60) m → PW S mL_law Q 1537 [some (Aq 103), some (Aq 0), some (Aq 34), some (Iq x3)] [] m) : PW S mL_law Q 1429 [some (Aq 103), some (Aq 0), some (Aq 34), some (Iq x3)] [] mem := by
  obtain ⟨v, m1, m2, p1, p2, p3⟩ := pr_judge (S := S) h (by omega)
  exact rg_L_law_1429 ⟨by omega, by omega, v, m1, p1, by omega, by omega, v, m2, p2, fun _ => go m2 p3, fun z => absurd rfl z⟩

theorem lw_c1452 {D x3 : Int} {mem : Zm} {Q : Option PV → Zm → Prop} (h : IV D mem) (hD : D ≤ 90000) (hx : 0 ≤ x3 ∧ x3 + 5 < S.1 ∧ x3 < 100000) (go : ∀ m, IV (D + 60) m → PW S mL_law Q 1537 [some (Aq 103), some (Aq 0), some (Aq 34), some (Iq x3)] [] m) : PW S mL_law Q 1452 [some (Aq 103), some (Aq 0), some (Aq 34), some (Iq x3)] [] mem := by
  obtain ⟨v, m1, m2, p1, p2, p3⟩ := pr_image (S := S) h (by omega)
  exact rg_L_law_1452 ⟨v, m1, p1, v, m2, p2, fun _ => go m2 p3, fun z => absurd rfl z⟩

theorem lw_c1465 {D x3 : Int} {mem : Zm} {Q : Option PV → Zm → Prop} (h : IV D mem) (hD : D ≤ 90000) (hx : 0 ≤ x3 ∧ x3 + 5 < S.1 ∧ x3 < 100000) (go : ∀ m, IV (D + 60) m → PW S mL_law Q 1537 [some (Aq 103), some (Aq 0), some (Aq 34), some (Iq x3)] [] m) : PW S mL_law Q 1465 [some (Aq 103), some (Aq 0), some (Aq 34), some (Iq x3)] [] mem := by
  obtain ⟨v, m1, m2, p1, p2, p3⟩ := pr_undo (S := S) h (by omega)
  exact rg_L_law_1465 ⟨v, m1, p1, v, m2, p2, fun _ => go m2 p3, fun z => absurd rfl z⟩

theorem lw_c1478 {D x3 : Int} {mem : Zm} {Q : Option PV → Zm → Prop} (h : IV D mem) (hD : D ≤ 90000) (hx : 0 ≤ x3 ∧ x3 + 5 < S.1 ∧ x3 < 100000) (go : ∀ m, IV (D + 60) m → PW S mL_law Q 1537 [some (Aq 103), some (Aq 0), some (Aq 34), some (Iq x3)] [] m) : PW S mL_law Q 1478 [some (Aq 103), some (Aq 0), some (Aq 34), some (Iq x3)] [] mem := by
  obtain ⟨v, m1, m2, p1, p2, p3⟩ := pr_tear (S := S) h (by omega)
  exact rg_L_law_1478 ⟨v, m1, p1, v, m2, p2, fun _ => go m2 p3, fun z => absurd rfl z⟩

theorem lw_c1491 {D x3 : Int} {mem : Zm} {Q : Option PV → Zm → Prop} (h : IV D mem) (hD : D ≤ 90000) (hx : 0 ≤ x3 ∧ x3 + 5 < S.1 ∧ x3 < 100000) (go : ∀ m, IV (D + 60) m → PW S mL_law Q 1537 [some (Aq 103), some (Aq 0), some (Aq 34), some (Iq x3)] [] m) : PW S mL_law Q 1491 [some (Aq 103), some (Aq 0), some (Aq 34), some (Iq x3)] [] mem := by
  obtain ⟨v, m1, m2, p1, p2, p3⟩ := pr_count (S := S) h (by omega)
  exact rg_L_law_1491 ⟨by omega, by omega, v, m1, p1, by omega, by omega, v, m2, p2, fun _ => go m2 p3, fun z => absurd rfl z⟩

theorem lw_c1514 {D x3 : Int} {mem : Zm} {Q : Option PV → Zm → Prop} (h : IV D mem) (hD : D ≤ 90000) (hx : 0 ≤ x3 ∧ x3 + 5 < S.1 ∧ x3 < 100000) (go : ∀ m, IV (D + 60) m → PW S mL_law Q 1537 [some (Aq 103), some (Aq 0), some (Aq 34), some (Iq x3)] [] m) : PW S mL_law Q 1514 [some (Aq 103), some (Aq 0), some (Aq 34), some (Iq x3)] [] mem := by
  obtain ⟨v, m1, m2, p1, p2, p3⟩ := pr_status (S := S) h (by omega)
  exact rg_L_law_1514 ⟨by omega, by omega, v, m1, p1, by omega, by omega, v, m2, p2, fun _ => go m2 p3, fun z => absurd rfl z⟩

theorem law_loop (hS : S.1 ≤ 3072) : ∀ (f j : Nat) (mem : Zm), IV ((60 * j : Nat) : Int) mem → 513 ≤ j + f → 6 * j ≤ 3078 → PW S mL_law (fun r _ => r = some (Iq 1)) 18 [some (Aq 103), some (Aq 0), some (Aq 34), some (Iq ((6 * j : Nat) : Int))] [] mem := by
  intro f
  induction f with
  | zero =>
    intro j mem h hj h6
    exact rg_L_law_18 ⟨by omega, fun _ => rfl, fun z => by omega⟩
  | succ f ih =>
    intro j mem h hj h6
    by_cases c : (S.1 : Int) - 6 < ((6 * j : Nat) : Int)
    · exact rg_L_law_18 ⟨by omega, fun _ => rfl, fun z => absurd c z⟩
    · have go : ∀ m, IV (((60 * j : Nat) : Int) + 60) m → PW S mL_law (fun r _ => r = some (Iq 1)) 1537 [some (Aq 103), some (Aq 0), some (Aq 34), some (Iq ((6 * j : Nat) : Int))] [] m := fun m hm => by
        refine rg_L_law_1537 ⟨by omega, ?_⟩
        rw [show ((6 * j : Nat) : Int) + 6 = ((6 * (j + 1) : Nat) : Int) by omega]
        exact ih (j + 1) m ((show ((60 * (j + 1) : Nat) : Int) = ((60 * j : Nat) : Int) + 60 by omega) ▸ hm) (by omega) (by omega)
      refine rg_L_law_18 ⟨by omega, fun z => absurd z c, fun _ => ⟨by omega, fun _ => lw_c224 h (by omega) (by omega) go, fun _ => lw_c257 h (by omega) (by omega) go, fun _ => lw_c280 h (by omega) (by omega) go, fun _ => lw_c303 h (by omega) (by omega) go, fun _ => lw_c336 h (by omega) (by omega) go, fun _ => lw_c369 h (by omega) (by omega) go, fun _ => lw_c412 h (by omega) (by omega) go, fun _ => lw_c445 h (by omega) (by omega) go, fun _ => lw_c488 h (by omega) (by omega) go, fun _ => lw_c521 h (by omega) (by omega) go, fun _ => lw_c544 h (by omega) (by omega) go, fun _ => lw_c567 h (by omega) (by omega) go, fun _ => lw_c590 h (by omega) (by omega) go, fun _ => lw_c633 h (by omega) (by omega) go, fun _ => lw_c676 h (by omega) (by omega) go, fun _ => lw_c699 h (by omega) (by omega) go, fun _ => lw_c732 h (by omega) (by omega) go, fun _ => lw_c765 h (by omega) (by omega) go, fun _ => lw_c798 h (by omega) (by omega) go, fun _ => lw_c831 h (by omega) (by omega) go, fun _ => lw_c854 h (by omega) (by omega) go, fun _ => lw_c877 h (by omega) (by omega) go, fun _ => lw_c910 h (by omega) (by omega) go, fun _ => lw_c943 h (by omega) (by omega) go, fun _ => lw_c976 h (by omega) (by omega) go, fun _ => lw_c1009 h (by omega) (by omega) go, fun _ => lw_c1042 h (by omega) (by omega) go, fun _ => lw_c1065 h (by omega) (by omega) go, fun _ => lw_c1109 h (by omega) (by omega) go, fun _ => lw_c1132 h (by omega) (by omega) go, fun _ => lw_c1165 h (by omega) (by omega) go, fun _ => lw_c1178 h (by omega) (by omega) go, fun _ => lw_c1191 h (by omega) (by omega) go, fun _ => lw_c1224 h (by omega) (by omega) go, fun _ => lw_c1257 h (by omega) (by omega) go, fun _ => lw_c1300 h (by omega) (by omega) go, fun _ => lw_c1343 h (by omega) (by omega) go, fun _ => lw_c1406 h (by omega) (by omega) go, fun _ => lw_c1429 h (by omega) (by omega) go, fun _ => lw_c1452 h (by omega) (by omega) go, fun _ => lw_c1465 h (by omega) (by omega) go, fun _ => lw_c1478 h (by omega) (by omega) go, fun _ => lw_c1491 h (by omega) (by omega) go, fun _ => lw_c1514 h (by omega) (by omega) go, fun _ => go mem (h.keep Vis.rf (by omega))⟩⟩
end LW

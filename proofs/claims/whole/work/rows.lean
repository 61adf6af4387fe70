section
-- ===== PART A: goes FIRST, ahead of the names: the tables' words, and 'selects' of the private methods out of them =====
/-- a private method of a class that the tables say can be made, by its rows of tables_1 -/
def lw_okq (q : MethodName × Nat) : Prop := (q.1.cls ≠ "java/lang/invoke/MethodHandle" ∧ q.1.cls ≠ "java/lang/invoke/VarHandle") ∧ Cond.instantiable q.1.cls q.2 ∈ tables_1 ∧ Cond.privateMethod q.1 ∈ tables_1 ∧ Cond.instanceMethod q.1 ∈ tables_1
theorem lw_p0 : lw_okq (⟨"SumsCopied", "finding", "(I)I"⟩, 7) := ⟨⟨by decide +kernel, by decide +kernel⟩, List.mem_of_getElem? (i := 11) (by decide +kernel), List.mem_of_getElem? (i := 149) (by decide +kernel), List.mem_of_getElem? (i := 150) (by decide +kernel)⟩
theorem lw_p1 : lw_okq (⟨"SumsCopied", "canBecome", "(III)Z"⟩, 7) := ⟨⟨by decide +kernel, by decide +kernel⟩, List.mem_of_getElem? (i := 11) (by decide +kernel), List.mem_of_getElem? (i := 209) (by decide +kernel), List.mem_of_getElem? (i := 210) (by decide +kernel)⟩
theorem lw_p2 : lw_okq (⟨"SumsCopied", "daysUntil", "(III)I"⟩, 7) := ⟨⟨by decide +kernel, by decide +kernel⟩, List.mem_of_getElem? (i := 11) (by decide +kernel), List.mem_of_getElem? (i := 344) (by decide +kernel), List.mem_of_getElem? (i := 345) (by decide +kernel)⟩
theorem lw_p3 : lw_okq (⟨"SumsCopied", "marksWith", "(IIII)I"⟩, 7) := ⟨⟨by decide +kernel, by decide +kernel⟩, List.mem_of_getElem? (i := 11) (by decide +kernel), List.mem_of_getElem? (i := 357) (by decide +kernel), List.mem_of_getElem? (i := 358) (by decide +kernel)⟩
theorem lw_p4 : lw_okq (⟨"SumsCopied", "nobodyIsCaughtInTrial", "(I)Z"⟩, 7) := ⟨⟨by decide +kernel, by decide +kernel⟩, List.mem_of_getElem? (i := 11) (by decide +kernel), List.mem_of_getElem? (i := 373) (by decide +kernel), List.mem_of_getElem? (i := 374) (by decide +kernel)⟩
theorem lw_p5 : lw_okq (⟨"SumsCopied", "tryWithoutCopiesFrom", "(I)V"⟩, 7) := ⟨⟨by decide +kernel, by decide +kernel⟩, List.mem_of_getElem? (i := 11) (by decide +kernel), List.mem_of_getElem? (i := 382) (by decide +kernel), List.mem_of_getElem? (i := 383) (by decide +kernel)⟩
theorem lw_p6 : lw_okq (⟨"SumsCopied", "sheetAndChildCheck", "(II)I"⟩, 7) := ⟨⟨by decide +kernel, by decide +kernel⟩, List.mem_of_getElem? (i := 11) (by decide +kernel), List.mem_of_getElem? (i := 394) (by decide +kernel), List.mem_of_getElem? (i := 395) (by decide +kernel)⟩
theorem lw_p7 : lw_okq (⟨"SumsCopied", "sheetCheck", "(I)I"⟩, 7) := ⟨⟨by decide +kernel, by decide +kernel⟩, List.mem_of_getElem? (i := 11) (by decide +kernel), List.mem_of_getElem? (i := 398) (by decide +kernel), List.mem_of_getElem? (i := 399) (by decide +kernel)⟩
theorem lw_p8 : lw_okq (⟨"SumsCopied", "writesAsAsked", "(LSumsCopied$Sheet;III)Z"⟩, 7) := ⟨⟨by decide +kernel, by decide +kernel⟩, List.mem_of_getElem? (i := 11) (by decide +kernel), List.mem_of_getElem? (i := 407) (by decide +kernel), List.mem_of_getElem? (i := 408) (by decide +kernel)⟩
theorem lw_p9 : lw_okq (⟨"SumsCopied", "tryDayKnowingNothing", "(I)V"⟩, 7) := ⟨⟨by decide +kernel, by decide +kernel⟩, List.mem_of_getElem? (i := 11) (by decide +kernel), List.mem_of_getElem? (i := 419) (by decide +kernel), List.mem_of_getElem? (i := 420) (by decide +kernel)⟩
theorem lw_p10 : lw_okq (⟨"SumsCopied", "fitsUnknown", "(LSumsCopied$Sheet;II)Z"⟩, 7) := ⟨⟨by decide +kernel, by decide +kernel⟩, List.mem_of_getElem? (i := 11) (by decide +kernel), List.mem_of_getElem? (i := 423) (by decide +kernel), List.mem_of_getElem? (i := 424) (by decide +kernel)⟩
theorem lw_p11 : lw_okq (⟨"SumsCopied", "fitsKnown", "(LSumsCopied$Sheet;I)Z"⟩, 7) := ⟨⟨by decide +kernel, by decide +kernel⟩, List.mem_of_getElem? (i := 11) (by decide +kernel), List.mem_of_getElem? (i := 427) (by decide +kernel), List.mem_of_getElem? (i := 428) (by decide +kernel)⟩
theorem lw_p12 : lw_okq (⟨"SumsCopiedModel", "becomes", "(II)I"⟩, 18) := ⟨⟨by decide +kernel, by decide +kernel⟩, List.mem_of_getElem? (i := 597) (by decide +kernel), List.mem_of_getElem? (i := 669) (by decide +kernel), List.mem_of_getElem? (i := 670) (by decide +kernel)⟩
theorem lw_p13 : lw_okq (⟨"SumsCopiedModel", "finds", "(I)I"⟩, 18) := ⟨⟨by decide +kernel, by decide +kernel⟩, List.mem_of_getElem? (i := 597) (by decide +kernel), List.mem_of_getElem? (i := 674) (by decide +kernel), List.mem_of_getElem? (i := 675) (by decide +kernel)⟩
theorem lw_p14 : lw_okq (⟨"SumsCopiedModel", "comes", "(II)V"⟩, 18) := ⟨⟨by decide +kernel, by decide +kernel⟩, List.mem_of_getElem? (i := 597) (by decide +kernel), List.mem_of_getElem? (i := 694) (by decide +kernel), List.mem_of_getElem? (i := 695) (by decide +kernel)⟩
theorem lw_p15 : lw_okq (⟨"SumsCopiedModel", "isChild", "(I)Z"⟩, 18) := ⟨⟨by decide +kernel, by decide +kernel⟩, List.mem_of_getElem? (i := 597) (by decide +kernel), List.mem_of_getElem? (i := 705) (by decide +kernel), List.mem_of_getElem? (i := 706) (by decide +kernel)⟩
def lw_privs_1 : List (MethodName × Nat) := [(⟨"SumsCopied", "finding", "(I)I"⟩, 7), (⟨"SumsCopied", "canBecome", "(III)Z"⟩, 7), (⟨"SumsCopied", "daysUntil", "(III)I"⟩, 7), (⟨"SumsCopied", "marksWith", "(IIII)I"⟩, 7), (⟨"SumsCopied", "nobodyIsCaughtInTrial", "(I)Z"⟩, 7), (⟨"SumsCopied", "tryWithoutCopiesFrom", "(I)V"⟩, 7), (⟨"SumsCopied", "sheetAndChildCheck", "(II)I"⟩, 7), (⟨"SumsCopied", "sheetCheck", "(I)I"⟩, 7), (⟨"SumsCopied", "writesAsAsked", "(LSumsCopied$Sheet;III)Z"⟩, 7), (⟨"SumsCopied", "tryDayKnowingNothing", "(I)V"⟩, 7), (⟨"SumsCopied", "fitsUnknown", "(LSumsCopied$Sheet;II)Z"⟩, 7), (⟨"SumsCopied", "fitsKnown", "(LSumsCopied$Sheet;I)Z"⟩, 7), (⟨"SumsCopiedModel", "becomes", "(II)I"⟩, 18), (⟨"SumsCopiedModel", "finds", "(I)I"⟩, 18), (⟨"SumsCopiedModel", "comes", "(II)V"⟩, 18), (⟨"SumsCopiedModel", "isChild", "(I)Z"⟩, 18)]
theorem lw_r1 : ∀ q ∈ lw_privs_1, lw_okq q := List.forall_mem_cons.mpr ⟨lw_p0, List.forall_mem_cons.mpr ⟨lw_p1, List.forall_mem_cons.mpr ⟨lw_p2, List.forall_mem_cons.mpr ⟨lw_p3, List.forall_mem_cons.mpr ⟨lw_p4, List.forall_mem_cons.mpr ⟨lw_p5, List.forall_mem_cons.mpr ⟨lw_p6, List.forall_mem_cons.mpr ⟨lw_p7, List.forall_mem_cons.mpr ⟨lw_p8, List.forall_mem_cons.mpr ⟨lw_p9, List.forall_mem_cons.mpr ⟨lw_p10, List.forall_mem_cons.mpr ⟨lw_p11, List.forall_mem_cons.mpr ⟨lw_p12, List.forall_mem_cons.mpr ⟨lw_p13, List.forall_mem_cons.mpr ⟨lw_p14, List.forall_mem_cons.mpr ⟨lw_p15, fun _ h => absurd h List.not_mem_nil⟩⟩⟩⟩⟩⟩⟩⟩⟩⟩⟩⟩⟩⟩⟩⟩
theorem lw_p16 : lw_okq (⟨"SumsCopiedModel", "its", "(II)I"⟩, 18) := ⟨⟨by decide +kernel, by decide +kernel⟩, List.mem_of_getElem? (i := 597) (by decide +kernel), List.mem_of_getElem? (i := 710) (by decide +kernel), List.mem_of_getElem? (i := 711) (by decide +kernel)⟩
theorem lw_p17 : lw_okq (⟨"SumsCopiedModel", "lends", "(I)Z"⟩, 18) := ⟨⟨by decide +kernel, by decide +kernel⟩, List.mem_of_getElem? (i := 597) (by decide +kernel), List.mem_of_getElem? (i := 717) (by decide +kernel), List.mem_of_getElem? (i := 718) (by decide +kernel)⟩
theorem lw_p18 : lw_okq (⟨"SumsCopiedModel", "answered", "(I)I"⟩, 18) := ⟨⟨by decide +kernel, by decide +kernel⟩, List.mem_of_getElem? (i := 597) (by decide +kernel), List.mem_of_getElem? (i := 721) (by decide +kernel), List.mem_of_getElem? (i := 722) (by decide +kernel)⟩
theorem lw_p19 : lw_okq (⟨"SumsCopiedModel", "may", "(III)Z"⟩, 18) := ⟨⟨by decide +kernel, by decide +kernel⟩, List.mem_of_getElem? (i := 597) (by decide +kernel), List.mem_of_getElem? (i := 729) (by decide +kernel), List.mem_of_getElem? (i := 730) (by decide +kernel)⟩
theorem lw_p20 : lw_okq (⟨"SumsCopiedModel", "slipsOf", "(III)I"⟩, 18) := ⟨⟨by decide +kernel, by decide +kernel⟩, List.mem_of_getElem? (i := 597) (by decide +kernel), List.mem_of_getElem? (i := 744) (by decide +kernel), List.mem_of_getElem? (i := 745) (by decide +kernel)⟩
theorem lw_p21 : lw_okq (⟨"SumsCopiedModel", "alikeOf", "(II)I"⟩, 18) := ⟨⟨by decide +kernel, by decide +kernel⟩, List.mem_of_getElem? (i := 597) (by decide +kernel), List.mem_of_getElem? (i := 755) (by decide +kernel), List.mem_of_getElem? (i := 756) (by decide +kernel)⟩
theorem lw_p22 : lw_okq (⟨"SumsCopiedModel", "goes", "(I)V"⟩, 18) := ⟨⟨by decide +kernel, by decide +kernel⟩, List.mem_of_getElem? (i := 597) (by decide +kernel), List.mem_of_getElem? (i := 766) (by decide +kernel), List.mem_of_getElem? (i := 767) (by decide +kernel)⟩
theorem lw_p23 : lw_okq (⟨"SumsCopiedModel", "day", "()V"⟩, 18) := ⟨⟨by decide +kernel, by decide +kernel⟩, List.mem_of_getElem? (i := 597) (by decide +kernel), List.mem_of_getElem? (i := 770) (by decide +kernel), List.mem_of_getElem? (i := 771) (by decide +kernel)⟩
theorem lw_p24 : lw_okq (⟨"SumsCopiedModel", "writesAll", "(I)V"⟩, 18) := ⟨⟨by decide +kernel, by decide +kernel⟩, List.mem_of_getElem? (i := 597) (by decide +kernel), List.mem_of_getElem? (i := 774) (by decide +kernel), List.mem_of_getElem? (i := 775) (by decide +kernel)⟩
theorem lw_p25 : lw_okq (⟨"SumsCopiedModel", "marks", "(I)V"⟩, 18) := ⟨⟨by decide +kernel, by decide +kernel⟩, List.mem_of_getElem? (i := 597) (by decide +kernel), List.mem_of_getElem? (i := 781) (by decide +kernel), List.mem_of_getElem? (i := 782) (by decide +kernel)⟩
theorem lw_p26 : lw_okq (⟨"SumsCopiedModel", "isFound", "(I)Z"⟩, 18) := ⟨⟨by decide +kernel, by decide +kernel⟩, List.mem_of_getElem? (i := 597) (by decide +kernel), List.mem_of_getElem? (i := 785) (by decide +kernel), List.mem_of_getElem? (i := 786) (by decide +kernel)⟩
theorem lw_p27 : lw_okq (⟨"SumsCopiedModel", "sumOf", "(I)I"⟩, 18) := ⟨⟨by decide +kernel, by decide +kernel⟩, List.mem_of_getElem? (i := 597) (by decide +kernel), List.mem_of_getElem? (i := 792) (by decide +kernel), List.mem_of_getElem? (i := 793) (by decide +kernel)⟩
theorem lw_p28 : lw_okq (⟨"SumsCopiedModel", "lenders", "()I"⟩, 18) := ⟨⟨by decide +kernel, by decide +kernel⟩, List.mem_of_getElem? (i := 597) (by decide +kernel), List.mem_of_getElem? (i := 800) (by decide +kernel), List.mem_of_getElem? (i := 801) (by decide +kernel)⟩
theorem lw_p29 : lw_okq (⟨"SumsCopiedModel", "bests", "()I"⟩, 18) := ⟨⟨by decide +kernel, by decide +kernel⟩, List.mem_of_getElem? (i := 597) (by decide +kernel), List.mem_of_getElem? (i := 804) (by decide +kernel), List.mem_of_getElem? (i := 805) (by decide +kernel)⟩
theorem lw_p30 : lw_okq (⟨"SumsCopiedModel", "unknown", "()I"⟩, 18) := ⟨⟨by decide +kernel, by decide +kernel⟩, List.mem_of_getElem? (i := 597) (by decide +kernel), List.mem_of_getElem? (i := 811) (by decide +kernel), List.mem_of_getElem? (i := 812) (by decide +kernel)⟩
theorem lw_p31 : lw_okq (⟨"SumsCopiedModel", "thenAt", "(II)I"⟩, 18) := ⟨⟨by decide +kernel, by decide +kernel⟩, List.mem_of_getElem? (i := 597) (by decide +kernel), List.mem_of_getElem? (i := 825) (by decide +kernel), List.mem_of_getElem? (i := 826) (by decide +kernel)⟩
def lw_privs_2 : List (MethodName × Nat) := [(⟨"SumsCopiedModel", "its", "(II)I"⟩, 18), (⟨"SumsCopiedModel", "lends", "(I)Z"⟩, 18), (⟨"SumsCopiedModel", "answered", "(I)I"⟩, 18), (⟨"SumsCopiedModel", "may", "(III)Z"⟩, 18), (⟨"SumsCopiedModel", "slipsOf", "(III)I"⟩, 18), (⟨"SumsCopiedModel", "alikeOf", "(II)I"⟩, 18), (⟨"SumsCopiedModel", "goes", "(I)V"⟩, 18), (⟨"SumsCopiedModel", "day", "()V"⟩, 18), (⟨"SumsCopiedModel", "writesAll", "(I)V"⟩, 18), (⟨"SumsCopiedModel", "marks", "(I)V"⟩, 18), (⟨"SumsCopiedModel", "isFound", "(I)Z"⟩, 18), (⟨"SumsCopiedModel", "sumOf", "(I)I"⟩, 18), (⟨"SumsCopiedModel", "lenders", "()I"⟩, 18), (⟨"SumsCopiedModel", "bests", "()I"⟩, 18), (⟨"SumsCopiedModel", "unknown", "()I"⟩, 18), (⟨"SumsCopiedModel", "thenAt", "(II)I"⟩, 18)]
theorem lw_r2 : ∀ q ∈ lw_privs_2, lw_okq q := List.forall_mem_cons.mpr ⟨lw_p16, List.forall_mem_cons.mpr ⟨lw_p17, List.forall_mem_cons.mpr ⟨lw_p18, List.forall_mem_cons.mpr ⟨lw_p19, List.forall_mem_cons.mpr ⟨lw_p20, List.forall_mem_cons.mpr ⟨lw_p21, List.forall_mem_cons.mpr ⟨lw_p22, List.forall_mem_cons.mpr ⟨lw_p23, List.forall_mem_cons.mpr ⟨lw_p24, List.forall_mem_cons.mpr ⟨lw_p25, List.forall_mem_cons.mpr ⟨lw_p26, List.forall_mem_cons.mpr ⟨lw_p27, List.forall_mem_cons.mpr ⟨lw_p28, List.forall_mem_cons.mpr ⟨lw_p29, List.forall_mem_cons.mpr ⟨lw_p30, List.forall_mem_cons.mpr ⟨lw_p31, fun _ h => absurd h List.not_mem_nil⟩⟩⟩⟩⟩⟩⟩⟩⟩⟩⟩⟩⟩⟩⟩⟩
theorem lw_p32 : lw_okq (⟨"SumsCopiedModel", "isAsked", "(II)Z"⟩, 18) := ⟨⟨by decide +kernel, by decide +kernel⟩, List.mem_of_getElem? (i := 597) (by decide +kernel), List.mem_of_getElem? (i := 849) (by decide +kernel), List.mem_of_getElem? (i := 850) (by decide +kernel)⟩
theorem lw_p33 : lw_okq (⟨"SumsCopiedModel", "caughtThen", "(I)I"⟩, 18) := ⟨⟨by decide +kernel, by decide +kernel⟩, List.mem_of_getElem? (i := 597) (by decide +kernel), List.mem_of_getElem? (i := 866) (by decide +kernel), List.mem_of_getElem? (i := 867) (by decide +kernel)⟩
theorem lw_p34 : lw_okq (⟨"SumsCopiedModel", "orNone", "(I)I"⟩, 18) := ⟨⟨by decide +kernel, by decide +kernel⟩, List.mem_of_getElem? (i := 597) (by decide +kernel), List.mem_of_getElem? (i := 870) (by decide +kernel), List.mem_of_getElem? (i := 871) (by decide +kernel)⟩
theorem lw_p35 : lw_okq (⟨"SumsCopiedModel", "wantsFor", "(II)I"⟩, 18) := ⟨⟨by decide +kernel, by decide +kernel⟩, List.mem_of_getElem? (i := 597) (by decide +kernel), List.mem_of_getElem? (i := 887) (by decide +kernel), List.mem_of_getElem? (i := 888) (by decide +kernel)⟩
theorem lw_p36 : lw_okq (⟨"SumsCopiedModel", "wants", "(I)I"⟩, 18) := ⟨⟨by decide +kernel, by decide +kernel⟩, List.mem_of_getElem? (i := 597) (by decide +kernel), List.mem_of_getElem? (i := 891) (by decide +kernel), List.mem_of_getElem? (i := 892) (by decide +kernel)⟩
theorem lw_p37 : lw_okq (⟨"SumsCopiedModel", "isTold", "(II)Z"⟩, 18) := ⟨⟨by decide +kernel, by decide +kernel⟩, List.mem_of_getElem? (i := 597) (by decide +kernel), List.mem_of_getElem? (i := 899) (by decide +kernel), List.mem_of_getElem? (i := 900) (by decide +kernel)⟩
theorem lw_p38 : lw_okq (⟨"SumsCopiedModel", "findsFits", "(II)V"⟩, 18) := ⟨⟨by decide +kernel, by decide +kernel⟩, List.mem_of_getElem? (i := 597) (by decide +kernel), List.mem_of_getElem? (i := 907) (by decide +kernel), List.mem_of_getElem? (i := 908) (by decide +kernel)⟩
theorem lw_p39 : lw_okq (⟨"SumsCopiedModel", "draw", "()I"⟩, 18) := ⟨⟨by decide +kernel, by decide +kernel⟩, List.mem_of_getElem? (i := 597) (by decide +kernel), List.mem_of_getElem? (i := 923) (by decide +kernel), List.mem_of_getElem? (i := 924) (by decide +kernel)⟩
theorem lw_p40 : lw_okq (⟨"SumsCopiedModel", "nextToken", "()V"⟩, 18) := ⟨⟨by decide +kernel, by decide +kernel⟩, List.mem_of_getElem? (i := 597) (by decide +kernel), List.mem_of_getElem? (i := 950) (by decide +kernel), List.mem_of_getElem? (i := 951) (by decide +kernel)⟩
theorem lw_p41 : lw_okq (⟨"SumsCopiedModel", "byteAt", "(I)I"⟩, 18) := ⟨⟨by decide +kernel, by decide +kernel⟩, List.mem_of_getElem? (i := 597) (by decide +kernel), List.mem_of_getElem? (i := 954) (by decide +kernel), List.mem_of_getElem? (i := 955) (by decide +kernel)⟩
theorem lw_p42 : lw_okq (⟨"SumsCopiedModel", "itemHere", "()Z"⟩, 18) := ⟨⟨by decide +kernel, by decide +kernel⟩, List.mem_of_getElem? (i := 597) (by decide +kernel), List.mem_of_getElem? (i := 964) (by decide +kernel), List.mem_of_getElem? (i := 965) (by decide +kernel)⟩
theorem lw_p43 : lw_okq (⟨"SumsCopiedModel", "kindHere", "()I"⟩, 18) := ⟨⟨by decide +kernel, by decide +kernel⟩, List.mem_of_getElem? (i := 597) (by decide +kernel), List.mem_of_getElem? (i := 968) (by decide +kernel), List.mem_of_getElem? (i := 969) (by decide +kernel)⟩
theorem lw_p44 : lw_okq (⟨"SumsCopiedModel", "isFive", "(IIIII)Z"⟩, 18) := ⟨⟨by decide +kernel, by decide +kernel⟩, List.mem_of_getElem? (i := 597) (by decide +kernel), List.mem_of_getElem? (i := 972) (by decide +kernel), List.mem_of_getElem? (i := 973) (by decide +kernel)⟩
theorem lw_p45 : lw_okq (⟨"SumsCopiedModel", "isWord", "(I)Z"⟩, 18) := ⟨⟨by decide +kernel, by decide +kernel⟩, List.mem_of_getElem? (i := 597) (by decide +kernel), List.mem_of_getElem? (i := 976) (by decide +kernel), List.mem_of_getElem? (i := 977) (by decide +kernel)⟩
theorem lw_p46 : lw_okq (⟨"SumsCopiedModel", "has3", "(IIII)Z"⟩, 18) := ⟨⟨by decide +kernel, by decide +kernel⟩, List.mem_of_getElem? (i := 597) (by decide +kernel), List.mem_of_getElem? (i := 980) (by decide +kernel), List.mem_of_getElem? (i := 981) (by decide +kernel)⟩
theorem lw_p47 : lw_okq (⟨"SumsCopiedModel", "isSix", "(IIIIII)Z"⟩, 18) := ⟨⟨by decide +kernel, by decide +kernel⟩, List.mem_of_getElem? (i := 597) (by decide +kernel), List.mem_of_getElem? (i := 984) (by decide +kernel), List.mem_of_getElem? (i := 985) (by decide +kernel)⟩
def lw_privs_3 : List (MethodName × Nat) := [(⟨"SumsCopiedModel", "isAsked", "(II)Z"⟩, 18), (⟨"SumsCopiedModel", "caughtThen", "(I)I"⟩, 18), (⟨"SumsCopiedModel", "orNone", "(I)I"⟩, 18), (⟨"SumsCopiedModel", "wantsFor", "(II)I"⟩, 18), (⟨"SumsCopiedModel", "wants", "(I)I"⟩, 18), (⟨"SumsCopiedModel", "isTold", "(II)Z"⟩, 18), (⟨"SumsCopiedModel", "findsFits", "(II)V"⟩, 18), (⟨"SumsCopiedModel", "draw", "()I"⟩, 18), (⟨"SumsCopiedModel", "nextToken", "()V"⟩, 18), (⟨"SumsCopiedModel", "byteAt", "(I)I"⟩, 18), (⟨"SumsCopiedModel", "itemHere", "()Z"⟩, 18), (⟨"SumsCopiedModel", "kindHere", "()I"⟩, 18), (⟨"SumsCopiedModel", "isFive", "(IIIII)Z"⟩, 18), (⟨"SumsCopiedModel", "isWord", "(I)Z"⟩, 18), (⟨"SumsCopiedModel", "has3", "(IIII)Z"⟩, 18), (⟨"SumsCopiedModel", "isSix", "(IIIIII)Z"⟩, 18)]
theorem lw_r3 : ∀ q ∈ lw_privs_3, lw_okq q := List.forall_mem_cons.mpr ⟨lw_p32, List.forall_mem_cons.mpr ⟨lw_p33, List.forall_mem_cons.mpr ⟨lw_p34, List.forall_mem_cons.mpr ⟨lw_p35, List.forall_mem_cons.mpr ⟨lw_p36, List.forall_mem_cons.mpr ⟨lw_p37, List.forall_mem_cons.mpr ⟨lw_p38, List.forall_mem_cons.mpr ⟨lw_p39, List.forall_mem_cons.mpr ⟨lw_p40, List.forall_mem_cons.mpr ⟨lw_p41, List.forall_mem_cons.mpr ⟨lw_p42, List.forall_mem_cons.mpr ⟨lw_p43, List.forall_mem_cons.mpr ⟨lw_p44, List.forall_mem_cons.mpr ⟨lw_p45, List.forall_mem_cons.mpr ⟨lw_p46, List.forall_mem_cons.mpr ⟨lw_p47, fun _ h => absurd h List.not_mem_nil⟩⟩⟩⟩⟩⟩⟩⟩⟩⟩⟩⟩⟩⟩⟩⟩
theorem lw_p48 : lw_okq (⟨"SumsCopiedModel", "isFour", "(IIII)Z"⟩, 18) := ⟨⟨by decide +kernel, by decide +kernel⟩, List.mem_of_getElem? (i := 597) (by decide +kernel), List.mem_of_getElem? (i := 988) (by decide +kernel), List.mem_of_getElem? (i := 989) (by decide +kernel)⟩
theorem lw_p49 : lw_okq (⟨"SumsCopiedModel", "childHere", "(I)Z"⟩, 18) := ⟨⟨by decide +kernel, by decide +kernel⟩, List.mem_of_getElem? (i := 597) (by decide +kernel), List.mem_of_getElem? (i := 992) (by decide +kernel), List.mem_of_getElem? (i := 993) (by decide +kernel)⟩
theorem lw_p50 : lw_okq (⟨"SumsCopiedModel", "fails", "()Z"⟩, 18) := ⟨⟨by decide +kernel, by decide +kernel⟩, List.mem_of_getElem? (i := 597) (by decide +kernel), List.mem_of_getElem? (i := 996) (by decide +kernel), List.mem_of_getElem? (i := 997) (by decide +kernel)⟩
theorem lw_p51 : lw_okq (⟨"SumsCopiedModel", "perhaps", "(ZIII)Z"⟩, 18) := ⟨⟨by decide +kernel, by decide +kernel⟩, List.mem_of_getElem? (i := 597) (by decide +kernel), List.mem_of_getElem? (i := 1000) (by decide +kernel), List.mem_of_getElem? (i := 1001) (by decide +kernel)⟩
theorem lw_p52 : lw_okq (⟨"SumsCopiedModel", "isNumber", "(II)Z"⟩, 18) := ⟨⟨by decide +kernel, by decide +kernel⟩, List.mem_of_getElem? (i := 597) (by decide +kernel), List.mem_of_getElem? (i := 1004) (by decide +kernel), List.mem_of_getElem? (i := 1005) (by decide +kernel)⟩
theorem lw_p53 : lw_okq (⟨"SumsCopiedModel", "rightHere", "()Z"⟩, 18) := ⟨⟨by decide +kernel, by decide +kernel⟩, List.mem_of_getElem? (i := 597) (by decide +kernel), List.mem_of_getElem? (i := 1008) (by decide +kernel), List.mem_of_getElem? (i := 1009) (by decide +kernel)⟩
def lw_privs_4 : List (MethodName × Nat) := [(⟨"SumsCopiedModel", "isFour", "(IIII)Z"⟩, 18), (⟨"SumsCopiedModel", "childHere", "(I)Z"⟩, 18), (⟨"SumsCopiedModel", "fails", "()Z"⟩, 18), (⟨"SumsCopiedModel", "perhaps", "(ZIII)Z"⟩, 18), (⟨"SumsCopiedModel", "isNumber", "(II)Z"⟩, 18), (⟨"SumsCopiedModel", "rightHere", "()Z"⟩, 18)]
theorem lw_r4 : ∀ q ∈ lw_privs_4, lw_okq q := List.forall_mem_cons.mpr ⟨lw_p48, List.forall_mem_cons.mpr ⟨lw_p49, List.forall_mem_cons.mpr ⟨lw_p50, List.forall_mem_cons.mpr ⟨lw_p51, List.forall_mem_cons.mpr ⟨lw_p52, List.forall_mem_cons.mpr ⟨lw_p53, fun _ h => absurd h List.not_mem_nil⟩⟩⟩⟩⟩⟩
def lw_privs : List (MethodName × Nat) := lw_privs_1 ++ (lw_privs_2 ++ (lw_privs_3 ++ (lw_privs_4)))
def lw_tbl : List Cond := k2_sels lw_privs ++ tables_1
theorem lw_privs_ok : ∀ q ∈ lw_privs, lw_okq q := by
  show ∀ q ∈ lw_privs_1 ++ (lw_privs_2 ++ (lw_privs_3 ++ (lw_privs_4))), lw_okq q
  exact List.forall_mem_append.mpr ⟨lw_r1, List.forall_mem_append.mpr ⟨lw_r2, List.forall_mem_append.mpr ⟨lw_r3, lw_r4⟩⟩⟩

def RX0 : String := "SumsCopied$Room"
def RX1 : String := "SumsCopied$Sheet"
def RX2 : String := "SumsCopied$TextReader"
def RX3 : String := "SumsCopied"
def RX4 : String := "SumsCopiedModel"
def RJ6 : String := "java/lang/Integer"
def RJ9 : String := "java/lang/Math"
def RJ10 : String := "java/lang/System"
def RJ7 : String := "java/util/Arrays"
def RL : String := "SumsCopiedLaw"
def TX0 : u_T := fun k => match k with
  | 0 => ("SumsCopied$Room", "right", "[I", true)
  | 1 => ("SumsCopied$Room", "facts", "[I", true)
  | 2 => ("SumsCopied$Room", "answers", "[I", true)
  | 3 => ("SumsCopied$Room", "spots", "[I", true)
  | 4 => ("SumsCopied$Room", "wrong", "[I", true)
  | 5 => ("SumsCopied$Room", "gained", "[I", true)
  | 6 => ("SumsCopied$Room", "limit", "I", false)
  | 7 => ("SumsCopied$Room", "children", "I", false)
  | 8 => ("SumsCopied$Room", "day", "I", false)
  | _ => ("SumsCopied$Room", "z", "I", false)
def tyX0 : Nat → FieldType := fun k => match k with
  | 0 => .array .int
  | 1 => .array .int
  | 2 => .array .int
  | 3 => .array .int
  | 4 => .array .int
  | 5 => .array .int
  | 6 => .int
  | 7 => .int
  | 8 => .int
  | _ => .int
def TX1 : u_T := fun k => match k with
  | 0 => ("SumsCopied$Sheet", "numbers", "[I", true)
  | 1 => ("SumsCopied$Sheet", "bits", "I", false)
  | _ => ("SumsCopied$Sheet", "length", "I", false)
def tyX1 : Nat → FieldType := fun k => match k with
  | 0 => .array .int
  | 1 => .int
  | _ => .int
def TX2 : u_T := fun k => match k with
  | 0 => ("SumsCopied$TextReader", "bytes", "[B", true)
  | 1 => ("SumsCopied$TextReader", "length", "I", false)
  | 2 => ("SumsCopied$TextReader", "place", "I", false)
  | 3 => ("SumsCopied$TextReader", "behind", "I", false)
  | 4 => ("SumsCopied$TextReader", "sort", "I", false)
  | 5 => ("SumsCopied$TextReader", "word", "J", false)
  | _ => ("SumsCopied$TextReader", "number", "I", false)
def tyX2 : Nat → FieldType := fun k => match k with
  | 0 => .array .byte
  | 1 => .int
  | 2 => .int
  | 3 => .int
  | 4 => .int
  | 5 => .long
  | _ => .int
def TX3 : u_T := fun k => match k with
  | 0 => ("SumsCopied", "room", "LSumsCopied$Room;", true)
  | 1 => ("SumsCopied", "trial", "LSumsCopied$Room;", true)
  | 2 => ("SumsCopied", "kept", "LSumsCopied$Room;", true)
  | 3 => ("SumsCopied", "keeps", "Z", false)
  | 4 => ("SumsCopied", "tape", "LSumsCopied$TextReader;", true)
  | 5 => ("SumsCopied", "sheets", "[LSumsCopied$Sheet;", true)
  | _ => ("SumsCopied", "found", "[I", true)
def tyX3 : Nat → FieldType := fun k => match k with
  | 0 => .object "SumsCopied$Room"
  | 1 => .object "SumsCopied$Room"
  | 2 => .object "SumsCopied$Room"
  | 3 => .boolean
  | 4 => .object "SumsCopied$TextReader"
  | 5 => .array (.object "SumsCopied$Sheet")
  | _ => .array .int
def TX4 : u_T := fun k => match k with
  | 0 => ("SumsCopiedModel", "s", "[I", true)
  | 1 => ("SumsCopiedModel", "kept", "[I", true)
  | 2 => ("SumsCopiedModel", "before", "[I", true)
  | 3 => ("SumsCopiedModel", "aside", "[I", true)
  | 4 => ("SumsCopiedModel", "isKept", "Z", false)
  | 5 => ("SumsCopiedModel", "findings", "[I", true)
  | 6 => ("SumsCopiedModel", "tape", "[I", true)
  | 7 => ("SumsCopiedModel", "taped", "I", false)
  | 8 => ("SumsCopiedModel", "bitsOf", "[I", true)
  | 9 => ("SumsCopiedModel", "sizes", "[I", true)
  | 10 => ("SumsCopiedModel", "numbers", "[I", true)
  | 11 => ("SumsCopiedModel", "fitting", "I", false)
  | 12 => ("SumsCopiedModel", "leastFit", "I", false)
  | 13 => ("SumsCopiedModel", "token", "I", false)
  | 14 => ("SumsCopiedModel", "from", "I", false)
  | 15 => ("SumsCopiedModel", "to", "I", false)
  | 16 => ("SumsCopiedModel", "value", "I", false)
  | _ => ("SumsCopiedModel", "faultAt", "I", false)
def tyX4 : Nat → FieldType := fun k => match k with
  | 0 => .array .int
  | 1 => .array .int
  | 2 => .array .int
  | 3 => .array .int
  | 4 => .boolean
  | 5 => .array .int
  | 6 => .array .int
  | 7 => .int
  | 8 => .array .int
  | 9 => .array .int
  | 10 => .array .int
  | 11 => .int
  | 12 => .int
  | 13 => .int
  | 14 => .int
  | 15 => .int
  | 16 => .int
  | _ => .int
abbrev wsX00 : List Cond := u_ws RX0 TX0 10
theorem nmX0 : ∀ a, a < 10 → ∀ b, b < 10 → a ≠ b → (TX0 a).2.1 ≠ (TX0 b).2.1 := by decide +kernel
theorem tyX0_ok : ∀ k, k < 10 → parseFieldDescriptor (TX0 k).2.2.1 = some (tyX0 k) := by decide +kernel
abbrev cX0_init : ByteArray := prog_2_method_1_code
def yX0_init : MethodName := ⟨RX0, "<init>", "()V"⟩
abbrev cX0_become : ByteArray := prog_2_method_2_code
def yX0_become : MethodName := ⟨RX0, "become", "(LSumsCopied$Room;)V"⟩
abbrev cX0_has : ByteArray := prog_2_method_3_code
def yX0_has : MethodName := ⟨RX0, "has", "(I)Z"⟩
abbrev cX0_fact : ByteArray := prog_2_method_4_code
def yX0_fact : MethodName := ⟨RX0, "fact", "(II)I"⟩
abbrev cX0_setFact : ByteArray := prog_2_method_5_code
def yX0_setFact : MethodName := ⟨RX0, "setFact", "(III)V"⟩
abbrev cX0_answerOf : ByteArray := prog_2_method_6_code
def yX0_answerOf : MethodName := ⟨RX0, "answerOf", "(II)I"⟩
abbrev cX0_addChild : ByteArray := prog_2_method_7_code
def yX0_addChild : MethodName := ⟨RX0, "addChild", "(II)I"⟩
abbrev cX0_total : ByteArray := prog_2_method_8_code
def yX0_total : MethodName := ⟨RX0, "total", "(I)I"⟩
abbrev cX0_price : ByteArray := prog_2_method_9_code
def yX0_price : MethodName := ⟨RX0, "price", "(I)I"⟩
abbrev cX0_isLending : ByteArray := prog_2_method_10_code
def yX0_isLending : MethodName := ⟨RX0, "isLending", "(I)Z"⟩
abbrev cX0_slipOf : ByteArray := prog_2_method_11_code
def yX0_slipOf : MethodName := ⟨RX0, "slipOf", "(III)I"⟩
abbrev cX0_exchanged : ByteArray := prog_2_method_12_code
def yX0_exchanged : MethodName := ⟨RX0, "exchanged", "(II)I"⟩
abbrev cX0_onesForSevens : ByteArray := prog_2_method_13_code
def yX0_onesForSevens : MethodName := ⟨RX0, "onesForSevens", "(I)I"⟩
abbrev cX0_passDays : ByteArray := prog_2_method_14_code
def yX0_passDays : MethodName := ⟨RX0, "passDays", "(I)V"⟩
abbrev cX0_writeAnswers : ByteArray := prog_2_method_15_code
def yX0_writeAnswers : MethodName := ⟨RX0, "writeAnswers", "(I)V"⟩
abbrev cX0_sourceToday : ByteArray := prog_2_method_16_code
def yX0_sourceToday : MethodName := ⟨RX0, "sourceToday", "(I)I"⟩
abbrev cX0_payFor : ByteArray := prog_2_method_17_code
def yX0_payFor : MethodName := ⟨RX0, "payFor", "(II)V"⟩
abbrev cX0_markAnswers : ByteArray := prog_2_method_18_code
def yX0_markAnswers : MethodName := ⟨RX0, "markAnswers", "()V"⟩
abbrev cX0_turnDay : ByteArray := prog_2_method_19_code
def yX0_turnDay : MethodName := ⟨RX0, "turnDay", "()V"⟩
abbrev cX0_childrenAlike : ByteArray := prog_2_method_20_code
def yX0_childrenAlike : MethodName := ⟨RX0, "childrenAlike", "()I"⟩
abbrev cX0_alikeSums : ByteArray := prog_2_method_21_code
def yX0_alikeSums : MethodName := ⟨RX0, "alikeSums", "(II)I"⟩
abbrev cX0_sameAmong : ByteArray := prog_2_method_22_code
def yX0_sameAmong : MethodName := ⟨RX0, "sameAmong", "(III)I"⟩
abbrev cX0_wrongSums : ByteArray := prog_2_method_23_code
def yX0_wrongSums : MethodName := ⟨RX0, "wrongSums", "(I)I"⟩
abbrev cX0_draw : ByteArray := prog_2_method_24_code
def yX0_draw : MethodName := ⟨RX0, "draw", "()I"⟩
abbrev cX0_answeredSums : ByteArray := prog_2_method_25_code
def yX0_answeredSums : MethodName := ⟨RX0, "answeredSums", "(I)I"⟩
abbrev cX0_copiedChildren : ByteArray := prog_2_method_26_code
def yX0_copiedChildren : MethodName := ⟨RX0, "copiedChildren", "()I"⟩
abbrev cX0_bestChildren : ByteArray := prog_2_method_27_code
def yX0_bestChildren : MethodName := ⟨RX0, "bestChildren", "()I"⟩
abbrev cX0_unknownSums : ByteArray := prog_2_method_28_code
def yX0_unknownSums : MethodName := ⟨RX0, "unknownSums", "()I"⟩
abbrev cX0_chainLength : ByteArray := prog_2_method_29_code
def yX0_chainLength : MethodName := ⟨RX0, "chainLength", "(I)I"⟩
abbrev cX0_takenSpots : ByteArray := prog_2_method_30_code
def yX0_takenSpots : MethodName := ⟨RX0, "takenSpots", "()I"⟩
abbrev wsX10 : List Cond := u_ws RX1 TX1 3
theorem nmX1 : ∀ a, a < 3 → ∀ b, b < 3 → a ≠ b → (TX1 a).2.1 ≠ (TX1 b).2.1 := by decide +kernel
theorem tyX1_ok : ∀ k, k < 3 → parseFieldDescriptor (TX1 k).2.2.1 = some (tyX1 k) := by decide +kernel
abbrev cX1_init : ByteArray := prog_3_method_1_code
def yX1_init : MethodName := ⟨RX1, "<init>", "()V"⟩
abbrev cX1_isMissing : ByteArray := prog_3_method_2_code
def yX1_isMissing : MethodName := ⟨RX1, "isMissing", "()Z"⟩
abbrev cX1_renew : ByteArray := prog_3_method_3_code
def yX1_renew : MethodName := ⟨RX1, "renew", "(II)V"⟩
abbrev cX1_put : ByteArray := prog_3_method_4_code
def yX1_put : MethodName := ⟨RX1, "put", "(II)V"⟩
abbrev cX1_hasPart : ByteArray := prog_3_method_5_code
def yX1_hasPart : MethodName := ⟨RX1, "hasPart", "(II)Z"⟩
abbrev cX1_allows : ByteArray := prog_3_method_6_code
def yX1_allows : MethodName := ⟨RX1, "allows", "(II)Z"⟩
abbrev wsX20 : List Cond := u_ws RX2 TX2 7
theorem nmX2 : ∀ a, a < 7 → ∀ b, b < 7 → a ≠ b → (TX2 a).2.1 ≠ (TX2 b).2.1 := by decide +kernel
theorem tyX2_ok : ∀ k, k < 7 → parseFieldDescriptor (TX2 k).2.2.1 = some (tyX2 k) := by decide +kernel
abbrev cX2_init : ByteArray := prog_4_method_1_code
def yX2_init : MethodName := ⟨RX2, "<init>", "()V"⟩
abbrev cX2_append : ByteArray := prog_4_method_2_code
def yX2_append : MethodName := ⟨RX2, "append", "(I)V"⟩
abbrev cX2_readInto : ByteArray := prog_4_method_3_code
def yX2_readInto : MethodName := ⟨RX2, "readInto", "(LSumsCopied$Room;)I"⟩
abbrev cX2_readItem : ByteArray := prog_4_method_4_code
def yX2_readItem : MethodName := ⟨RX2, "readItem", "(LSumsCopied$Room;)Z"⟩
abbrev cX2_readRight : ByteArray := prog_4_method_5_code
def yX2_readRight : MethodName := ⟨RX2, "readRight", "(LSumsCopied$Room;)Z"⟩
abbrev cX2_readLimit : ByteArray := prog_4_method_6_code
def yX2_readLimit : MethodName := ⟨RX2, "readLimit", "(LSumsCopied$Room;)Z"⟩
abbrev cX2_readChild : ByteArray := prog_4_method_7_code
def yX2_readChild : MethodName := ⟨RX2, "readChild", "(LSumsCopied$Room;I)Z"⟩
abbrev cX2_readPerhaps : ByteArray := prog_4_method_8_code
def yX2_readPerhaps : MethodName := ⟨RX2, "readPerhaps", "(LSumsCopied$Room;IJII)Z"⟩
abbrev cX2_isNumber : ByteArray := prog_4_method_9_code
def yX2_isNumber : MethodName := ⟨RX2, "isNumber", "(II)Z"⟩
abbrev cX2_nextToken : ByteArray := prog_4_method_10_code
def yX2_nextToken : MethodName := ⟨RX2, "nextToken", "()V"⟩
abbrev cX2_takeWord : ByteArray := prog_4_method_11_code
def yX2_takeWord : MethodName := ⟨RX2, "takeWord", "()V"⟩
abbrev cX2_takeNumber : ByteArray := prog_4_method_12_code
def yX2_takeNumber : MethodName := ⟨RX2, "takeNumber", "()V"⟩
abbrev wsX30 : List Cond := u_ws RX3 TX3 7
theorem nmX3 : ∀ a, a < 7 → ∀ b, b < 7 → a ≠ b → (TX3 a).2.1 ≠ (TX3 b).2.1 := by decide +kernel
theorem tyX3_ok : ∀ k, k < 7 → parseFieldDescriptor (TX3 k).2.2.1 = some (tyX3 k) := by decide +kernel
abbrev cX3_init : ByteArray := prog_1_method_1_code
def yX3_init : MethodName := ⟨RX3, "<init>", "()V"⟩
abbrev cX3_right : ByteArray := prog_1_method_2_code
def yX3_right : MethodName := ⟨RX3, "right", "(II)I"⟩
abbrev cX3_isRight : ByteArray := prog_1_method_3_code
def yX3_isRight : MethodName := ⟨RX3, "isRight", "(I)I"⟩
abbrev cX3_limit : ByteArray := prog_1_method_4_code
def yX3_limit : MethodName := ⟨RX3, "limit", "(I)I"⟩
abbrev cX3_child : ByteArray := prog_1_method_5_code
def yX3_child : MethodName := ⟨RX3, "child", "(II)I"⟩
abbrev cX3_of : ByteArray := prog_1_method_6_code
def yX3_of : MethodName := ⟨RX3, "of", "(II)I"⟩
abbrev cX3_change : ByteArray := prog_1_method_7_code
def yX3_change : MethodName := ⟨RX3, "change", "(III)I"⟩
abbrev cX3_answer : ByteArray := prog_1_method_8_code
def yX3_answer : MethodName := ⟨RX3, "answer", "(II)I"⟩
abbrev cX3_slips : ByteArray := prog_1_method_9_code
def yX3_slips : MethodName := ⟨RX3, "slips", "(III)I"⟩
abbrev cX3_alike : ByteArray := prog_1_method_10_code
def yX3_alike : MethodName := ⟨RX3, "alike", "(II)I"⟩
abbrev cX3_go : ByteArray := prog_1_method_11_code
def yX3_go : MethodName := ⟨RX3, "go", "(I)I"⟩
abbrev cX3_now : ByteArray := prog_1_method_12_code
def yX3_now : MethodName := ⟨RX3, "now", "(I)I"⟩
abbrev cX3_chain : ByteArray := prog_1_method_13_code
def yX3_chain : MethodName := ⟨RX3, "chain", "(I)I"⟩
abbrev cX3_ahead : ByteArray := prog_1_method_14_code
def yX3_ahead : MethodName := ⟨RX3, "ahead", "(III)I"⟩
abbrev cX3_writes : ByteArray := prog_1_method_15_code
def yX3_writes : MethodName := ⟨RX3, "writes", "(III)I"⟩
abbrev cX3_caught : ByteArray := prog_1_method_16_code
def yX3_caught : MethodName := ⟨RX3, "caught", "(I)I"⟩
abbrev cX3_when : ByteArray := prog_1_method_17_code
def yX3_when : MethodName := ⟨RX3, "when", "(II)I"⟩
abbrev cX3_copyFrom : ByteArray := prog_1_method_18_code
def yX3_copyFrom : MethodName := ⟨RX3, "copyFrom", "(II)I"⟩
abbrev cX3_kindFor : ByteArray := prog_1_method_19_code
def yX3_kindFor : MethodName := ⟨RX3, "kindFor", "(II)I"⟩
abbrev cX3_learn : ByteArray := prog_1_method_20_code
def yX3_learn : MethodName := ⟨RX3, "learn", "(II)I"⟩
abbrev cX3_limitFor : ByteArray := prog_1_method_21_code
def yX3_limitFor : MethodName := ⟨RX3, "limitFor", "(I)I"⟩
abbrev cX3_forbid : ByteArray := prog_1_method_22_code
def yX3_forbid : MethodName := ⟨RX3, "forbid", "(I)I"⟩
abbrev cX3_biscuitsFor : ByteArray := prog_1_method_23_code
def yX3_biscuitsFor : MethodName := ⟨RX3, "biscuitsFor", "(II)I"⟩
abbrev cX3_sources : ByteArray := prog_1_method_24_code
def yX3_sources : MethodName := ⟨RX3, "sources", "(II)I"⟩
abbrev cX3_fits : ByteArray := prog_1_method_25_code
def yX3_fits : MethodName := ⟨RX3, "fits", "(II)I"⟩
abbrev cX3_knew : ByteArray := prog_1_method_26_code
def yX3_knew : MethodName := ⟨RX3, "knew", "(II)I"⟩
abbrev cX3_kinds : ByteArray := prog_1_method_27_code
def yX3_kinds : MethodName := ⟨RX3, "kinds", "(II)I"⟩
abbrev cX3_seats : ByteArray := prog_1_method_28_code
def yX3_seats : MethodName := ⟨RX3, "seats", "(I)I"⟩
abbrev cX3_odds : ByteArray := prog_1_method_29_code
def yX3_odds : MethodName := ⟨RX3, "odds", "(III)J"⟩
abbrev cX3_seed : ByteArray := prog_1_method_30_code
def yX3_seed : MethodName := ⟨RX3, "seed", "(I)I"⟩
abbrev cX3_feed : ByteArray := prog_1_method_31_code
def yX3_feed : MethodName := ⟨RX3, "feed", "(II)I"⟩
abbrev cX3_wipe : ByteArray := prog_1_method_32_code
def yX3_wipe : MethodName := ⟨RX3, "wipe", "()I"⟩
abbrev cX3_text : ByteArray := prog_1_method_33_code
def yX3_text : MethodName := ⟨RX3, "text", "()I"⟩
abbrev cX3_hold : ByteArray := prog_1_method_34_code
def yX3_hold : MethodName := ⟨RX3, "hold", "(II)I"⟩
abbrev cX3_as : ByteArray := prog_1_method_35_code
def yX3_as : MethodName := ⟨RX3, "as", "(II)I"⟩
abbrev cX3_sheet : ByteArray := prog_1_method_36_code
def yX3_sheet : MethodName := ⟨RX3, "sheet", "(III)I"⟩
abbrev cX3_write : ByteArray := prog_1_method_37_code
def yX3_write : MethodName := ⟨RX3, "write", "(III)I"⟩
abbrev cX3_copy : ByteArray := prog_1_method_38_code
def yX3_copy : MethodName := ⟨RX3, "copy", "(IIIII)I"⟩
abbrev cX3_load : ByteArray := prog_1_method_39_code
def yX3_load : MethodName := ⟨RX3, "load", "(I)I"⟩
abbrev cX3_judge : ByteArray := prog_1_method_40_code
def yX3_judge : MethodName := ⟨RX3, "judge", "(I)I"⟩
abbrev cX3_image : ByteArray := prog_1_method_41_code
def yX3_image : MethodName := ⟨RX3, "image", "()I"⟩
abbrev cX3_undo : ByteArray := prog_1_method_42_code
def yX3_undo : MethodName := ⟨RX3, "undo", "()I"⟩
abbrev cX3_tear : ByteArray := prog_1_method_43_code
def yX3_tear : MethodName := ⟨RX3, "tear", "()I"⟩
abbrev cX3_count : ByteArray := prog_1_method_44_code
def yX3_count : MethodName := ⟨RX3, "count", "(I)I"⟩
abbrev cX3_status : ByteArray := prog_1_method_45_code
def yX3_status : MethodName := ⟨RX3, "status", "(I)I"⟩
abbrev cX3_finding : ByteArray := prog_1_method_46_code
def yX3_finding : MethodName := ⟨RX3, "finding", "(I)I"⟩
abbrev cX3_within : ByteArray := prog_1_method_47_code
def yX3_within : MethodName := ⟨RX3, "within", "(III)Z"⟩
abbrev cX3_canBecome : ByteArray := prog_1_method_48_code
def yX3_canBecome : MethodName := ⟨RX3, "canBecome", "(III)Z"⟩
abbrev cX3_sheetCheck : ByteArray := prog_1_method_49_code
def yX3_sheetCheck : MethodName := ⟨RX3, "sheetCheck", "(I)I"⟩
abbrev cX3_sheetAndChildCheck : ByteArray := prog_1_method_50_code
def yX3_sheetAndChildCheck : MethodName := ⟨RX3, "sheetAndChildCheck", "(II)I"⟩
abbrev cX3_daysUntil : ByteArray := prog_1_method_51_code
def yX3_daysUntil : MethodName := ⟨RX3, "daysUntil", "(III)I"⟩
abbrev cX3_marksWith : ByteArray := prog_1_method_52_code
def yX3_marksWith : MethodName := ⟨RX3, "marksWith", "(IIII)I"⟩
abbrev cX3_nobodyIsCaughtInTrial : ByteArray := prog_1_method_53_code
def yX3_nobodyIsCaughtInTrial : MethodName := ⟨RX3, "nobodyIsCaughtInTrial", "(I)Z"⟩
abbrev cX3_tryWithoutCopiesFrom : ByteArray := prog_1_method_54_code
def yX3_tryWithoutCopiesFrom : MethodName := ⟨RX3, "tryWithoutCopiesFrom", "(I)V"⟩
abbrev cX3_writesAsAsked : ByteArray := prog_1_method_55_code
def yX3_writesAsAsked : MethodName := ⟨RX3, "writesAsAsked", "(LSumsCopied$Sheet;III)Z"⟩
abbrev cX3_tryDayKnowingNothing : ByteArray := prog_1_method_56_code
def yX3_tryDayKnowingNothing : MethodName := ⟨RX3, "tryDayKnowingNothing", "(I)V"⟩
abbrev cX3_fitsUnknown : ByteArray := prog_1_method_57_code
def yX3_fitsUnknown : MethodName := ⟨RX3, "fitsUnknown", "(LSumsCopied$Sheet;II)Z"⟩
abbrev cX3_fitsKnown : ByteArray := prog_1_method_58_code
def yX3_fitsKnown : MethodName := ⟨RX3, "fitsKnown", "(LSumsCopied$Sheet;I)Z"⟩
abbrev cX3_power : ByteArray := prog_1_method_59_code
def yX3_power : MethodName := ⟨RX3, "power", "(II)J"⟩
abbrev cX3_isUnder : ByteArray := prog_1_method_60_code
def yX3_isUnder : MethodName := ⟨RX3, "isUnder", "(II)Z"⟩
abbrev wsX40 : List Cond := u_ws RX4 TX4 18
theorem nmX4 : ∀ a, a < 18 → ∀ b, b < 18 → a ≠ b → (TX4 a).2.1 ≠ (TX4 b).2.1 := by decide +kernel
theorem tyX4_ok : ∀ k, k < 18 → parseFieldDescriptor (TX4 k).2.2.1 = some (tyX4 k) := by decide +kernel
abbrev cX4_init : ByteArray := prog_6_method_1_code
def yX4_init : MethodName := ⟨RX4, "<init>", "()V"⟩
abbrev cX4_isIn : ByteArray := prog_6_method_2_code
def yX4_isIn : MethodName := ⟨RX4, "isIn", "(JJJ)Z"⟩
abbrev cX4_finds : ByteArray := prog_6_method_3_code
def yX4_finds : MethodName := ⟨RX4, "finds", "(I)I"⟩
abbrev cX4_becomes : ByteArray := prog_6_method_4_code
def yX4_becomes : MethodName := ⟨RX4, "becomes", "(II)I"⟩
abbrev cX4_copyRow : ByteArray := prog_6_method_5_code
def yX4_copyRow : MethodName := ⟨RX4, "copyRow", "([I[I)V"⟩
abbrev cX4_isSum : ByteArray := prog_6_method_6_code
def yX4_isSum : MethodName := ⟨RX4, "isSum", "(I)Z"⟩
abbrev cX4_isChild : ByteArray := prog_6_method_7_code
def yX4_isChild : MethodName := ⟨RX4, "isChild", "(I)Z"⟩
abbrev cX4_at : ByteArray := prog_6_method_8_code
def yX4_at : MethodName := ⟨RX4, "at", "(II)I"⟩
abbrev cX4_its : ByteArray := prog_6_method_9_code
def yX4_its : MethodName := ⟨RX4, "its", "(II)I"⟩
abbrev cX4_least : ByteArray := prog_6_method_10_code
def yX4_least : MethodName := ⟨RX4, "least", "(II)I"⟩
abbrev cX4_greatest : ByteArray := prog_6_method_11_code
def yX4_greatest : MethodName := ⟨RX4, "greatest", "(II)I"⟩
abbrev cX4_orNone : ByteArray := prog_6_method_12_code
def yX4_orNone : MethodName := ⟨RX4, "orNone", "(I)I"⟩
abbrev cX4_many : ByteArray := prog_6_method_13_code
def yX4_many : MethodName := ⟨RX4, "many", "(I)I"⟩
abbrev cX4_right : ByteArray := prog_6_method_14_code
def yX4_right : MethodName := ⟨RX4, "right", "(II)I"⟩
abbrev cX4_isRight : ByteArray := prog_6_method_15_code
def yX4_isRight : MethodName := ⟨RX4, "isRight", "(I)I"⟩
abbrev cX4_limit : ByteArray := prog_6_method_16_code
def yX4_limit : MethodName := ⟨RX4, "limit", "(I)I"⟩
abbrev cX4_comes : ByteArray := prog_6_method_17_code
def yX4_comes : MethodName := ⟨RX4, "comes", "(II)V"⟩
abbrev cX4_child : ByteArray := prog_6_method_18_code
def yX4_child : MethodName := ⟨RX4, "child", "(II)I"⟩
abbrev cX4_pays : ByteArray := prog_6_method_19_code
def yX4_pays : MethodName := ⟨RX4, "pays", "(I)I"⟩
abbrev cX4_lends : ByteArray := prog_6_method_20_code
def yX4_lends : MethodName := ⟨RX4, "lends", "(I)Z"⟩
abbrev cX4_oneForSeven : ByteArray := prog_6_method_21_code
def yX4_oneForSeven : MethodName := ⟨RX4, "oneForSeven", "(I)I"⟩
abbrev cX4_slipsOf : ByteArray := prog_6_method_22_code
def yX4_slipsOf : MethodName := ⟨RX4, "slipsOf", "(III)I"⟩
abbrev cX4_answered : ByteArray := prog_6_method_23_code
def yX4_answered : MethodName := ⟨RX4, "answered", "(I)I"⟩
abbrev cX4_of : ByteArray := prog_6_method_24_code
def yX4_of : MethodName := ⟨RX4, "of", "(II)I"⟩
abbrev cX4_may : ByteArray := prog_6_method_25_code
def yX4_may : MethodName := ⟨RX4, "may", "(III)Z"⟩
abbrev cX4_change : ByteArray := prog_6_method_26_code
def yX4_change : MethodName := ⟨RX4, "change", "(III)I"⟩
abbrev cX4_answer : ByteArray := prog_6_method_27_code
def yX4_answer : MethodName := ⟨RX4, "answer", "(II)I"⟩
abbrev cX4_slips : ByteArray := prog_6_method_28_code
def yX4_slips : MethodName := ⟨RX4, "slips", "(III)I"⟩
abbrev cX4_alikeOf : ByteArray := prog_6_method_29_code
def yX4_alikeOf : MethodName := ⟨RX4, "alikeOf", "(II)I"⟩
abbrev cX4_alike : ByteArray := prog_6_method_30_code
def yX4_alike : MethodName := ⟨RX4, "alike", "(II)I"⟩
abbrev cX4_writesAll : ByteArray := prog_6_method_31_code
def yX4_writesAll : MethodName := ⟨RX4, "writesAll", "(I)V"⟩
abbrev cX4_isFound : ByteArray := prog_6_method_32_code
def yX4_isFound : MethodName := ⟨RX4, "isFound", "(I)Z"⟩
abbrev cX4_marks : ByteArray := prog_6_method_33_code
def yX4_marks : MethodName := ⟨RX4, "marks", "(I)V"⟩
abbrev cX4_day : ByteArray := prog_6_method_34_code
def yX4_day : MethodName := ⟨RX4, "day", "()V"⟩
abbrev cX4_goes : ByteArray := prog_6_method_35_code
def yX4_goes : MethodName := ⟨RX4, "goes", "(I)V"⟩
abbrev cX4_sumOf : ByteArray := prog_6_method_36_code
def yX4_sumOf : MethodName := ⟨RX4, "sumOf", "(I)I"⟩
abbrev cX4_go : ByteArray := prog_6_method_37_code
def yX4_go : MethodName := ⟨RX4, "go", "(I)I"⟩
abbrev cX4_lenders : ByteArray := prog_6_method_38_code
def yX4_lenders : MethodName := ⟨RX4, "lenders", "()I"⟩
abbrev cX4_bests : ByteArray := prog_6_method_39_code
def yX4_bests : MethodName := ⟨RX4, "bests", "()I"⟩
abbrev cX4_unknown : ByteArray := prog_6_method_40_code
def yX4_unknown : MethodName := ⟨RX4, "unknown", "()I"⟩
abbrev cX4_now : ByteArray := prog_6_method_41_code
def yX4_now : MethodName := ⟨RX4, "now", "(I)I"⟩
abbrev cX4_chain : ByteArray := prog_6_method_42_code
def yX4_chain : MethodName := ⟨RX4, "chain", "(I)I"⟩
abbrev cX4_thenAt : ByteArray := prog_6_method_43_code
def yX4_thenAt : MethodName := ⟨RX4, "thenAt", "(II)I"⟩
abbrev cX4_ahead : ByteArray := prog_6_method_44_code
def yX4_ahead : MethodName := ⟨RX4, "ahead", "(III)I"⟩
abbrev cX4_writes : ByteArray := prog_6_method_45_code
def yX4_writes : MethodName := ⟨RX4, "writes", "(III)I"⟩
abbrev cX4_caught : ByteArray := prog_6_method_46_code
def yX4_caught : MethodName := ⟨RX4, "caught", "(I)I"⟩
abbrev cX4_when : ByteArray := prog_6_method_47_code
def yX4_when : MethodName := ⟨RX4, "when", "(II)I"⟩
abbrev cX4_isAsked : ByteArray := prog_6_method_48_code
def yX4_isAsked : MethodName := ⟨RX4, "isAsked", "(II)Z"⟩
abbrev cX4_copyFrom : ByteArray := prog_6_method_49_code
def yX4_copyFrom : MethodName := ⟨RX4, "copyFrom", "(II)I"⟩
abbrev cX4_kindFor : ByteArray := prog_6_method_50_code
def yX4_kindFor : MethodName := ⟨RX4, "kindFor", "(II)I"⟩
abbrev cX4_learn : ByteArray := prog_6_method_51_code
def yX4_learn : MethodName := ⟨RX4, "learn", "(II)I"⟩
abbrev cX4_caughtThen : ByteArray := prog_6_method_52_code
def yX4_caughtThen : MethodName := ⟨RX4, "caughtThen", "(I)I"⟩
abbrev cX4_limitFor : ByteArray := prog_6_method_53_code
def yX4_limitFor : MethodName := ⟨RX4, "limitFor", "(I)I"⟩
abbrev cX4_forbid : ByteArray := prog_6_method_54_code
def yX4_forbid : MethodName := ⟨RX4, "forbid", "(I)I"⟩
abbrev cX4_biscuitsFor : ByteArray := prog_6_method_55_code
def yX4_biscuitsFor : MethodName := ⟨RX4, "biscuitsFor", "(II)I"⟩
abbrev cX4_isTold : ByteArray := prog_6_method_56_code
def yX4_isTold : MethodName := ⟨RX4, "isTold", "(II)Z"⟩
abbrev cX4_wantsFor : ByteArray := prog_6_method_57_code
def yX4_wantsFor : MethodName := ⟨RX4, "wantsFor", "(II)I"⟩
abbrev cX4_sources : ByteArray := prog_6_method_58_code
def yX4_sources : MethodName := ⟨RX4, "sources", "(II)I"⟩
abbrev cX4_findsFits : ByteArray := prog_6_method_59_code
def yX4_findsFits : MethodName := ⟨RX4, "findsFits", "(II)V"⟩
abbrev cX4_fits : ByteArray := prog_6_method_60_code
def yX4_fits : MethodName := ⟨RX4, "fits", "(II)I"⟩
abbrev cX4_knew : ByteArray := prog_6_method_61_code
def yX4_knew : MethodName := ⟨RX4, "knew", "(II)I"⟩
abbrev cX4_kinds : ByteArray := prog_6_method_62_code
def yX4_kinds : MethodName := ⟨RX4, "kinds", "(II)I"⟩
abbrev cX4_draw : ByteArray := prog_6_method_63_code
def yX4_draw : MethodName := ⟨RX4, "draw", "()I"⟩
abbrev cX4_seats : ByteArray := prog_6_method_64_code
def yX4_seats : MethodName := ⟨RX4, "seats", "(I)I"⟩
abbrev cX4_odds : ByteArray := prog_6_method_65_code
def yX4_odds : MethodName := ⟨RX4, "odds", "(III)J"⟩
abbrev cX4_seed : ByteArray := prog_6_method_66_code
def yX4_seed : MethodName := ⟨RX4, "seed", "(I)I"⟩
abbrev cX4_feed : ByteArray := prog_6_method_67_code
def yX4_feed : MethodName := ⟨RX4, "feed", "(II)I"⟩
abbrev cX4_wipe : ByteArray := prog_6_method_68_code
def yX4_wipe : MethodName := ⟨RX4, "wipe", "()I"⟩
abbrev cX4_isLetter : ByteArray := prog_6_method_69_code
def yX4_isLetter : MethodName := ⟨RX4, "isLetter", "(I)Z"⟩
abbrev cX4_isDigit : ByteArray := prog_6_method_70_code
def yX4_isDigit : MethodName := ⟨RX4, "isDigit", "(I)Z"⟩
abbrev cX4_byteAt : ByteArray := prog_6_method_71_code
def yX4_byteAt : MethodName := ⟨RX4, "byteAt", "(I)I"⟩
abbrev cX4_nextToken : ByteArray := prog_6_method_72_code
def yX4_nextToken : MethodName := ⟨RX4, "nextToken", "()V"⟩
abbrev cX4_has3 : ByteArray := prog_6_method_73_code
def yX4_has3 : MethodName := ⟨RX4, "has3", "(IIII)Z"⟩
abbrev cX4_isWord : ByteArray := prog_6_method_74_code
def yX4_isWord : MethodName := ⟨RX4, "isWord", "(I)Z"⟩
abbrev cX4_fails : ByteArray := prog_6_method_75_code
def yX4_fails : MethodName := ⟨RX4, "fails", "()Z"⟩
abbrev cX4_isFour : ByteArray := prog_6_method_76_code
def yX4_isFour : MethodName := ⟨RX4, "isFour", "(IIII)Z"⟩
abbrev cX4_isFive : ByteArray := prog_6_method_77_code
def yX4_isFive : MethodName := ⟨RX4, "isFive", "(IIIII)Z"⟩
abbrev cX4_isSix : ByteArray := prog_6_method_78_code
def yX4_isSix : MethodName := ⟨RX4, "isSix", "(IIIIII)Z"⟩
abbrev cX4_isNumber : ByteArray := prog_6_method_79_code
def yX4_isNumber : MethodName := ⟨RX4, "isNumber", "(II)Z"⟩
abbrev cX4_kindHere : ByteArray := prog_6_method_80_code
def yX4_kindHere : MethodName := ⟨RX4, "kindHere", "()I"⟩
abbrev cX4_perhaps : ByteArray := prog_6_method_81_code
def yX4_perhaps : MethodName := ⟨RX4, "perhaps", "(ZIII)Z"⟩
abbrev cX4_childHere : ByteArray := prog_6_method_82_code
def yX4_childHere : MethodName := ⟨RX4, "childHere", "(I)Z"⟩
abbrev cX4_rightHere : ByteArray := prog_6_method_83_code
def yX4_rightHere : MethodName := ⟨RX4, "rightHere", "()Z"⟩
abbrev cX4_itemHere : ByteArray := prog_6_method_84_code
def yX4_itemHere : MethodName := ⟨RX4, "itemHere", "()Z"⟩
abbrev cX4_text : ByteArray := prog_6_method_85_code
def yX4_text : MethodName := ⟨RX4, "text", "()I"⟩
abbrev cX4_hold : ByteArray := prog_6_method_86_code
def yX4_hold : MethodName := ⟨RX4, "hold", "(II)I"⟩
abbrev cX4_isUnder : ByteArray := prog_6_method_87_code
def yX4_isUnder : MethodName := ⟨RX4, "isUnder", "(II)Z"⟩
abbrev cX4_as : ByteArray := prog_6_method_88_code
def yX4_as : MethodName := ⟨RX4, "as", "(II)I"⟩
abbrev cX4_isSheet : ByteArray := prog_6_method_89_code
def yX4_isSheet : MethodName := ⟨RX4, "isSheet", "(I)Z"⟩
abbrev cX4_sheet : ByteArray := prog_6_method_90_code
def yX4_sheet : MethodName := ⟨RX4, "sheet", "(III)I"⟩
abbrev cX4_write : ByteArray := prog_6_method_91_code
def yX4_write : MethodName := ⟨RX4, "write", "(III)I"⟩
abbrev cX4_copy : ByteArray := prog_6_method_92_code
def yX4_copy : MethodName := ⟨RX4, "copy", "(IIIII)I"⟩
abbrev cX4_wants : ByteArray := prog_6_method_93_code
def yX4_wants : MethodName := ⟨RX4, "wants", "(I)I"⟩
abbrev cX4_load : ByteArray := prog_6_method_94_code
def yX4_load : MethodName := ⟨RX4, "load", "(I)I"⟩
abbrev cX4_judge : ByteArray := prog_6_method_95_code
def yX4_judge : MethodName := ⟨RX4, "judge", "(I)I"⟩
abbrev cX4_image : ByteArray := prog_6_method_96_code
def yX4_image : MethodName := ⟨RX4, "image", "()I"⟩
abbrev cX4_undo : ByteArray := prog_6_method_97_code
def yX4_undo : MethodName := ⟨RX4, "undo", "()I"⟩
abbrev cX4_tear : ByteArray := prog_6_method_98_code
def yX4_tear : MethodName := ⟨RX4, "tear", "()I"⟩
abbrev cX4_count : ByteArray := prog_6_method_99_code
def yX4_count : MethodName := ⟨RX4, "count", "(I)I"⟩
abbrev cX4_status : ByteArray := prog_6_method_100_code
def yX4_status : MethodName := ⟨RX4, "status", "(I)I"⟩
abbrev cJ6_bitCount_0f7a4 : ByteArray := prog_7_method_49_code
def yJ6_bitCount_0f7a4 : MethodName := ⟨RJ6, "bitCount", "(I)I"⟩
abbrev cJ9_min_7cf53 : ByteArray := prog_8_method_69_code
def yJ9_min_7cf53 : MethodName := ⟨RJ9, "min", "(II)I"⟩
abbrev cJ7_fill_53178 : ByteArray := prog_10_method_103_code
def yJ7_fill_53178 : MethodName := ⟨RJ7, "fill", "([II)V"⟩
abbrev cL_law : ByteArray := code
def yL_law : MethodName := ⟨RL, "law", "([I)Z"⟩
abbrev vwCl : List vw_C := [(RX0, TX0, 10), (RX1, TX1, 3), (RX2, TX2, 7), (RX3, TX3, 7), (RX4, TX4, 18)]
/-- the tables' words that last through calls -/
def gtbl : List Cond := lw_tbl.filter goodWord
theorem in_gt {w : Cond} (i : Nat) (h : lw_tbl[i]? = some w) (hg : goodWord w = true) : w ∈ gtbl := List.mem_filter.mpr ⟨List.mem_of_getElem? h, hg⟩
def nlP : Cond := .fieldLinkNest RX0 63 RX3 "PRICES" "[I" RX3
/-- a method: its name, code, locals, what it returns, frames and stack words below it -/
abbrev MD : Type := MethodName × ByteArray × Nat × Option FieldType × Nat × Nat
def Dn (y : MD) (pc : Nat) (i : Instr) (n pc2 : Nat) : Prop := decode y.2.1 pc = .ok (i, n) ∧ pc + n = pc2
def Dj (y : MD) (pc : Nat) (i : Instr) (off : Int) (pc2 tgt : Nat) : Prop := decode y.2.1 pc = .ok (i, 3) ∧ pc + 3 = pc2 ∧ (pc : Int) + off = (tgt : Int)
def mX0_init : MD := (yX0_init, cX0_init, 2, none, 1, 23)
def mX0_become : MD := (yX0_become, cX0_become, 2, none, 1, 34)
def mX0_has : MD := (yX0_has, cX0_has, 2, some .boolean, 0, 0)
def mX0_fact : MD := (yX0_fact, cX0_fact, 3, some .int, 0, 0)
def mX0_setFact : MD := (yX0_setFact, cX0_setFact, 4, none, 0, 0)
def mX0_answerOf : MD := (yX0_answerOf, cX0_answerOf, 3, some .int, 0, 0)
def mX0_addChild : MD := (yX0_addChild, cX0_addChild, 5, some .int, 1, 23)
def mX0_total : MD := (yX0_total, cX0_total, 4, some .int, 1, 22)
def mX0_price : MD := (yX0_price, cX0_price, 2, some .int, 1, 22)
def mX0_isLending : MD := (yX0_isLending, cX0_isLending, 2, some .boolean, 1, 22)
def mX0_slipOf : MD := (yX0_slipOf, cX0_slipOf, 4, some .int, 1, 22)
def mX0_exchanged : MD := (yX0_exchanged, cX0_exchanged, 2, some .int, 0, 0)
def mX0_onesForSevens : MD := (yX0_onesForSevens, cX0_onesForSevens, 3, some .int, 0, 0)
def mX0_passDays : MD := (yX0_passDays, cX0_passDays, 4, none, 4, 93)
def mX0_writeAnswers : MD := (yX0_writeAnswers, cX0_writeAnswers, 8, none, 3, 66)
def mX0_sourceToday : MD := (yX0_sourceToday, cX0_sourceToday, 4, some .int, 2, 43)
def mX0_payFor : MD := (yX0_payFor, cX0_payFor, 4, none, 2, 43)
def mX0_markAnswers : MD := (yX0_markAnswers, cX0_markAnswers, 3, none, 3, 71)
def mX0_turnDay : MD := (yX0_turnDay, cX0_turnDay, 2, none, 1, 21)
def mX0_childrenAlike : MD := (yX0_childrenAlike, cX0_childrenAlike, 5, some .int, 2, 47)
def mX0_alikeSums : MD := (yX0_alikeSums, cX0_alikeSums, 3, some .int, 2, 47)
def mX0_sameAmong : MD := (yX0_sameAmong, cX0_sameAmong, 6, some .int, 1, 22)
def mX0_wrongSums : MD := (yX0_wrongSums, cX0_wrongSums, 5, some .int, 1, 22)
def mX0_draw : MD := (yX0_draw, cX0_draw, 1, some .int, 0, 0)
def mX0_answeredSums : MD := (yX0_answeredSums, cX0_answeredSums, 4, some .int, 1, 22)
def mX0_copiedChildren : MD := (yX0_copiedChildren, cX0_copiedChildren, 4, some .int, 1, 22)
def mX0_bestChildren : MD := (yX0_bestChildren, cX0_bestChildren, 5, some .int, 1, 22)
def mX0_unknownSums : MD := (yX0_unknownSums, cX0_unknownSums, 3, some .int, 1, 22)
def mX0_chainLength : MD := (yX0_chainLength, cX0_chainLength, 5, some .int, 1, 22)
def mX0_takenSpots : MD := (yX0_takenSpots, cX0_takenSpots, 3, some .int, 0, 0)
def mX1_init : MD := (yX1_init, cX1_init, 1, none, 1, 20)
def mX1_isMissing : MD := (yX1_isMissing, cX1_isMissing, 1, some .boolean, 0, 0)
def mX1_renew : MD := (yX1_renew, cX1_renew, 3, none, 1, 23)
def mX1_put : MD := (yX1_put, cX1_put, 3, none, 0, 0)
def mX1_hasPart : MD := (yX1_hasPart, cX1_hasPart, 3, some .boolean, 0, 0)
def mX1_allows : MD := (yX1_allows, cX1_allows, 3, some .boolean, 0, 0)
def mX2_init : MD := (yX2_init, cX2_init, 1, none, 1, 20)
def mX2_append : MD := (yX2_append, cX2_append, 2, none, 0, 0)
def mX2_readInto : MD := (yX2_readInto, cX2_readInto, 3, some .int, 5, 111)
def mX2_readItem : MD := (yX2_readItem, cX2_readItem, 3, some .boolean, 4, 89)
def mX2_readRight : MD := (yX2_readRight, cX2_readRight, 3, some .boolean, 2, 40)
def mX2_readLimit : MD := (yX2_readLimit, cX2_readLimit, 2, some .boolean, 2, 40)
def mX2_readChild : MD := (yX2_readChild, cX2_readChild, 4, some .boolean, 3, 66)
def mX2_readPerhaps : MD := (yX2_readPerhaps, cX2_readPerhaps, 7, some .boolean, 2, 40)
def mX2_isNumber : MD := (yX2_isNumber, cX2_isNumber, 3, some .boolean, 0, 0)
def mX2_nextToken : MD := (yX2_nextToken, cX2_nextToken, 1, none, 1, 20)
def mX2_takeWord : MD := (yX2_takeWord, cX2_takeWord, 1, none, 0, 0)
def mX2_takeNumber : MD := (yX2_takeNumber, cX2_takeNumber, 1, none, 0, 0)
def mX3_init : MD := (yX3_init, cX3_init, 2, none, 2, 44)
def mX3_right : MD := (yX3_right, cX3_right, 4, some .int, 2, 44)
def mX3_isRight : MD := (yX3_isRight, cX3_isRight, 2, some .int, 2, 44)
def mX3_limit : MD := (yX3_limit, cX3_limit, 3, some .int, 2, 44)
def mX3_child : MD := (yX3_child, cX3_child, 3, some .int, 2, 47)
def mX3_of : MD := (yX3_of, cX3_of, 3, some .int, 2, 45)
def mX3_change : MD := (yX3_change, cX3_change, 5, some .int, 2, 45)
def mX3_answer : MD := (yX3_answer, cX3_answer, 3, some .int, 2, 44)
def mX3_slips : MD := (yX3_slips, cX3_slips, 4, some .int, 2, 45)
def mX3_alike : MD := (yX3_alike, cX3_alike, 3, some .int, 3, 69)
def mX3_go : MD := (yX3_go, cX3_go, 2, some .int, 5, 116)
def mX3_now : MD := (yX3_now, cX3_now, 2, some .int, 2, 46)
def mX3_chain : MD := (yX3_chain, cX3_chain, 2, some .int, 2, 46)
def mX3_ahead : MD := (yX3_ahead, cX3_ahead, 5, some .int, 5, 116)
def mX3_writes : MD := (yX3_writes, cX3_writes, 4, some .int, 5, 116)
def mX3_caught : MD := (yX3_caught, cX3_caught, 3, some .int, 6, 140)
def mX3_when : MD := (yX3_when, cX3_when, 4, some .int, 6, 140)
def mX3_copyFrom : MD := (yX3_copyFrom, cX3_copyFrom, 7, some .int, 6, 140)
def mX3_kindFor : MD := (yX3_kindFor, cX3_kindFor, 7, some .int, 6, 140)
def mX3_learn : MD := (yX3_learn, cX3_learn, 8, some .int, 6, 140)
def mX3_limitFor : MD := (yX3_limitFor, cX3_limitFor, 3, some .int, 6, 139)
def mX3_forbid : MD := (yX3_forbid, cX3_forbid, 5, some .int, 6, 139)
def mX3_biscuitsFor : MD := (yX3_biscuitsFor, cX3_biscuitsFor, 5, some .int, 6, 140)
def mX3_sources : MD := (yX3_sources, cX3_sources, 6, some .int, 6, 141)
def mX3_fits : MD := (yX3_fits, cX3_fits, 7, some .int, 6, 137)
def mX3_knew : MD := (yX3_knew, cX3_knew, 6, some .int, 6, 137)
def mX3_kinds : MD := (yX3_kinds, cX3_kinds, 6, some .int, 6, 141)
def mX3_seats : MD := (yX3_seats, cX3_seats, 5, some .int, 5, 116)
def mX3_odds : MD := (yX3_odds, cX3_odds, 6, some .long, 2, 44)
def mX3_seed : MD := (yX3_seed, cX3_seed, 3, some .int, 0, 0)
def mX3_feed : MD := (yX3_feed, cX3_feed, 4, some .int, 2, 44)
def mX3_wipe : MD := (yX3_wipe, cX3_wipe, 2, some .int, 0, 0)
def mX3_text : MD := (yX3_text, cX3_text, 2, some .int, 6, 133)
def mX3_hold : MD := (yX3_hold, cX3_hold, 3, some .int, 2, 44)
def mX3_as : MD := (yX3_as, cX3_as, 4, some .int, 2, 45)
def mX3_sheet : MD := (yX3_sheet, cX3_sheet, 5, some .int, 2, 45)
def mX3_write : MD := (yX3_write, cX3_write, 5, some .int, 2, 44)
def mX3_copy : MD := (yX3_copy, cX3_copy, 8, some .int, 2, 44)
def mX3_load : MD := (yX3_load, cX3_load, 4, some .int, 2, 44)
def mX3_judge : MD := (yX3_judge, cX3_judge, 4, some .int, 2, 44)
def mX3_image : MD := (yX3_image, cX3_image, 1, some .int, 2, 55)
def mX3_undo : MD := (yX3_undo, cX3_undo, 1, some .int, 2, 55)
def mX3_tear : MD := (yX3_tear, cX3_tear, 2, some .int, 0, 0)
def mX3_count : MD := (yX3_count, cX3_count, 2, some .int, 2, 45)
def mX3_status : MD := (yX3_status, cX3_status, 4, some .int, 2, 44)
def mX3_finding : MD := (yX3_finding, cX3_finding, 3, some .int, 1, 22)
def mX3_within : MD := (yX3_within, cX3_within, 3, some .boolean, 0, 0)
def mX3_canBecome : MD := (yX3_canBecome, cX3_canBecome, 4, some .boolean, 1, 22)
def mX3_sheetCheck : MD := (yX3_sheetCheck, cX3_sheetCheck, 2, some .int, 1, 22)
def mX3_sheetAndChildCheck : MD := (yX3_sheetAndChildCheck, cX3_sheetAndChildCheck, 4, some .int, 2, 43)
def mX3_daysUntil : MD := (yX3_daysUntil, cX3_daysUntil, 5, some .int, 5, 116)
def mX3_marksWith : MD := (yX3_marksWith, cX3_marksWith, 5, some .int, 5, 116)
def mX3_nobodyIsCaughtInTrial : MD := (yX3_nobodyIsCaughtInTrial, cX3_nobodyIsCaughtInTrial, 4, some .boolean, 5, 116)
def mX3_tryWithoutCopiesFrom : MD := (yX3_tryWithoutCopiesFrom, cX3_tryWithoutCopiesFrom, 4, none, 2, 55)
def mX3_writesAsAsked : MD := (yX3_writesAsAsked, cX3_writesAsAsked, 6, some .boolean, 5, 116)
def mX3_tryDayKnowingNothing : MD := (yX3_tryDayKnowingNothing, cX3_tryDayKnowingNothing, 2, none, 5, 116)
def mX3_fitsUnknown : MD := (yX3_fitsUnknown, cX3_fitsUnknown, 4, some .boolean, 1, 22)
def mX3_fitsKnown : MD := (yX3_fitsKnown, cX3_fitsKnown, 3, some .boolean, 1, 22)
def mX3_power : MD := (yX3_power, cX3_power, 5, some .long, 0, 0)
def mX3_isUnder : MD := (yX3_isUnder, cX3_isUnder, 4, some .boolean, 1, 22)
def mX4_init : MD := (yX4_init, cX4_init, 2, none, 1, 20)
def mX4_isIn : MD := (yX4_isIn, cX4_isIn, 6, some .boolean, 0, 0)
def mX4_finds : MD := (yX4_finds, cX4_finds, 2, some .int, 0, 0)
def mX4_becomes : MD := (yX4_becomes, cX4_becomes, 4, some .int, 0, 0)
def mX4_copyRow : MD := (yX4_copyRow, cX4_copyRow, 3, none, 0, 0)
def mX4_isSum : MD := (yX4_isSum, cX4_isSum, 1, some .boolean, 0, 0)
def mX4_isChild : MD := (yX4_isChild, cX4_isChild, 2, some .boolean, 0, 0)
def mX4_at : MD := (yX4_at, cX4_at, 2, some .int, 0, 0)
def mX4_its : MD := (yX4_its, cX4_its, 3, some .int, 0, 0)
def mX4_least : MD := (yX4_least, cX4_least, 2, some .int, 0, 0)
def mX4_greatest : MD := (yX4_greatest, cX4_greatest, 2, some .int, 0, 0)
def mX4_orNone : MD := (yX4_orNone, cX4_orNone, 2, some .int, 1, 21)
def mX4_many : MD := (yX4_many, cX4_many, 3, some .int, 0, 0)
def mX4_right : MD := (yX4_right, cX4_right, 3, some .int, 1, 25)
def mX4_isRight : MD := (yX4_isRight, cX4_isRight, 2, some .int, 1, 21)
def mX4_limit : MD := (yX4_limit, cX4_limit, 2, some .int, 1, 25)
def mX4_comes : MD := (yX4_comes, cX4_comes, 5, none, 1, 21)
def mX4_child : MD := (yX4_child, cX4_child, 3, some .int, 2, 45)
def mX4_pays : MD := (yX4_pays, cX4_pays, 1, some .int, 0, 0)
def mX4_lends : MD := (yX4_lends, cX4_lends, 2, some .boolean, 1, 22)
def mX4_oneForSeven : MD := (yX4_oneForSeven, cX4_oneForSeven, 1, some .int, 0, 0)
def mX4_slipsOf : MD := (yX4_slipsOf, cX4_slipsOf, 6, some .int, 1, 20)
def mX4_answered : MD := (yX4_answered, cX4_answered, 4, some .int, 1, 22)
def mX4_of : MD := (yX4_of, cX4_of, 3, some .int, 2, 45)
def mX4_may : MD := (yX4_may, cX4_may, 4, some .boolean, 1, 25)
def mX4_change : MD := (yX4_change, cX4_change, 4, some .int, 2, 48)
def mX4_answer : MD := (yX4_answer, cX4_answer, 3, some .int, 1, 22)
def mX4_slips : MD := (yX4_slips, cX4_slips, 4, some .int, 2, 45)
def mX4_alikeOf : MD := (yX4_alikeOf, cX4_alikeOf, 6, some .int, 1, 22)
def mX4_alike : MD := (yX4_alike, cX4_alike, 3, some .int, 2, 47)
def mX4_writesAll : MD := (yX4_writesAll, cX4_writesAll, 7, none, 2, 45)
def mX4_isFound : MD := (yX4_isFound, cX4_isFound, 4, some .boolean, 2, 47)
def mX4_marks : MD := (yX4_marks, cX4_marks, 4, none, 3, 70)
def mX4_day : MD := (yX4_day, cX4_day, 2, none, 4, 93)
def mX4_goes : MD := (yX4_goes, cX4_goes, 3, none, 5, 114)
def mX4_sumOf : MD := (yX4_sumOf, cX4_sumOf, 4, some .int, 1, 22)
def mX4_go : MD := (yX4_go, cX4_go, 2, some .int, 6, 136)
def mX4_lenders : MD := (yX4_lenders, cX4_lenders, 3, some .int, 1, 22)
def mX4_bests : MD := (yX4_bests, cX4_bests, 5, some .int, 1, 22)
def mX4_unknown : MD := (yX4_unknown, cX4_unknown, 3, some .int, 1, 22)
def mX4_now : MD := (yX4_now, cX4_now, 2, some .int, 2, 46)
def mX4_chain : MD := (yX4_chain, cX4_chain, 4, some .int, 1, 22)
def mX4_thenAt : MD := (yX4_thenAt, cX4_thenAt, 4, some .int, 6, 136)
def mX4_ahead : MD := (yX4_ahead, cX4_ahead, 5, some .int, 7, 159)
def mX4_writes : MD := (yX4_writes, cX4_writes, 4, some .int, 7, 159)
def mX4_caught : MD := (yX4_caught, cX4_caught, 4, some .int, 5, 114)
def mX4_when : MD := (yX4_when, cX4_when, 4, some .int, 5, 114)
def mX4_isAsked : MD := (yX4_isAsked, cX4_isAsked, 3, some .boolean, 1, 25)
def mX4_copyFrom : MD := (yX4_copyFrom, cX4_copyFrom, 9, some .int, 7, 159)
def mX4_kindFor : MD := (yX4_kindFor, cX4_kindFor, 8, some .int, 7, 159)
def mX4_learn : MD := (yX4_learn, cX4_learn, 8, some .int, 7, 159)
def mX4_caughtThen : MD := (yX4_caughtThen, cX4_caughtThen, 2, some .int, 6, 136)
def mX4_limitFor : MD := (yX4_limitFor, cX4_limitFor, 5, some .int, 7, 157)
def mX4_forbid : MD := (yX4_forbid, cX4_forbid, 7, some .int, 7, 157)
def mX4_biscuitsFor : MD := (yX4_biscuitsFor, cX4_biscuitsFor, 7, some .int, 7, 159)
def mX4_isTold : MD := (yX4_isTold, cX4_isTold, 6, some .boolean, 5, 114)
def mX4_wantsFor : MD := (yX4_wantsFor, cX4_wantsFor, 3, some .int, 2, 41)
def mX4_sources : MD := (yX4_sources, cX4_sources, 7, some .int, 6, 139)
def mX4_findsFits : MD := (yX4_findsFits, cX4_findsFits, 5, none, 6, 139)
def mX4_fits : MD := (yX4_fits, cX4_fits, 4, some .int, 7, 163)
def mX4_knew : MD := (yX4_knew, cX4_knew, 4, some .int, 7, 163)
def mX4_kinds : MD := (yX4_kinds, cX4_kinds, 7, some .int, 6, 139)
def mX4_draw : MD := (yX4_draw, cX4_draw, 1, some .int, 0, 0)
def mX4_seats : MD := (yX4_seats, cX4_seats, 5, some .int, 5, 114)
def mX4_odds : MD := (yX4_odds, cX4_odds, 10, some .long, 1, 25)
def mX4_seed : MD := (yX4_seed, cX4_seed, 2, some .int, 1, 23)
def mX4_feed : MD := (yX4_feed, cX4_feed, 4, some .int, 1, 25)
def mX4_wipe : MD := (yX4_wipe, cX4_wipe, 2, some .int, 0, 0)
def mX4_isLetter : MD := (yX4_isLetter, cX4_isLetter, 1, some .boolean, 0, 0)
def mX4_isDigit : MD := (yX4_isDigit, cX4_isDigit, 1, some .boolean, 0, 0)
def mX4_byteAt : MD := (yX4_byteAt, cX4_byteAt, 2, some .int, 0, 0)
def mX4_nextToken : MD := (yX4_nextToken, cX4_nextToken, 2, none, 1, 21)
def mX4_has3 : MD := (yX4_has3, cX4_has3, 5, some .boolean, 1, 21)
def mX4_isWord : MD := (yX4_isWord, cX4_isWord, 2, some .boolean, 0, 0)
def mX4_fails : MD := (yX4_fails, cX4_fails, 1, some .boolean, 0, 0)
def mX4_isFour : MD := (yX4_isFour, cX4_isFour, 5, some .boolean, 2, 45)
def mX4_isFive : MD := (yX4_isFive, cX4_isFive, 6, some .boolean, 2, 45)
def mX4_isSix : MD := (yX4_isSix, cX4_isSix, 7, some .boolean, 2, 45)
def mX4_isNumber : MD := (yX4_isNumber, cX4_isNumber, 3, some .boolean, 1, 25)
def mX4_kindHere : MD := (yX4_kindHere, cX4_kindHere, 1, some .int, 3, 71)
def mX4_perhaps : MD := (yX4_perhaps, cX4_perhaps, 5, some .boolean, 2, 47)
def mX4_childHere : MD := (yX4_childHere, cX4_childHere, 3, some .boolean, 3, 71)
def mX4_rightHere : MD := (yX4_rightHere, cX4_rightHere, 1, some .boolean, 3, 71)
def mX4_itemHere : MD := (yX4_itemHere, cX4_itemHere, 2, some .boolean, 4, 93)
def mX4_text : MD := (yX4_text, cX4_text, 3, some .int, 5, 114)
def mX4_hold : MD := (yX4_hold, cX4_hold, 3, some .int, 1, 25)
def mX4_isUnder : MD := (yX4_isUnder, cX4_isUnder, 2, some .boolean, 0, 0)
def mX4_as : MD := (yX4_as, cX4_as, 4, some .int, 1, 25)
def mX4_isSheet : MD := (yX4_isSheet, cX4_isSheet, 1, some .boolean, 0, 0)
def mX4_sheet : MD := (yX4_sheet, cX4_sheet, 5, some .int, 1, 21)
def mX4_write : MD := (yX4_write, cX4_write, 4, some .int, 1, 25)
def mX4_copy : MD := (yX4_copy, cX4_copy, 10, some .int, 1, 21)
def mX4_wants : MD := (yX4_wants, cX4_wants, 2, some .int, 1, 20)
def mX4_load : MD := (yX4_load, cX4_load, 3, some .int, 2, 41)
def mX4_judge : MD := (yX4_judge, cX4_judge, 3, some .int, 2, 41)
def mX4_image : MD := (yX4_image, cX4_image, 1, some .int, 1, 22)
def mX4_undo : MD := (yX4_undo, cX4_undo, 1, some .int, 1, 22)
def mX4_tear : MD := (yX4_tear, cX4_tear, 2, some .int, 0, 0)
def mX4_count : MD := (yX4_count, cX4_count, 4, some .int, 2, 45)
def mX4_status : MD := (yX4_status, cX4_status, 2, some .int, 1, 25)
def mJ6_bitCount_0f7a4 : MD := (yJ6_bitCount_0f7a4, cJ6_bitCount_0f7a4, 1, some .int, 0, 0)
def mJ9_min_7cf53 : MD := (yJ9_min_7cf53, cJ9_min_7cf53, 2, some .int, 0, 0)
def mJ7_fill_53178 : MD := (yJ7_fill_53178, cJ7_fill_53178, 4, none, 0, 0)
def mL_law : MD := (yL_law, cL_law, 4, some .boolean, 10, 376)
end
section
theorem eX0_init_0 : Dn mX0_init 0 (.aload_n 0) 1 1 := ⟨by decide +kernel, rfl⟩
theorem eX0_init_1 : Dn mX0_init 1 (.invokespecial 3) 3 4 := ⟨by decide +kernel, rfl⟩
theorem eX0_init_4 : Dn mX0_init 4 (.aload_n 0) 1 5 := ⟨by decide +kernel, rfl⟩
theorem eX0_init_5 : Dn mX0_init 5 (.bipush 8) 2 7 := ⟨by decide +kernel, rfl⟩
theorem eX0_init_7 : Dn mX0_init 7 (.newarray .int) 2 9 := ⟨by decide +kernel, rfl⟩
theorem eX0_init_9 : Dn mX0_init 9 (.putfield 9) 3 12 := ⟨by decide +kernel, rfl⟩
theorem eX0_init_12 : Dn mX0_init 12 (.aload_n 0) 1 13 := ⟨by decide +kernel, rfl⟩
theorem eX0_init_13 : Dn mX0_init 13 (.bipush 48) 2 15 := ⟨by decide +kernel, rfl⟩
theorem eX0_init_15 : Dn mX0_init 15 (.newarray .int) 2 17 := ⟨by decide +kernel, rfl⟩
theorem eX0_init_17 : Dn mX0_init 17 (.putfield 15) 3 20 := ⟨by decide +kernel, rfl⟩
theorem eX0_init_20 : Dn mX0_init 20 (.aload_n 0) 1 21 := ⟨by decide +kernel, rfl⟩
theorem eX0_init_21 : Dn mX0_init 21 (.bipush 64) 2 23 := ⟨by decide +kernel, rfl⟩
theorem eX0_init_23 : Dn mX0_init 23 (.newarray .int) 2 25 := ⟨by decide +kernel, rfl⟩
theorem eX0_init_25 : Dn mX0_init 25 (.putfield 18) 3 28 := ⟨by decide +kernel, rfl⟩
theorem eX0_init_28 : Dn mX0_init 28 (.aload_n 0) 1 29 := ⟨by decide +kernel, rfl⟩
theorem eX0_init_29 : Dn mX0_init 29 (.bipush 10) 2 31 := ⟨by decide +kernel, rfl⟩
theorem eX0_init_31 : Dn mX0_init 31 (.newarray .int) 2 33 := ⟨by decide +kernel, rfl⟩
theorem eX0_init_33 : Dn mX0_init 33 (.putfield 21) 3 36 := ⟨by decide +kernel, rfl⟩
theorem eX0_init_36 : Dn mX0_init 36 (.aload_n 0) 1 37 := ⟨by decide +kernel, rfl⟩
theorem eX0_init_37 : Dn mX0_init 37 (.bipush 8) 2 39 := ⟨by decide +kernel, rfl⟩
theorem eX0_init_39 : Dn mX0_init 39 (.newarray .int) 2 41 := ⟨by decide +kernel, rfl⟩
theorem eX0_init_41 : Dn mX0_init 41 (.putfield 24) 3 44 := ⟨by decide +kernel, rfl⟩
theorem eX0_init_44 : Dn mX0_init 44 (.aload_n 0) 1 45 := ⟨by decide +kernel, rfl⟩
theorem eX0_init_45 : Dn mX0_init 45 (.bipush 8) 2 47 := ⟨by decide +kernel, rfl⟩
theorem eX0_init_47 : Dn mX0_init 47 (.newarray .int) 2 49 := ⟨by decide +kernel, rfl⟩
theorem eX0_init_49 : Dn mX0_init 49 (.putfield 27) 3 52 := ⟨by decide +kernel, rfl⟩
theorem eX0_init_52 : Dn mX0_init 52 (.aload_n 0) 1 53 := ⟨by decide +kernel, rfl⟩
theorem eX0_init_53 : Dn mX0_init 53 (.iconst 2) 1 54 := ⟨by decide +kernel, rfl⟩
theorem eX0_init_54 : Dn mX0_init 54 (.putfield 30) 3 57 := ⟨by decide +kernel, rfl⟩
theorem eX0_init_57 : Dn mX0_init 57 (.aload_n 0) 1 58 := ⟨by decide +kernel, rfl⟩
theorem eX0_init_58 : Dn mX0_init 58 (.iconst 0) 1 59 := ⟨by decide +kernel, rfl⟩
theorem eX0_init_59 : Dn mX0_init 59 (.putfield 34) 3 62 := ⟨by decide +kernel, rfl⟩
theorem eX0_init_62 : Dn mX0_init 62 (.aload_n 0) 1 63 := ⟨by decide +kernel, rfl⟩
theorem eX0_init_63 : Dn mX0_init 63 (.iconst 0) 1 64 := ⟨by decide +kernel, rfl⟩
theorem eX0_init_64 : Dn mX0_init 64 (.putfield 37) 3 67 := ⟨by decide +kernel, rfl⟩
theorem eX0_init_67 : Dn mX0_init 67 (.aload_n 0) 1 68 := ⟨by decide +kernel, rfl⟩
theorem eX0_init_68 : Dn mX0_init 68 (.iconst 1) 1 69 := ⟨by decide +kernel, rfl⟩
theorem eX0_init_69 : Dn mX0_init 69 (.putfield 40) 3 72 := ⟨by decide +kernel, rfl⟩
theorem eX0_init_72 : Dn mX0_init 72 (.iconst 0) 1 73 := ⟨by decide +kernel, rfl⟩
theorem eX0_init_73 : Dn mX0_init 73 (.istore_n 1) 1 74 := ⟨by decide +kernel, rfl⟩
theorem eX0_init_74 : Dn mX0_init 74 (.iload_n 1) 1 75 := ⟨by decide +kernel, rfl⟩
theorem eX0_init_75 : Dn mX0_init 75 (.bipush 8) 2 77 := ⟨by decide +kernel, rfl⟩
theorem eX0_init_77 : Dj mX0_init 77 (.if_icmp .ge 22) (22) 80 99 := ⟨by decide +kernel, rfl, rfl⟩
theorem eX0_init_80 : Dn mX0_init 80 (.aload_n 0) 1 81 := ⟨by decide +kernel, rfl⟩
theorem eX0_init_81 : Dn mX0_init 81 (.getfield 9) 3 84 := ⟨by decide +kernel, rfl⟩
theorem eX0_init_84 : Dn mX0_init 84 (.iload_n 1) 1 85 := ⟨by decide +kernel, rfl⟩
theorem eX0_init_85 : Dn mX0_init 85 (.bipush 11) 2 87 := ⟨by decide +kernel, rfl⟩
theorem eX0_init_87 : Dn mX0_init 87 (.iload_n 1) 1 88 := ⟨by decide +kernel, rfl⟩
theorem eX0_init_88 : Dn mX0_init 88 (.imul) 1 89 := ⟨by decide +kernel, rfl⟩
theorem eX0_init_89 : Dn mX0_init 89 (.bipush 14) 2 91 := ⟨by decide +kernel, rfl⟩
theorem eX0_init_91 : Dn mX0_init 91 (.iadd) 1 92 := ⟨by decide +kernel, rfl⟩
theorem eX0_init_92 : Dn mX0_init 92 (.iastore) 1 93 := ⟨by decide +kernel, rfl⟩
theorem eX0_init_93 : Dn mX0_init 93 (.iinc 1 1) 3 96 := ⟨by decide +kernel, rfl⟩
theorem eX0_init_96 : Dj mX0_init 96 (.goto (-22)) (-22) 99 74 := ⟨by decide +kernel, rfl, rfl⟩
theorem eX0_init_99 : Dn mX0_init 99 (.aload_n 0) 1 100 := ⟨by decide +kernel, rfl⟩
theorem eX0_init_100 : Dn mX0_init 100 (.getfield 21) 3 103 := ⟨by decide +kernel, rfl⟩
theorem eX0_init_103 : Dn mX0_init 103 (.iconst (-1)) 1 104 := ⟨by decide +kernel, rfl⟩
theorem eX0_init_104 : Dn mX0_init 104 (.invokestatic 43) 3 107 := ⟨by decide +kernel, rfl⟩
theorem eX0_init_107 : Dn mX0_init 107 (.return_) 1 108 := ⟨by decide +kernel, rfl⟩
theorem eX0_become_0 : Dn mX0_become 0 (.aload_n 1) 1 1 := ⟨by decide +kernel, rfl⟩
theorem eX0_become_1 : Dn mX0_become 1 (.getfield 9) 3 4 := ⟨by decide +kernel, rfl⟩
theorem eX0_become_4 : Dn mX0_become 4 (.iconst 0) 1 5 := ⟨by decide +kernel, rfl⟩
theorem eX0_become_5 : Dn mX0_become 5 (.aload_n 0) 1 6 := ⟨by decide +kernel, rfl⟩
theorem eX0_become_6 : Dn mX0_become 6 (.getfield 9) 3 9 := ⟨by decide +kernel, rfl⟩
theorem eX0_become_9 : Dn mX0_become 9 (.iconst 0) 1 10 := ⟨by decide +kernel, rfl⟩
theorem eX0_become_10 : Dn mX0_become 10 (.bipush 8) 2 12 := ⟨by decide +kernel, rfl⟩
theorem eX0_become_12 : Dn mX0_become 12 (.invokestatic 49) 3 15 := ⟨by decide +kernel, rfl⟩
theorem eX0_become_15 : Dn mX0_become 15 (.aload_n 1) 1 16 := ⟨by decide +kernel, rfl⟩
theorem eX0_become_16 : Dn mX0_become 16 (.getfield 15) 3 19 := ⟨by decide +kernel, rfl⟩
theorem eX0_become_19 : Dn mX0_become 19 (.iconst 0) 1 20 := ⟨by decide +kernel, rfl⟩
theorem eX0_become_20 : Dn mX0_become 20 (.aload_n 0) 1 21 := ⟨by decide +kernel, rfl⟩
theorem eX0_become_21 : Dn mX0_become 21 (.getfield 15) 3 24 := ⟨by decide +kernel, rfl⟩
theorem eX0_become_24 : Dn mX0_become 24 (.iconst 0) 1 25 := ⟨by decide +kernel, rfl⟩
theorem eX0_become_25 : Dn mX0_become 25 (.bipush 48) 2 27 := ⟨by decide +kernel, rfl⟩
theorem eX0_become_27 : Dn mX0_become 27 (.invokestatic 49) 3 30 := ⟨by decide +kernel, rfl⟩
theorem eX0_become_30 : Dn mX0_become 30 (.aload_n 1) 1 31 := ⟨by decide +kernel, rfl⟩
theorem eX0_become_31 : Dn mX0_become 31 (.getfield 18) 3 34 := ⟨by decide +kernel, rfl⟩
theorem eX0_become_34 : Dn mX0_become 34 (.iconst 0) 1 35 := ⟨by decide +kernel, rfl⟩
theorem eX0_become_35 : Dn mX0_become 35 (.aload_n 0) 1 36 := ⟨by decide +kernel, rfl⟩
theorem eX0_become_36 : Dn mX0_become 36 (.getfield 18) 3 39 := ⟨by decide +kernel, rfl⟩
theorem eX0_become_39 : Dn mX0_become 39 (.iconst 0) 1 40 := ⟨by decide +kernel, rfl⟩
theorem eX0_become_40 : Dn mX0_become 40 (.bipush 64) 2 42 := ⟨by decide +kernel, rfl⟩
theorem eX0_become_42 : Dn mX0_become 42 (.invokestatic 49) 3 45 := ⟨by decide +kernel, rfl⟩
theorem eX0_become_45 : Dn mX0_become 45 (.aload_n 1) 1 46 := ⟨by decide +kernel, rfl⟩
theorem eX0_become_46 : Dn mX0_become 46 (.getfield 21) 3 49 := ⟨by decide +kernel, rfl⟩
theorem eX0_become_49 : Dn mX0_become 49 (.iconst 0) 1 50 := ⟨by decide +kernel, rfl⟩
theorem eX0_become_50 : Dn mX0_become 50 (.aload_n 0) 1 51 := ⟨by decide +kernel, rfl⟩
theorem eX0_become_51 : Dn mX0_become 51 (.getfield 21) 3 54 := ⟨by decide +kernel, rfl⟩
theorem eX0_become_54 : Dn mX0_become 54 (.iconst 0) 1 55 := ⟨by decide +kernel, rfl⟩
theorem eX0_become_55 : Dn mX0_become 55 (.bipush 10) 2 57 := ⟨by decide +kernel, rfl⟩
theorem eX0_become_57 : Dn mX0_become 57 (.invokestatic 49) 3 60 := ⟨by decide +kernel, rfl⟩
theorem eX0_become_60 : Dn mX0_become 60 (.aload_n 0) 1 61 := ⟨by decide +kernel, rfl⟩
theorem eX0_become_61 : Dn mX0_become 61 (.aload_n 1) 1 62 := ⟨by decide +kernel, rfl⟩
theorem eX0_become_62 : Dn mX0_become 62 (.getfield 30) 3 65 := ⟨by decide +kernel, rfl⟩
theorem eX0_become_65 : Dn mX0_become 65 (.putfield 30) 3 68 := ⟨by decide +kernel, rfl⟩
theorem eX0_become_68 : Dn mX0_become 68 (.aload_n 0) 1 69 := ⟨by decide +kernel, rfl⟩
theorem eX0_become_69 : Dn mX0_become 69 (.aload_n 1) 1 70 := ⟨by decide +kernel, rfl⟩
theorem eX0_become_70 : Dn mX0_become 70 (.getfield 34) 3 73 := ⟨by decide +kernel, rfl⟩
theorem eX0_become_73 : Dn mX0_become 73 (.putfield 34) 3 76 := ⟨by decide +kernel, rfl⟩
theorem eX0_become_76 : Dn mX0_become 76 (.aload_n 0) 1 77 := ⟨by decide +kernel, rfl⟩
theorem eX0_become_77 : Dn mX0_become 77 (.aload_n 1) 1 78 := ⟨by decide +kernel, rfl⟩
theorem eX0_become_78 : Dn mX0_become 78 (.getfield 37) 3 81 := ⟨by decide +kernel, rfl⟩
theorem eX0_become_81 : Dn mX0_become 81 (.putfield 37) 3 84 := ⟨by decide +kernel, rfl⟩
theorem eX0_become_84 : Dn mX0_become 84 (.aload_n 0) 1 85 := ⟨by decide +kernel, rfl⟩
theorem eX0_become_85 : Dn mX0_become 85 (.aload_n 1) 1 86 := ⟨by decide +kernel, rfl⟩
theorem eX0_become_86 : Dn mX0_become 86 (.getfield 40) 3 89 := ⟨by decide +kernel, rfl⟩
theorem eX0_become_89 : Dn mX0_become 89 (.putfield 40) 3 92 := ⟨by decide +kernel, rfl⟩
theorem eX0_become_92 : Dn mX0_become 92 (.return_) 1 93 := ⟨by decide +kernel, rfl⟩
theorem eX0_has_0 : Dn mX0_has 0 (.iload_n 1) 1 1 := ⟨by decide +kernel, rfl⟩
theorem eX0_has_1 : Dj mX0_has 1 (.ifCond .lt 15) (15) 4 16 := ⟨by decide +kernel, rfl, rfl⟩
theorem eX0_has_4 : Dn mX0_has 4 (.iload_n 1) 1 5 := ⟨by decide +kernel, rfl⟩
theorem eX0_has_5 : Dn mX0_has 5 (.aload_n 0) 1 6 := ⟨by decide +kernel, rfl⟩
theorem eX0_has_6 : Dn mX0_has 6 (.getfield 34) 3 9 := ⟨by decide +kernel, rfl⟩
theorem eX0_has_9 : Dj mX0_has 9 (.if_icmp .ge 7) (7) 12 16 := ⟨by decide +kernel, rfl, rfl⟩
theorem eX0_has_12 : Dn mX0_has 12 (.iconst 1) 1 13 := ⟨by decide +kernel, rfl⟩
theorem eX0_has_13 : Dj mX0_has 13 (.goto 4) (4) 16 17 := ⟨by decide +kernel, rfl, rfl⟩
theorem eX0_has_16 : Dn mX0_has 16 (.iconst 0) 1 17 := ⟨by decide +kernel, rfl⟩
theorem eX0_has_17 : Dn mX0_has 17 (.ireturn) 1 18 := ⟨by decide +kernel, rfl⟩
theorem eX0_fact_0 : Dn mX0_fact 0 (.aload_n 0) 1 1 := ⟨by decide +kernel, rfl⟩
theorem eX0_fact_1 : Dn mX0_fact 1 (.getfield 15) 3 4 := ⟨by decide +kernel, rfl⟩
theorem eX0_fact_4 : Dn mX0_fact 4 (.iload_n 1) 1 5 := ⟨by decide +kernel, rfl⟩
theorem eX0_fact_5 : Dn mX0_fact 5 (.bipush 6) 2 7 := ⟨by decide +kernel, rfl⟩
theorem eX0_fact_7 : Dn mX0_fact 7 (.imul) 1 8 := ⟨by decide +kernel, rfl⟩
theorem eX0_fact_8 : Dn mX0_fact 8 (.iload_n 2) 1 9 := ⟨by decide +kernel, rfl⟩
theorem eX0_fact_9 : Dn mX0_fact 9 (.iadd) 1 10 := ⟨by decide +kernel, rfl⟩
theorem eX0_fact_10 : Dn mX0_fact 10 (.iaload) 1 11 := ⟨by decide +kernel, rfl⟩
theorem eX0_fact_11 : Dn mX0_fact 11 (.ireturn) 1 12 := ⟨by decide +kernel, rfl⟩
theorem eX0_setFact_0 : Dn mX0_setFact 0 (.aload_n 0) 1 1 := ⟨by decide +kernel, rfl⟩
theorem eX0_setFact_1 : Dn mX0_setFact 1 (.getfield 15) 3 4 := ⟨by decide +kernel, rfl⟩
theorem eX0_setFact_4 : Dn mX0_setFact 4 (.iload_n 1) 1 5 := ⟨by decide +kernel, rfl⟩
theorem eX0_setFact_5 : Dn mX0_setFact 5 (.bipush 6) 2 7 := ⟨by decide +kernel, rfl⟩
theorem eX0_setFact_7 : Dn mX0_setFact 7 (.imul) 1 8 := ⟨by decide +kernel, rfl⟩
theorem eX0_setFact_8 : Dn mX0_setFact 8 (.iload_n 2) 1 9 := ⟨by decide +kernel, rfl⟩
theorem eX0_setFact_9 : Dn mX0_setFact 9 (.iadd) 1 10 := ⟨by decide +kernel, rfl⟩
theorem eX0_setFact_10 : Dn mX0_setFact 10 (.iload_n 3) 1 11 := ⟨by decide +kernel, rfl⟩
theorem eX0_setFact_11 : Dn mX0_setFact 11 (.iastore) 1 12 := ⟨by decide +kernel, rfl⟩
theorem eX0_setFact_12 : Dn mX0_setFact 12 (.return_) 1 13 := ⟨by decide +kernel, rfl⟩
theorem eX0_answerOf_0 : Dn mX0_answerOf 0 (.aload_n 0) 1 1 := ⟨by decide +kernel, rfl⟩
theorem eX0_answerOf_1 : Dn mX0_answerOf 1 (.getfield 18) 3 4 := ⟨by decide +kernel, rfl⟩
theorem eX0_answerOf_4 : Dn mX0_answerOf 4 (.iload_n 1) 1 5 := ⟨by decide +kernel, rfl⟩
theorem eX0_answerOf_5 : Dn mX0_answerOf 5 (.bipush 8) 2 7 := ⟨by decide +kernel, rfl⟩
theorem eX0_answerOf_7 : Dn mX0_answerOf 7 (.imul) 1 8 := ⟨by decide +kernel, rfl⟩
theorem eX0_answerOf_8 : Dn mX0_answerOf 8 (.iload_n 2) 1 9 := ⟨by decide +kernel, rfl⟩
theorem eX0_answerOf_9 : Dn mX0_answerOf 9 (.iadd) 1 10 := ⟨by decide +kernel, rfl⟩
theorem eX0_answerOf_10 : Dn mX0_answerOf 10 (.iaload) 1 11 := ⟨by decide +kernel, rfl⟩
theorem eX0_answerOf_11 : Dn mX0_answerOf 11 (.ireturn) 1 12 := ⟨by decide +kernel, rfl⟩
theorem eX0_addChild_0 : Dn mX0_addChild 0 (.aload_n 0) 1 1 := ⟨by decide +kernel, rfl⟩
theorem eX0_addChild_1 : Dn mX0_addChild 1 (.getfield 34) 3 4 := ⟨by decide +kernel, rfl⟩
theorem eX0_addChild_4 : Dn mX0_addChild 4 (.istore_n 3) 1 5 := ⟨by decide +kernel, rfl⟩
theorem eX0_addChild_5 : Dn mX0_addChild 5 (.aload_n 0) 1 6 := ⟨by decide +kernel, rfl⟩
theorem eX0_addChild_6 : Dn mX0_addChild 6 (.iload_n 3) 1 7 := ⟨by decide +kernel, rfl⟩
theorem eX0_addChild_7 : Dn mX0_addChild 7 (.iconst 0) 1 8 := ⟨by decide +kernel, rfl⟩
theorem eX0_addChild_8 : Dn mX0_addChild 8 (.iload_n 1) 1 9 := ⟨by decide +kernel, rfl⟩
theorem eX0_addChild_9 : Dn mX0_addChild 9 (.invokevirtual 55) 3 12 := ⟨by decide +kernel, rfl⟩
theorem eX0_addChild_12 : Dn mX0_addChild 12 (.aload_n 0) 1 13 := ⟨by decide +kernel, rfl⟩
theorem eX0_addChild_13 : Dn mX0_addChild 13 (.iload_n 3) 1 14 := ⟨by decide +kernel, rfl⟩
theorem eX0_addChild_14 : Dn mX0_addChild 14 (.iconst 1) 1 15 := ⟨by decide +kernel, rfl⟩
theorem eX0_addChild_15 : Dn mX0_addChild 15 (.iload_n 2) 1 16 := ⟨by decide +kernel, rfl⟩
theorem eX0_addChild_16 : Dn mX0_addChild 16 (.invokevirtual 55) 3 19 := ⟨by decide +kernel, rfl⟩
theorem eX0_addChild_19 : Dn mX0_addChild 19 (.aload_n 0) 1 20 := ⟨by decide +kernel, rfl⟩
theorem eX0_addChild_20 : Dn mX0_addChild 20 (.iload_n 3) 1 21 := ⟨by decide +kernel, rfl⟩
theorem eX0_addChild_21 : Dn mX0_addChild 21 (.iconst 2) 1 22 := ⟨by decide +kernel, rfl⟩
theorem eX0_addChild_22 : Dn mX0_addChild 22 (.iconst (-1)) 1 23 := ⟨by decide +kernel, rfl⟩
theorem eX0_addChild_23 : Dn mX0_addChild 23 (.invokevirtual 55) 3 26 := ⟨by decide +kernel, rfl⟩
theorem eX0_addChild_26 : Dn mX0_addChild 26 (.aload_n 0) 1 27 := ⟨by decide +kernel, rfl⟩
theorem eX0_addChild_27 : Dn mX0_addChild 27 (.iload_n 3) 1 28 := ⟨by decide +kernel, rfl⟩
theorem eX0_addChild_28 : Dn mX0_addChild 28 (.iconst 3) 1 29 := ⟨by decide +kernel, rfl⟩
theorem eX0_addChild_29 : Dn mX0_addChild 29 (.iconst 0) 1 30 := ⟨by decide +kernel, rfl⟩
theorem eX0_addChild_30 : Dn mX0_addChild 30 (.invokevirtual 55) 3 33 := ⟨by decide +kernel, rfl⟩
theorem eX0_addChild_33 : Dn mX0_addChild 33 (.aload_n 0) 1 34 := ⟨by decide +kernel, rfl⟩
theorem eX0_addChild_34 : Dn mX0_addChild 34 (.iload_n 3) 1 35 := ⟨by decide +kernel, rfl⟩
theorem eX0_addChild_35 : Dn mX0_addChild 35 (.iconst 4) 1 36 := ⟨by decide +kernel, rfl⟩
theorem eX0_addChild_36 : Dn mX0_addChild 36 (.iconst 5) 1 37 := ⟨by decide +kernel, rfl⟩
theorem eX0_addChild_37 : Dn mX0_addChild 37 (.invokevirtual 55) 3 40 := ⟨by decide +kernel, rfl⟩
theorem eX0_addChild_40 : Dn mX0_addChild 40 (.aload_n 0) 1 41 := ⟨by decide +kernel, rfl⟩
theorem eX0_addChild_41 : Dn mX0_addChild 41 (.iload_n 3) 1 42 := ⟨by decide +kernel, rfl⟩
theorem eX0_addChild_42 : Dn mX0_addChild 42 (.iconst 5) 1 43 := ⟨by decide +kernel, rfl⟩
theorem eX0_addChild_43 : Dn mX0_addChild 43 (.iconst 0) 1 44 := ⟨by decide +kernel, rfl⟩
theorem eX0_addChild_44 : Dn mX0_addChild 44 (.invokevirtual 55) 3 47 := ⟨by decide +kernel, rfl⟩
theorem eX0_addChild_47 : Dn mX0_addChild 47 (.iconst 0) 1 48 := ⟨by decide +kernel, rfl⟩
theorem eX0_addChild_48 : Dn mX0_addChild 48 (.istore 4) 2 50 := ⟨by decide +kernel, rfl⟩
theorem eX0_addChild_50 : Dn mX0_addChild 50 (.iload 4) 2 52 := ⟨by decide +kernel, rfl⟩
theorem eX0_addChild_52 : Dn mX0_addChild 52 (.bipush 8) 2 54 := ⟨by decide +kernel, rfl⟩
theorem eX0_addChild_54 : Dj mX0_addChild 54 (.if_icmp .ge 22) (22) 57 76 := ⟨by decide +kernel, rfl, rfl⟩
theorem eX0_addChild_57 : Dn mX0_addChild 57 (.aload_n 0) 1 58 := ⟨by decide +kernel, rfl⟩
theorem eX0_addChild_58 : Dn mX0_addChild 58 (.getfield 18) 3 61 := ⟨by decide +kernel, rfl⟩
theorem eX0_addChild_61 : Dn mX0_addChild 61 (.iload_n 3) 1 62 := ⟨by decide +kernel, rfl⟩
theorem eX0_addChild_62 : Dn mX0_addChild 62 (.bipush 8) 2 64 := ⟨by decide +kernel, rfl⟩
theorem eX0_addChild_64 : Dn mX0_addChild 64 (.imul) 1 65 := ⟨by decide +kernel, rfl⟩
theorem eX0_addChild_65 : Dn mX0_addChild 65 (.iload 4) 2 67 := ⟨by decide +kernel, rfl⟩
theorem eX0_addChild_67 : Dn mX0_addChild 67 (.iadd) 1 68 := ⟨by decide +kernel, rfl⟩
theorem eX0_addChild_68 : Dn mX0_addChild 68 (.iconst (-1)) 1 69 := ⟨by decide +kernel, rfl⟩
theorem eX0_addChild_69 : Dn mX0_addChild 69 (.iastore) 1 70 := ⟨by decide +kernel, rfl⟩
theorem eX0_addChild_70 : Dn mX0_addChild 70 (.iinc 4 1) 3 73 := ⟨by decide +kernel, rfl⟩
theorem eX0_addChild_73 : Dj mX0_addChild 73 (.goto (-23)) (-23) 76 50 := ⟨by decide +kernel, rfl, rfl⟩
theorem eX0_addChild_76 : Dn mX0_addChild 76 (.aload_n 0) 1 77 := ⟨by decide +kernel, rfl⟩
theorem eX0_addChild_77 : Dn mX0_addChild 77 (.dup) 1 78 := ⟨by decide +kernel, rfl⟩
theorem eX0_addChild_78 : Dn mX0_addChild 78 (.getfield 34) 3 81 := ⟨by decide +kernel, rfl⟩
theorem eX0_addChild_81 : Dn mX0_addChild 81 (.iconst 1) 1 82 := ⟨by decide +kernel, rfl⟩
theorem eX0_addChild_82 : Dn mX0_addChild 82 (.iadd) 1 83 := ⟨by decide +kernel, rfl⟩
theorem eX0_addChild_83 : Dn mX0_addChild 83 (.putfield 34) 3 86 := ⟨by decide +kernel, rfl⟩
theorem eX0_addChild_86 : Dn mX0_addChild 86 (.iload_n 3) 1 87 := ⟨by decide +kernel, rfl⟩
theorem eX0_addChild_87 : Dn mX0_addChild 87 (.ireturn) 1 88 := ⟨by decide +kernel, rfl⟩
theorem eX0_total_0 : Dn mX0_total 0 (.iconst 0) 1 1 := ⟨by decide +kernel, rfl⟩
theorem eX0_total_1 : Dn mX0_total 1 (.istore_n 2) 1 2 := ⟨by decide +kernel, rfl⟩
theorem eX0_total_2 : Dn mX0_total 2 (.iconst 0) 1 3 := ⟨by decide +kernel, rfl⟩
theorem eX0_total_3 : Dn mX0_total 3 (.istore_n 3) 1 4 := ⟨by decide +kernel, rfl⟩
theorem eX0_total_4 : Dn mX0_total 4 (.iload_n 3) 1 5 := ⟨by decide +kernel, rfl⟩
theorem eX0_total_5 : Dn mX0_total 5 (.aload_n 0) 1 6 := ⟨by decide +kernel, rfl⟩
theorem eX0_total_6 : Dn mX0_total 6 (.getfield 34) 3 9 := ⟨by decide +kernel, rfl⟩
theorem eX0_total_9 : Dj mX0_total 9 (.if_icmp .ge 18) (18) 12 27 := ⟨by decide +kernel, rfl, rfl⟩
theorem eX0_total_12 : Dn mX0_total 12 (.iload_n 2) 1 13 := ⟨by decide +kernel, rfl⟩
theorem eX0_total_13 : Dn mX0_total 13 (.aload_n 0) 1 14 := ⟨by decide +kernel, rfl⟩
theorem eX0_total_14 : Dn mX0_total 14 (.iload_n 3) 1 15 := ⟨by decide +kernel, rfl⟩
theorem eX0_total_15 : Dn mX0_total 15 (.iload_n 1) 1 16 := ⟨by decide +kernel, rfl⟩
theorem eX0_total_16 : Dn mX0_total 16 (.invokevirtual 59) 3 19 := ⟨by decide +kernel, rfl⟩
theorem eX0_total_19 : Dn mX0_total 19 (.iadd) 1 20 := ⟨by decide +kernel, rfl⟩
theorem eX0_total_20 : Dn mX0_total 20 (.istore_n 2) 1 21 := ⟨by decide +kernel, rfl⟩
theorem eX0_total_21 : Dn mX0_total 21 (.iinc 3 1) 3 24 := ⟨by decide +kernel, rfl⟩
theorem eX0_total_24 : Dj mX0_total 24 (.goto (-20)) (-20) 27 4 := ⟨by decide +kernel, rfl, rfl⟩
theorem eX0_total_27 : Dn mX0_total 27 (.iload_n 2) 1 28 := ⟨by decide +kernel, rfl⟩
theorem eX0_total_28 : Dn mX0_total 28 (.ireturn) 1 29 := ⟨by decide +kernel, rfl⟩
theorem eX0_price_0 : Dn mX0_price 0 (.getstatic 63) 3 3 := ⟨by decide +kernel, rfl⟩
theorem eX0_price_3 : Dn mX0_price 3 (.aload_n 0) 1 4 := ⟨by decide +kernel, rfl⟩
theorem eX0_price_4 : Dn mX0_price 4 (.iload_n 1) 1 5 := ⟨by decide +kernel, rfl⟩
theorem eX0_price_5 : Dn mX0_price 5 (.iconst 0) 1 6 := ⟨by decide +kernel, rfl⟩
theorem eX0_price_6 : Dn mX0_price 6 (.invokevirtual 59) 3 9 := ⟨by decide +kernel, rfl⟩
theorem eX0_price_9 : Dn mX0_price 9 (.iaload) 1 10 := ⟨by decide +kernel, rfl⟩
theorem eX0_price_10 : Dn mX0_price 10 (.ireturn) 1 11 := ⟨by decide +kernel, rfl⟩
theorem eX0_isLending_0 : Dn mX0_isLending 0 (.aload_n 0) 1 1 := ⟨by decide +kernel, rfl⟩
theorem eX0_isLending_1 : Dn mX0_isLending 1 (.iload_n 1) 1 2 := ⟨by decide +kernel, rfl⟩
theorem eX0_isLending_2 : Dn mX0_isLending 2 (.iconst 0) 1 3 := ⟨by decide +kernel, rfl⟩
theorem eX0_isLending_3 : Dn mX0_isLending 3 (.invokevirtual 59) 3 6 := ⟨by decide +kernel, rfl⟩
theorem eX0_isLending_6 : Dn mX0_isLending 6 (.tableswitch 60 4 6 #[28, 26, 43]) 26 32 := ⟨by decide +kernel, rfl⟩
theorem eX0_isLending_32 : Dn mX0_isLending 32 (.iconst 0) 1 33 := ⟨by decide +kernel, rfl⟩
theorem eX0_isLending_33 : Dn mX0_isLending 33 (.ireturn) 1 34 := ⟨by decide +kernel, rfl⟩
theorem eX0_isLending_34 : Dn mX0_isLending 34 (.aload_n 0) 1 35 := ⟨by decide +kernel, rfl⟩
theorem eX0_isLending_35 : Dn mX0_isLending 35 (.getfield 37) 3 38 := ⟨by decide +kernel, rfl⟩
theorem eX0_isLending_38 : Dn mX0_isLending 38 (.iconst 2) 1 39 := ⟨by decide +kernel, rfl⟩
theorem eX0_isLending_39 : Dn mX0_isLending 39 (.irem) 1 40 := ⟨by decide +kernel, rfl⟩
theorem eX0_isLending_40 : Dj mX0_isLending 40 (.ifCond .ne 7) (7) 43 47 := ⟨by decide +kernel, rfl, rfl⟩
theorem eX0_isLending_43 : Dn mX0_isLending 43 (.iconst 1) 1 44 := ⟨by decide +kernel, rfl⟩
theorem eX0_isLending_44 : Dj mX0_isLending 44 (.goto 4) (4) 47 48 := ⟨by decide +kernel, rfl, rfl⟩
theorem eX0_isLending_47 : Dn mX0_isLending 47 (.iconst 0) 1 48 := ⟨by decide +kernel, rfl⟩
theorem eX0_isLending_48 : Dn mX0_isLending 48 (.ireturn) 1 49 := ⟨by decide +kernel, rfl⟩
theorem eX0_isLending_49 : Dn mX0_isLending 49 (.aload_n 0) 1 50 := ⟨by decide +kernel, rfl⟩
theorem eX0_isLending_50 : Dn mX0_isLending 50 (.iload_n 1) 1 51 := ⟨by decide +kernel, rfl⟩
theorem eX0_isLending_51 : Dn mX0_isLending 51 (.iconst 4) 1 52 := ⟨by decide +kernel, rfl⟩
theorem eX0_isLending_52 : Dn mX0_isLending 52 (.invokevirtual 59) 3 55 := ⟨by decide +kernel, rfl⟩
theorem eX0_isLending_55 : Dn mX0_isLending 55 (.bipush 20) 2 57 := ⟨by decide +kernel, rfl⟩
theorem eX0_isLending_57 : Dj mX0_isLending 57 (.if_icmp .ge 7) (7) 60 64 := ⟨by decide +kernel, rfl, rfl⟩
theorem eX0_isLending_60 : Dn mX0_isLending 60 (.iconst 1) 1 61 := ⟨by decide +kernel, rfl⟩
theorem eX0_isLending_61 : Dj mX0_isLending 61 (.goto 4) (4) 64 65 := ⟨by decide +kernel, rfl, rfl⟩
theorem eX0_isLending_64 : Dn mX0_isLending 64 (.iconst 0) 1 65 := ⟨by decide +kernel, rfl⟩
theorem eX0_isLending_65 : Dn mX0_isLending 65 (.ireturn) 1 66 := ⟨by decide +kernel, rfl⟩
theorem eX0_isLending_66 : Dn mX0_isLending 66 (.iconst 1) 1 67 := ⟨by decide +kernel, rfl⟩
theorem eX0_isLending_67 : Dn mX0_isLending 67 (.ireturn) 1 68 := ⟨by decide +kernel, rfl⟩
theorem eX0_slipOf_0 : Dn mX0_slipOf 0 (.iload_n 3) 1 1 := ⟨by decide +kernel, rfl⟩
theorem eX0_slipOf_1 : Dn mX0_slipOf 1 (.iconst (-1)) 1 2 := ⟨by decide +kernel, rfl⟩
theorem eX0_slipOf_2 : Dj mX0_slipOf 2 (.if_icmp .ne 5) (5) 5 7 := ⟨by decide +kernel, rfl, rfl⟩
theorem eX0_slipOf_5 : Dn mX0_slipOf 5 (.iconst (-1)) 1 6 := ⟨by decide +kernel, rfl⟩
theorem eX0_slipOf_6 : Dn mX0_slipOf 6 (.ireturn) 1 7 := ⟨by decide +kernel, rfl⟩
theorem eX0_slipOf_7 : Dn mX0_slipOf 7 (.aload_n 0) 1 8 := ⟨by decide +kernel, rfl⟩
theorem eX0_slipOf_8 : Dn mX0_slipOf 8 (.iload_n 1) 1 9 := ⟨by decide +kernel, rfl⟩
theorem eX0_slipOf_9 : Dn mX0_slipOf 9 (.iconst 0) 1 10 := ⟨by decide +kernel, rfl⟩
theorem eX0_slipOf_10 : Dn mX0_slipOf 10 (.invokevirtual 59) 3 13 := ⟨by decide +kernel, rfl⟩
theorem eX0_slipOf_13 : Dn mX0_slipOf 13 (.tableswitch 94 0 6 #[43, 45, 57, 63, 72, 94, 45]) 43 56 := ⟨by decide +kernel, rfl⟩
theorem eX0_slipOf_56 : Dn mX0_slipOf 56 (.iload_n 3) 1 57 := ⟨by decide +kernel, rfl⟩
theorem eX0_slipOf_57 : Dn mX0_slipOf 57 (.ireturn) 1 58 := ⟨by decide +kernel, rfl⟩
theorem eX0_slipOf_58 : Dn mX0_slipOf 58 (.iload_n 2) 1 59 := ⟨by decide +kernel, rfl⟩
theorem eX0_slipOf_59 : Dn mX0_slipOf 59 (.iconst 4) 1 60 := ⟨by decide +kernel, rfl⟩
theorem eX0_slipOf_60 : Dn mX0_slipOf 60 (.irem) 1 61 := ⟨by decide +kernel, rfl⟩
theorem eX0_slipOf_61 : Dj mX0_slipOf 61 (.ifCond .ne 7) (7) 64 68 := ⟨by decide +kernel, rfl, rfl⟩
theorem eX0_slipOf_64 : Dn mX0_slipOf 64 (.iconst (-1)) 1 65 := ⟨by decide +kernel, rfl⟩
theorem eX0_slipOf_65 : Dj mX0_slipOf 65 (.goto 4) (4) 68 69 := ⟨by decide +kernel, rfl, rfl⟩
theorem eX0_slipOf_68 : Dn mX0_slipOf 68 (.iload_n 3) 1 69 := ⟨by decide +kernel, rfl⟩
theorem eX0_slipOf_69 : Dn mX0_slipOf 69 (.ireturn) 1 70 := ⟨by decide +kernel, rfl⟩
theorem eX0_slipOf_70 : Dn mX0_slipOf 70 (.iload_n 2) 1 71 := ⟨by decide +kernel, rfl⟩
theorem eX0_slipOf_71 : Dn mX0_slipOf 71 (.iload_n 3) 1 72 := ⟨by decide +kernel, rfl⟩
theorem eX0_slipOf_72 : Dn mX0_slipOf 72 (.invokestatic 66) 3 75 := ⟨by decide +kernel, rfl⟩
theorem eX0_slipOf_75 : Dn mX0_slipOf 75 (.ireturn) 1 76 := ⟨by decide +kernel, rfl⟩
theorem eX0_slipOf_76 : Dn mX0_slipOf 76 (.iload_n 2) 1 77 := ⟨by decide +kernel, rfl⟩
theorem eX0_slipOf_77 : Dn mX0_slipOf 77 (.iload_n 3) 1 78 := ⟨by decide +kernel, rfl⟩
theorem eX0_slipOf_78 : Dn mX0_slipOf 78 (.invokestatic 66) 3 81 := ⟨by decide +kernel, rfl⟩
theorem eX0_slipOf_81 : Dn mX0_slipOf 81 (.invokestatic 69) 3 84 := ⟨by decide +kernel, rfl⟩
theorem eX0_slipOf_84 : Dn mX0_slipOf 84 (.ireturn) 1 85 := ⟨by decide +kernel, rfl⟩
theorem eX0_slipOf_85 : Dn mX0_slipOf 85 (.aload_n 0) 1 86 := ⟨by decide +kernel, rfl⟩
theorem eX0_slipOf_86 : Dn mX0_slipOf 86 (.getfield 37) 3 89 := ⟨by decide +kernel, rfl⟩
theorem eX0_slipOf_89 : Dn mX0_slipOf 89 (.iconst 2) 1 90 := ⟨by decide +kernel, rfl⟩
theorem eX0_slipOf_90 : Dn mX0_slipOf 90 (.irem) 1 91 := ⟨by decide +kernel, rfl⟩
theorem eX0_slipOf_91 : Dj mX0_slipOf 91 (.ifCond .ne 14) (14) 94 105 := ⟨by decide +kernel, rfl, rfl⟩
theorem eX0_slipOf_94 : Dn mX0_slipOf 94 (.iload_n 2) 1 95 := ⟨by decide +kernel, rfl⟩
theorem eX0_slipOf_95 : Dn mX0_slipOf 95 (.iload_n 3) 1 96 := ⟨by decide +kernel, rfl⟩
theorem eX0_slipOf_96 : Dn mX0_slipOf 96 (.invokestatic 66) 3 99 := ⟨by decide +kernel, rfl⟩
theorem eX0_slipOf_99 : Dn mX0_slipOf 99 (.invokestatic 69) 3 102 := ⟨by decide +kernel, rfl⟩
theorem eX0_slipOf_102 : Dj mX0_slipOf 102 (.goto 4) (4) 105 106 := ⟨by decide +kernel, rfl, rfl⟩
theorem eX0_slipOf_105 : Dn mX0_slipOf 105 (.iconst (-1)) 1 106 := ⟨by decide +kernel, rfl⟩
theorem eX0_slipOf_106 : Dn mX0_slipOf 106 (.ireturn) 1 107 := ⟨by decide +kernel, rfl⟩
theorem eX0_slipOf_107 : Dn mX0_slipOf 107 (.iconst (-1)) 1 108 := ⟨by decide +kernel, rfl⟩
theorem eX0_slipOf_108 : Dn mX0_slipOf 108 (.ireturn) 1 109 := ⟨by decide +kernel, rfl⟩
theorem eX0_exchanged_0 : Dn mX0_exchanged 0 (.iload_n 0) 1 1 := ⟨by decide +kernel, rfl⟩
theorem eX0_exchanged_1 : Dn mX0_exchanged 1 (.iconst 2) 1 2 := ⟨by decide +kernel, rfl⟩
theorem eX0_exchanged_2 : Dn mX0_exchanged 2 (.irem) 1 3 := ⟨by decide +kernel, rfl⟩
theorem eX0_exchanged_3 : Dj mX0_exchanged 3 (.ifCond .ne 7) (7) 6 10 := ⟨by decide +kernel, rfl, rfl⟩
theorem eX0_exchanged_6 : Dn mX0_exchanged 6 (.iload_n 1) 1 7 := ⟨by decide +kernel, rfl⟩
theorem eX0_exchanged_7 : Dj mX0_exchanged 7 (.goto 15) (15) 10 22 := ⟨by decide +kernel, rfl, rfl⟩
theorem eX0_exchanged_10 : Dn mX0_exchanged 10 (.iload_n 1) 1 11 := ⟨by decide +kernel, rfl⟩
theorem eX0_exchanged_11 : Dn mX0_exchanged 11 (.bipush 10) 2 13 := ⟨by decide +kernel, rfl⟩
theorem eX0_exchanged_13 : Dn mX0_exchanged 13 (.irem) 1 14 := ⟨by decide +kernel, rfl⟩
theorem eX0_exchanged_14 : Dn mX0_exchanged 14 (.bipush 10) 2 16 := ⟨by decide +kernel, rfl⟩
theorem eX0_exchanged_16 : Dn mX0_exchanged 16 (.imul) 1 17 := ⟨by decide +kernel, rfl⟩
theorem eX0_exchanged_17 : Dn mX0_exchanged 17 (.iload_n 1) 1 18 := ⟨by decide +kernel, rfl⟩
theorem eX0_exchanged_18 : Dn mX0_exchanged 18 (.bipush 10) 2 20 := ⟨by decide +kernel, rfl⟩
theorem eX0_exchanged_20 : Dn mX0_exchanged 20 (.idiv) 1 21 := ⟨by decide +kernel, rfl⟩
theorem eX0_exchanged_21 : Dn mX0_exchanged 21 (.iadd) 1 22 := ⟨by decide +kernel, rfl⟩
theorem eX0_exchanged_22 : Dn mX0_exchanged 22 (.ireturn) 1 23 := ⟨by decide +kernel, rfl⟩
theorem eX0_onesForSevens_0 : Dn mX0_onesForSevens 0 (.iload_n 0) 1 1 := ⟨by decide +kernel, rfl⟩
theorem eX0_onesForSevens_1 : Dn mX0_onesForSevens 1 (.bipush 10) 2 3 := ⟨by decide +kernel, rfl⟩
theorem eX0_onesForSevens_3 : Dn mX0_onesForSevens 3 (.idiv) 1 4 := ⟨by decide +kernel, rfl⟩
theorem eX0_onesForSevens_4 : Dn mX0_onesForSevens 4 (.bipush 7) 2 6 := ⟨by decide +kernel, rfl⟩
theorem eX0_onesForSevens_6 : Dj mX0_onesForSevens 6 (.if_icmp .ne 7) (7) 9 13 := ⟨by decide +kernel, rfl, rfl⟩
theorem eX0_onesForSevens_9 : Dn mX0_onesForSevens 9 (.iconst 1) 1 10 := ⟨by decide +kernel, rfl⟩
theorem eX0_onesForSevens_10 : Dj mX0_onesForSevens 10 (.goto 7) (7) 13 17 := ⟨by decide +kernel, rfl, rfl⟩
theorem eX0_onesForSevens_13 : Dn mX0_onesForSevens 13 (.iload_n 0) 1 14 := ⟨by decide +kernel, rfl⟩
theorem eX0_onesForSevens_14 : Dn mX0_onesForSevens 14 (.bipush 10) 2 16 := ⟨by decide +kernel, rfl⟩
theorem eX0_onesForSevens_16 : Dn mX0_onesForSevens 16 (.idiv) 1 17 := ⟨by decide +kernel, rfl⟩
theorem eX0_onesForSevens_17 : Dn mX0_onesForSevens 17 (.istore_n 1) 1 18 := ⟨by decide +kernel, rfl⟩
theorem eX0_onesForSevens_18 : Dn mX0_onesForSevens 18 (.iload_n 0) 1 19 := ⟨by decide +kernel, rfl⟩
theorem eX0_onesForSevens_19 : Dn mX0_onesForSevens 19 (.bipush 10) 2 21 := ⟨by decide +kernel, rfl⟩
theorem eX0_onesForSevens_21 : Dn mX0_onesForSevens 21 (.irem) 1 22 := ⟨by decide +kernel, rfl⟩
theorem eX0_onesForSevens_22 : Dn mX0_onesForSevens 22 (.bipush 7) 2 24 := ⟨by decide +kernel, rfl⟩
theorem eX0_onesForSevens_24 : Dj mX0_onesForSevens 24 (.if_icmp .ne 7) (7) 27 31 := ⟨by decide +kernel, rfl, rfl⟩
theorem eX0_onesForSevens_27 : Dn mX0_onesForSevens 27 (.iconst 1) 1 28 := ⟨by decide +kernel, rfl⟩
theorem eX0_onesForSevens_28 : Dj mX0_onesForSevens 28 (.goto 7) (7) 31 35 := ⟨by decide +kernel, rfl, rfl⟩
theorem eX0_onesForSevens_31 : Dn mX0_onesForSevens 31 (.iload_n 0) 1 32 := ⟨by decide +kernel, rfl⟩
theorem eX0_onesForSevens_32 : Dn mX0_onesForSevens 32 (.bipush 10) 2 34 := ⟨by decide +kernel, rfl⟩
theorem eX0_onesForSevens_34 : Dn mX0_onesForSevens 34 (.irem) 1 35 := ⟨by decide +kernel, rfl⟩
theorem eX0_onesForSevens_35 : Dn mX0_onesForSevens 35 (.istore_n 2) 1 36 := ⟨by decide +kernel, rfl⟩
theorem eX0_onesForSevens_36 : Dn mX0_onesForSevens 36 (.iload_n 1) 1 37 := ⟨by decide +kernel, rfl⟩
theorem eX0_onesForSevens_37 : Dn mX0_onesForSevens 37 (.bipush 10) 2 39 := ⟨by decide +kernel, rfl⟩
theorem eX0_onesForSevens_39 : Dn mX0_onesForSevens 39 (.imul) 1 40 := ⟨by decide +kernel, rfl⟩
theorem eX0_onesForSevens_40 : Dn mX0_onesForSevens 40 (.iload_n 2) 1 41 := ⟨by decide +kernel, rfl⟩
theorem eX0_onesForSevens_41 : Dn mX0_onesForSevens 41 (.iadd) 1 42 := ⟨by decide +kernel, rfl⟩
theorem eX0_onesForSevens_42 : Dn mX0_onesForSevens 42 (.ireturn) 1 43 := ⟨by decide +kernel, rfl⟩
theorem eX0_passDays_0 : Dn mX0_passDays 0 (.iconst 0) 1 1 := ⟨by decide +kernel, rfl⟩
theorem eX0_passDays_1 : Dn mX0_passDays 1 (.istore_n 2) 1 2 := ⟨by decide +kernel, rfl⟩
theorem eX0_passDays_2 : Dn mX0_passDays 2 (.iload_n 2) 1 3 := ⟨by decide +kernel, rfl⟩
theorem eX0_passDays_3 : Dn mX0_passDays 3 (.iload_n 1) 1 4 := ⟨by decide +kernel, rfl⟩
theorem eX0_passDays_4 : Dj mX0_passDays 4 (.if_icmp .ge 38) (38) 7 42 := ⟨by decide +kernel, rfl, rfl⟩
theorem eX0_passDays_7 : Dn mX0_passDays 7 (.iconst 0) 1 8 := ⟨by decide +kernel, rfl⟩
theorem eX0_passDays_8 : Dn mX0_passDays 8 (.istore_n 3) 1 9 := ⟨by decide +kernel, rfl⟩
theorem eX0_passDays_9 : Dn mX0_passDays 9 (.iload_n 3) 1 10 := ⟨by decide +kernel, rfl⟩
theorem eX0_passDays_10 : Dn mX0_passDays 10 (.aload_n 0) 1 11 := ⟨by decide +kernel, rfl⟩
theorem eX0_passDays_11 : Dn mX0_passDays 11 (.getfield 34) 3 14 := ⟨by decide +kernel, rfl⟩
theorem eX0_passDays_14 : Dj mX0_passDays 14 (.if_icmp .ge 14) (14) 17 28 := ⟨by decide +kernel, rfl, rfl⟩
theorem eX0_passDays_17 : Dn mX0_passDays 17 (.aload_n 0) 1 18 := ⟨by decide +kernel, rfl⟩
theorem eX0_passDays_18 : Dn mX0_passDays 18 (.iload_n 3) 1 19 := ⟨by decide +kernel, rfl⟩
theorem eX0_passDays_19 : Dn mX0_passDays 19 (.invokevirtual 73) 3 22 := ⟨by decide +kernel, rfl⟩
theorem eX0_passDays_22 : Dn mX0_passDays 22 (.iinc 3 1) 3 25 := ⟨by decide +kernel, rfl⟩
theorem eX0_passDays_25 : Dj mX0_passDays 25 (.goto (-16)) (-16) 28 9 := ⟨by decide +kernel, rfl, rfl⟩
theorem eX0_passDays_28 : Dn mX0_passDays 28 (.aload_n 0) 1 29 := ⟨by decide +kernel, rfl⟩
theorem eX0_passDays_29 : Dn mX0_passDays 29 (.invokevirtual 77) 3 32 := ⟨by decide +kernel, rfl⟩
theorem eX0_passDays_32 : Dn mX0_passDays 32 (.aload_n 0) 1 33 := ⟨by decide +kernel, rfl⟩
theorem eX0_passDays_33 : Dn mX0_passDays 33 (.invokevirtual 80) 3 36 := ⟨by decide +kernel, rfl⟩
theorem eX0_passDays_36 : Dn mX0_passDays 36 (.iinc 2 1) 3 39 := ⟨by decide +kernel, rfl⟩
theorem eX0_passDays_39 : Dj mX0_passDays 39 (.goto (-37)) (-37) 42 2 := ⟨by decide +kernel, rfl, rfl⟩
theorem eX0_passDays_42 : Dn mX0_passDays 42 (.return_) 1 43 := ⟨by decide +kernel, rfl⟩
theorem eX0_writeAnswers_0 : Dn mX0_writeAnswers 0 (.aload_n 0) 1 1 := ⟨by decide +kernel, rfl⟩
theorem eX0_writeAnswers_1 : Dn mX0_writeAnswers 1 (.iload_n 1) 1 2 := ⟨by decide +kernel, rfl⟩
theorem eX0_writeAnswers_2 : Dn mX0_writeAnswers 2 (.invokevirtual 83) 3 5 := ⟨by decide +kernel, rfl⟩
theorem eX0_writeAnswers_5 : Dn mX0_writeAnswers 5 (.istore_n 2) 1 6 := ⟨by decide +kernel, rfl⟩
theorem eX0_writeAnswers_6 : Dn mX0_writeAnswers 6 (.aload_n 0) 1 7 := ⟨by decide +kernel, rfl⟩
theorem eX0_writeAnswers_7 : Dn mX0_writeAnswers 7 (.iload_n 1) 1 8 := ⟨by decide +kernel, rfl⟩
theorem eX0_writeAnswers_8 : Dn mX0_writeAnswers 8 (.iconst 1) 1 9 := ⟨by decide +kernel, rfl⟩
theorem eX0_writeAnswers_9 : Dn mX0_writeAnswers 9 (.invokevirtual 59) 3 12 := ⟨by decide +kernel, rfl⟩
theorem eX0_writeAnswers_12 : Dn mX0_writeAnswers 12 (.istore_n 3) 1 13 := ⟨by decide +kernel, rfl⟩
theorem eX0_writeAnswers_13 : Dn mX0_writeAnswers 13 (.iconst 0) 1 14 := ⟨by decide +kernel, rfl⟩
theorem eX0_writeAnswers_14 : Dn mX0_writeAnswers 14 (.istore 4) 2 16 := ⟨by decide +kernel, rfl⟩
theorem eX0_writeAnswers_16 : Dn mX0_writeAnswers 16 (.iconst 0) 1 17 := ⟨by decide +kernel, rfl⟩
theorem eX0_writeAnswers_17 : Dn mX0_writeAnswers 17 (.istore 5) 2 19 := ⟨by decide +kernel, rfl⟩
theorem eX0_writeAnswers_19 : Dn mX0_writeAnswers 19 (.iconst 0) 1 20 := ⟨by decide +kernel, rfl⟩
theorem eX0_writeAnswers_20 : Dn mX0_writeAnswers 20 (.istore 6) 2 22 := ⟨by decide +kernel, rfl⟩
theorem eX0_writeAnswers_22 : Dn mX0_writeAnswers 22 (.iload 6) 2 24 := ⟨by decide +kernel, rfl⟩
theorem eX0_writeAnswers_24 : Dn mX0_writeAnswers 24 (.bipush 8) 2 26 := ⟨by decide +kernel, rfl⟩
theorem eX0_writeAnswers_26 : Dj mX0_writeAnswers 26 (.if_icmp .ge 102) (102) 29 128 := ⟨by decide +kernel, rfl, rfl⟩
theorem eX0_writeAnswers_29 : Dn mX0_writeAnswers 29 (.iconst (-1)) 1 30 := ⟨by decide +kernel, rfl⟩
theorem eX0_writeAnswers_30 : Dn mX0_writeAnswers 30 (.istore 7) 2 32 := ⟨by decide +kernel, rfl⟩
theorem eX0_writeAnswers_32 : Dn mX0_writeAnswers 32 (.iload_n 3) 1 33 := ⟨by decide +kernel, rfl⟩
theorem eX0_writeAnswers_33 : Dn mX0_writeAnswers 33 (.iload 6) 2 35 := ⟨by decide +kernel, rfl⟩
theorem eX0_writeAnswers_35 : Dn mX0_writeAnswers 35 (.ishr) 1 36 := ⟨by decide +kernel, rfl⟩
theorem eX0_writeAnswers_36 : Dn mX0_writeAnswers 36 (.iconst 1) 1 37 := ⟨by decide +kernel, rfl⟩
theorem eX0_writeAnswers_37 : Dn mX0_writeAnswers 37 (.iand) 1 38 := ⟨by decide +kernel, rfl⟩
theorem eX0_writeAnswers_38 : Dn mX0_writeAnswers 38 (.iconst 1) 1 39 := ⟨by decide +kernel, rfl⟩
theorem eX0_writeAnswers_39 : Dj mX0_writeAnswers 39 (.if_icmp .ne 15) (15) 42 54 := ⟨by decide +kernel, rfl, rfl⟩
theorem eX0_writeAnswers_42 : Dn mX0_writeAnswers 42 (.aload_n 0) 1 43 := ⟨by decide +kernel, rfl⟩
theorem eX0_writeAnswers_43 : Dn mX0_writeAnswers 43 (.getfield 9) 3 46 := ⟨by decide +kernel, rfl⟩
theorem eX0_writeAnswers_46 : Dn mX0_writeAnswers 46 (.iload 6) 2 48 := ⟨by decide +kernel, rfl⟩
theorem eX0_writeAnswers_48 : Dn mX0_writeAnswers 48 (.iaload) 1 49 := ⟨by decide +kernel, rfl⟩
theorem eX0_writeAnswers_49 : Dn mX0_writeAnswers 49 (.istore 7) 2 51 := ⟨by decide +kernel, rfl⟩
theorem eX0_writeAnswers_51 : Dj mX0_writeAnswers 51 (.goto 24) (24) 54 75 := ⟨by decide +kernel, rfl, rfl⟩
theorem eX0_writeAnswers_54 : Dn mX0_writeAnswers 54 (.iload_n 2) 1 55 := ⟨by decide +kernel, rfl⟩
theorem eX0_writeAnswers_55 : Dn mX0_writeAnswers 55 (.iconst (-1)) 1 56 := ⟨by decide +kernel, rfl⟩
theorem eX0_writeAnswers_56 : Dj mX0_writeAnswers 56 (.if_icmp .eq 19) (19) 59 75 := ⟨by decide +kernel, rfl, rfl⟩
theorem eX0_writeAnswers_59 : Dn mX0_writeAnswers 59 (.aload_n 0) 1 60 := ⟨by decide +kernel, rfl⟩
theorem eX0_writeAnswers_60 : Dn mX0_writeAnswers 60 (.iload_n 1) 1 61 := ⟨by decide +kernel, rfl⟩
theorem eX0_writeAnswers_61 : Dn mX0_writeAnswers 61 (.iload 6) 2 63 := ⟨by decide +kernel, rfl⟩
theorem eX0_writeAnswers_63 : Dn mX0_writeAnswers 63 (.aload_n 0) 1 64 := ⟨by decide +kernel, rfl⟩
theorem eX0_writeAnswers_64 : Dn mX0_writeAnswers 64 (.iload_n 2) 1 65 := ⟨by decide +kernel, rfl⟩
theorem eX0_writeAnswers_65 : Dn mX0_writeAnswers 65 (.iload 6) 2 67 := ⟨by decide +kernel, rfl⟩
theorem eX0_writeAnswers_67 : Dn mX0_writeAnswers 67 (.invokevirtual 86) 3 70 := ⟨by decide +kernel, rfl⟩
theorem eX0_writeAnswers_70 : Dn mX0_writeAnswers 70 (.invokevirtual 89) 3 73 := ⟨by decide +kernel, rfl⟩
theorem eX0_writeAnswers_73 : Dn mX0_writeAnswers 73 (.istore 7) 2 75 := ⟨by decide +kernel, rfl⟩
theorem eX0_writeAnswers_75 : Dn mX0_writeAnswers 75 (.aload_n 0) 1 76 := ⟨by decide +kernel, rfl⟩
theorem eX0_writeAnswers_76 : Dn mX0_writeAnswers 76 (.getfield 18) 3 79 := ⟨by decide +kernel, rfl⟩
theorem eX0_writeAnswers_79 : Dn mX0_writeAnswers 79 (.iload_n 1) 1 80 := ⟨by decide +kernel, rfl⟩
theorem eX0_writeAnswers_80 : Dn mX0_writeAnswers 80 (.bipush 8) 2 82 := ⟨by decide +kernel, rfl⟩
theorem eX0_writeAnswers_82 : Dn mX0_writeAnswers 82 (.imul) 1 83 := ⟨by decide +kernel, rfl⟩
theorem eX0_writeAnswers_83 : Dn mX0_writeAnswers 83 (.iload 6) 2 85 := ⟨by decide +kernel, rfl⟩
theorem eX0_writeAnswers_85 : Dn mX0_writeAnswers 85 (.iadd) 1 86 := ⟨by decide +kernel, rfl⟩
theorem eX0_writeAnswers_86 : Dn mX0_writeAnswers 86 (.iload 7) 2 88 := ⟨by decide +kernel, rfl⟩
theorem eX0_writeAnswers_88 : Dn mX0_writeAnswers 88 (.iastore) 1 89 := ⟨by decide +kernel, rfl⟩
theorem eX0_writeAnswers_89 : Dn mX0_writeAnswers 89 (.iload 7) 2 91 := ⟨by decide +kernel, rfl⟩
theorem eX0_writeAnswers_91 : Dn mX0_writeAnswers 91 (.aload_n 0) 1 92 := ⟨by decide +kernel, rfl⟩
theorem eX0_writeAnswers_92 : Dn mX0_writeAnswers 92 (.getfield 9) 3 95 := ⟨by decide +kernel, rfl⟩
theorem eX0_writeAnswers_95 : Dn mX0_writeAnswers 95 (.iload 6) 2 97 := ⟨by decide +kernel, rfl⟩
theorem eX0_writeAnswers_97 : Dn mX0_writeAnswers 97 (.iaload) 1 98 := ⟨by decide +kernel, rfl⟩
theorem eX0_writeAnswers_98 : Dj mX0_writeAnswers 98 (.if_icmp .ne 9) (9) 101 107 := ⟨by decide +kernel, rfl, rfl⟩
theorem eX0_writeAnswers_101 : Dn mX0_writeAnswers 101 (.iinc 5 1) 3 104 := ⟨by decide +kernel, rfl⟩
theorem eX0_writeAnswers_104 : Dj mX0_writeAnswers 104 (.goto 18) (18) 107 122 := ⟨by decide +kernel, rfl, rfl⟩
theorem eX0_writeAnswers_107 : Dn mX0_writeAnswers 107 (.iload 7) 2 109 := ⟨by decide +kernel, rfl⟩
theorem eX0_writeAnswers_109 : Dn mX0_writeAnswers 109 (.iconst (-1)) 1 110 := ⟨by decide +kernel, rfl⟩
theorem eX0_writeAnswers_110 : Dj mX0_writeAnswers 110 (.if_icmp .eq 12) (12) 113 122 := ⟨by decide +kernel, rfl, rfl⟩
theorem eX0_writeAnswers_113 : Dn mX0_writeAnswers 113 (.iload 4) 2 115 := ⟨by decide +kernel, rfl⟩
theorem eX0_writeAnswers_115 : Dn mX0_writeAnswers 115 (.iconst 1) 1 116 := ⟨by decide +kernel, rfl⟩
theorem eX0_writeAnswers_116 : Dn mX0_writeAnswers 116 (.iload 6) 2 118 := ⟨by decide +kernel, rfl⟩
theorem eX0_writeAnswers_118 : Dn mX0_writeAnswers 118 (.ishl) 1 119 := ⟨by decide +kernel, rfl⟩
theorem eX0_writeAnswers_119 : Dn mX0_writeAnswers 119 (.ior) 1 120 := ⟨by decide +kernel, rfl⟩
theorem eX0_writeAnswers_120 : Dn mX0_writeAnswers 120 (.istore 4) 2 122 := ⟨by decide +kernel, rfl⟩
theorem eX0_writeAnswers_122 : Dn mX0_writeAnswers 122 (.iinc 6 1) 3 125 := ⟨by decide +kernel, rfl⟩
theorem eX0_writeAnswers_125 : Dj mX0_writeAnswers 125 (.goto (-103)) (-103) 128 22 := ⟨by decide +kernel, rfl, rfl⟩
theorem eX0_writeAnswers_128 : Dn mX0_writeAnswers 128 (.aload_n 0) 1 129 := ⟨by decide +kernel, rfl⟩
theorem eX0_writeAnswers_129 : Dn mX0_writeAnswers 129 (.getfield 24) 3 132 := ⟨by decide +kernel, rfl⟩
theorem eX0_writeAnswers_132 : Dn mX0_writeAnswers 132 (.iload_n 1) 1 133 := ⟨by decide +kernel, rfl⟩
theorem eX0_writeAnswers_133 : Dn mX0_writeAnswers 133 (.iload 4) 2 135 := ⟨by decide +kernel, rfl⟩
theorem eX0_writeAnswers_135 : Dn mX0_writeAnswers 135 (.iastore) 1 136 := ⟨by decide +kernel, rfl⟩
theorem eX0_writeAnswers_136 : Dn mX0_writeAnswers 136 (.aload_n 0) 1 137 := ⟨by decide +kernel, rfl⟩
theorem eX0_writeAnswers_137 : Dn mX0_writeAnswers 137 (.getfield 27) 3 140 := ⟨by decide +kernel, rfl⟩
theorem eX0_writeAnswers_140 : Dn mX0_writeAnswers 140 (.iload_n 1) 1 141 := ⟨by decide +kernel, rfl⟩
theorem eX0_writeAnswers_141 : Dn mX0_writeAnswers 141 (.iload 5) 2 143 := ⟨by decide +kernel, rfl⟩
theorem eX0_writeAnswers_143 : Dn mX0_writeAnswers 143 (.iastore) 1 144 := ⟨by decide +kernel, rfl⟩
theorem eX0_writeAnswers_144 : Dn mX0_writeAnswers 144 (.iload_n 2) 1 145 := ⟨by decide +kernel, rfl⟩
theorem eX0_writeAnswers_145 : Dn mX0_writeAnswers 145 (.iconst (-1)) 1 146 := ⟨by decide +kernel, rfl⟩
theorem eX0_writeAnswers_146 : Dj mX0_writeAnswers 146 (.if_icmp .eq 9) (9) 149 155 := ⟨by decide +kernel, rfl, rfl⟩
theorem eX0_writeAnswers_149 : Dn mX0_writeAnswers 149 (.aload_n 0) 1 150 := ⟨by decide +kernel, rfl⟩
theorem eX0_writeAnswers_150 : Dn mX0_writeAnswers 150 (.iload_n 1) 1 151 := ⟨by decide +kernel, rfl⟩
theorem eX0_writeAnswers_151 : Dn mX0_writeAnswers 151 (.iload_n 2) 1 152 := ⟨by decide +kernel, rfl⟩
theorem eX0_writeAnswers_152 : Dn mX0_writeAnswers 152 (.invokevirtual 93) 3 155 := ⟨by decide +kernel, rfl⟩
theorem eX0_writeAnswers_155 : Dn mX0_writeAnswers 155 (.return_) 1 156 := ⟨by decide +kernel, rfl⟩
theorem eX0_sourceToday_0 : Dn mX0_sourceToday 0 (.aload_n 0) 1 1 := ⟨by decide +kernel, rfl⟩
theorem eX0_sourceToday_1 : Dn mX0_sourceToday 1 (.iload_n 1) 1 2 := ⟨by decide +kernel, rfl⟩
theorem eX0_sourceToday_2 : Dn mX0_sourceToday 2 (.iconst 2) 1 3 := ⟨by decide +kernel, rfl⟩
theorem eX0_sourceToday_3 : Dn mX0_sourceToday 3 (.invokevirtual 59) 3 6 := ⟨by decide +kernel, rfl⟩
theorem eX0_sourceToday_6 : Dn mX0_sourceToday 6 (.istore_n 2) 1 7 := ⟨by decide +kernel, rfl⟩
theorem eX0_sourceToday_7 : Dn mX0_sourceToday 7 (.aload_n 0) 1 8 := ⟨by decide +kernel, rfl⟩
theorem eX0_sourceToday_8 : Dn mX0_sourceToday 8 (.iload_n 2) 1 9 := ⟨by decide +kernel, rfl⟩
theorem eX0_sourceToday_9 : Dn mX0_sourceToday 9 (.invokevirtual 97) 3 12 := ⟨by decide +kernel, rfl⟩
theorem eX0_sourceToday_12 : Dj mX0_sourceToday 12 (.ifCond .eq 29) (29) 15 41 := ⟨by decide +kernel, rfl, rfl⟩
theorem eX0_sourceToday_15 : Dn mX0_sourceToday 15 (.aload_n 0) 1 16 := ⟨by decide +kernel, rfl⟩
theorem eX0_sourceToday_16 : Dn mX0_sourceToday 16 (.iload_n 2) 1 17 := ⟨by decide +kernel, rfl⟩
theorem eX0_sourceToday_17 : Dn mX0_sourceToday 17 (.invokevirtual 101) 3 20 := ⟨by decide +kernel, rfl⟩
theorem eX0_sourceToday_20 : Dj mX0_sourceToday 20 (.ifCond .eq 21) (21) 23 41 := ⟨by decide +kernel, rfl, rfl⟩
theorem eX0_sourceToday_23 : Dn mX0_sourceToday 23 (.aload_n 0) 1 24 := ⟨by decide +kernel, rfl⟩
theorem eX0_sourceToday_24 : Dn mX0_sourceToday 24 (.iload_n 1) 1 25 := ⟨by decide +kernel, rfl⟩
theorem eX0_sourceToday_25 : Dn mX0_sourceToday 25 (.iconst 4) 1 26 := ⟨by decide +kernel, rfl⟩
theorem eX0_sourceToday_26 : Dn mX0_sourceToday 26 (.invokevirtual 59) 3 29 := ⟨by decide +kernel, rfl⟩
theorem eX0_sourceToday_29 : Dn mX0_sourceToday 29 (.aload_n 0) 1 30 := ⟨by decide +kernel, rfl⟩
theorem eX0_sourceToday_30 : Dn mX0_sourceToday 30 (.iload_n 1) 1 31 := ⟨by decide +kernel, rfl⟩
theorem eX0_sourceToday_31 : Dn mX0_sourceToday 31 (.invokevirtual 104) 3 34 := ⟨by decide +kernel, rfl⟩
theorem eX0_sourceToday_34 : Dj mX0_sourceToday 34 (.if_icmp .lt 7) (7) 37 41 := ⟨by decide +kernel, rfl, rfl⟩
theorem eX0_sourceToday_37 : Dn mX0_sourceToday 37 (.iconst 1) 1 38 := ⟨by decide +kernel, rfl⟩
theorem eX0_sourceToday_38 : Dj mX0_sourceToday 38 (.goto 4) (4) 41 42 := ⟨by decide +kernel, rfl, rfl⟩
theorem eX0_sourceToday_41 : Dn mX0_sourceToday 41 (.iconst 0) 1 42 := ⟨by decide +kernel, rfl⟩
theorem eX0_sourceToday_42 : Dn mX0_sourceToday 42 (.istore_n 3) 1 43 := ⟨by decide +kernel, rfl⟩
theorem eX0_sourceToday_43 : Dn mX0_sourceToday 43 (.iload_n 3) 1 44 := ⟨by decide +kernel, rfl⟩
theorem eX0_sourceToday_44 : Dj mX0_sourceToday 44 (.ifCond .eq 7) (7) 47 51 := ⟨by decide +kernel, rfl, rfl⟩
theorem eX0_sourceToday_47 : Dn mX0_sourceToday 47 (.iload_n 2) 1 48 := ⟨by decide +kernel, rfl⟩
theorem eX0_sourceToday_48 : Dj mX0_sourceToday 48 (.goto 4) (4) 51 52 := ⟨by decide +kernel, rfl, rfl⟩
theorem eX0_sourceToday_51 : Dn mX0_sourceToday 51 (.iconst (-1)) 1 52 := ⟨by decide +kernel, rfl⟩
theorem eX0_sourceToday_52 : Dn mX0_sourceToday 52 (.ireturn) 1 53 := ⟨by decide +kernel, rfl⟩
theorem eX0_payFor_0 : Dn mX0_payFor 0 (.aload_n 0) 1 1 := ⟨by decide +kernel, rfl⟩
theorem eX0_payFor_1 : Dn mX0_payFor 1 (.iload_n 1) 1 2 := ⟨by decide +kernel, rfl⟩
theorem eX0_payFor_2 : Dn mX0_payFor 2 (.invokevirtual 104) 3 5 := ⟨by decide +kernel, rfl⟩
theorem eX0_payFor_5 : Dn mX0_payFor 5 (.istore_n 3) 1 6 := ⟨by decide +kernel, rfl⟩
theorem eX0_payFor_6 : Dn mX0_payFor 6 (.aload_n 0) 1 7 := ⟨by decide +kernel, rfl⟩
theorem eX0_payFor_7 : Dn mX0_payFor 7 (.iload_n 1) 1 8 := ⟨by decide +kernel, rfl⟩
theorem eX0_payFor_8 : Dn mX0_payFor 8 (.iconst 4) 1 9 := ⟨by decide +kernel, rfl⟩
theorem eX0_payFor_9 : Dn mX0_payFor 9 (.aload_n 0) 1 10 := ⟨by decide +kernel, rfl⟩
theorem eX0_payFor_10 : Dn mX0_payFor 10 (.iload_n 1) 1 11 := ⟨by decide +kernel, rfl⟩
theorem eX0_payFor_11 : Dn mX0_payFor 11 (.iconst 4) 1 12 := ⟨by decide +kernel, rfl⟩
theorem eX0_payFor_12 : Dn mX0_payFor 12 (.invokevirtual 59) 3 15 := ⟨by decide +kernel, rfl⟩
theorem eX0_payFor_15 : Dn mX0_payFor 15 (.iload_n 3) 1 16 := ⟨by decide +kernel, rfl⟩
theorem eX0_payFor_16 : Dn mX0_payFor 16 (.isub) 1 17 := ⟨by decide +kernel, rfl⟩
theorem eX0_payFor_17 : Dn mX0_payFor 17 (.invokevirtual 55) 3 20 := ⟨by decide +kernel, rfl⟩
theorem eX0_payFor_20 : Dn mX0_payFor 20 (.aload_n 0) 1 21 := ⟨by decide +kernel, rfl⟩
theorem eX0_payFor_21 : Dn mX0_payFor 21 (.iload_n 2) 1 22 := ⟨by decide +kernel, rfl⟩
theorem eX0_payFor_22 : Dn mX0_payFor 22 (.iconst 4) 1 23 := ⟨by decide +kernel, rfl⟩
theorem eX0_payFor_23 : Dn mX0_payFor 23 (.sipush 999) 3 26 := ⟨by decide +kernel, rfl⟩
theorem eX0_payFor_26 : Dn mX0_payFor 26 (.aload_n 0) 1 27 := ⟨by decide +kernel, rfl⟩
theorem eX0_payFor_27 : Dn mX0_payFor 27 (.iload_n 2) 1 28 := ⟨by decide +kernel, rfl⟩
theorem eX0_payFor_28 : Dn mX0_payFor 28 (.iconst 4) 1 29 := ⟨by decide +kernel, rfl⟩
theorem eX0_payFor_29 : Dn mX0_payFor 29 (.invokevirtual 59) 3 32 := ⟨by decide +kernel, rfl⟩
theorem eX0_payFor_32 : Dn mX0_payFor 32 (.iload_n 3) 1 33 := ⟨by decide +kernel, rfl⟩
theorem eX0_payFor_33 : Dn mX0_payFor 33 (.iadd) 1 34 := ⟨by decide +kernel, rfl⟩
theorem eX0_payFor_34 : Dn mX0_payFor 34 (.invokestatic 107) 3 37 := ⟨by decide +kernel, rfl⟩
theorem eX0_payFor_37 : Dn mX0_payFor 37 (.invokevirtual 55) 3 40 := ⟨by decide +kernel, rfl⟩
theorem eX0_payFor_40 : Dn mX0_payFor 40 (.return_) 1 41 := ⟨by decide +kernel, rfl⟩
theorem eX0_markAnswers_0 : Dn mX0_markAnswers 0 (.aload_n 0) 1 1 := ⟨by decide +kernel, rfl⟩
theorem eX0_markAnswers_1 : Dn mX0_markAnswers 1 (.invokevirtual 112) 3 4 := ⟨by decide +kernel, rfl⟩
theorem eX0_markAnswers_4 : Dn mX0_markAnswers 4 (.istore_n 1) 1 5 := ⟨by decide +kernel, rfl⟩
theorem eX0_markAnswers_5 : Dn mX0_markAnswers 5 (.iconst 0) 1 6 := ⟨by decide +kernel, rfl⟩
theorem eX0_markAnswers_6 : Dn mX0_markAnswers 6 (.istore_n 2) 1 7 := ⟨by decide +kernel, rfl⟩
theorem eX0_markAnswers_7 : Dn mX0_markAnswers 7 (.iload_n 2) 1 8 := ⟨by decide +kernel, rfl⟩
theorem eX0_markAnswers_8 : Dn mX0_markAnswers 8 (.aload_n 0) 1 9 := ⟨by decide +kernel, rfl⟩
theorem eX0_markAnswers_9 : Dn mX0_markAnswers 9 (.getfield 34) 3 12 := ⟨by decide +kernel, rfl⟩
theorem eX0_markAnswers_12 : Dj mX0_markAnswers 12 (.if_icmp .ge 88) (88) 15 100 := ⟨by decide +kernel, rfl, rfl⟩
theorem eX0_markAnswers_15 : Dn mX0_markAnswers 15 (.iload_n 1) 1 16 := ⟨by decide +kernel, rfl⟩
theorem eX0_markAnswers_16 : Dn mX0_markAnswers 16 (.iload_n 2) 1 17 := ⟨by decide +kernel, rfl⟩
theorem eX0_markAnswers_17 : Dn mX0_markAnswers 17 (.ishr) 1 18 := ⟨by decide +kernel, rfl⟩
theorem eX0_markAnswers_18 : Dn mX0_markAnswers 18 (.iconst 1) 1 19 := ⟨by decide +kernel, rfl⟩
theorem eX0_markAnswers_19 : Dn mX0_markAnswers 19 (.iand) 1 20 := ⟨by decide +kernel, rfl⟩
theorem eX0_markAnswers_20 : Dn mX0_markAnswers 20 (.iconst 1) 1 21 := ⟨by decide +kernel, rfl⟩
theorem eX0_markAnswers_21 : Dj mX0_markAnswers 21 (.if_icmp .ne 48) (48) 24 69 := ⟨by decide +kernel, rfl, rfl⟩
theorem eX0_markAnswers_24 : Dn mX0_markAnswers 24 (.aload_n 0) 1 25 := ⟨by decide +kernel, rfl⟩
theorem eX0_markAnswers_25 : Dn mX0_markAnswers 25 (.iload_n 2) 1 26 := ⟨by decide +kernel, rfl⟩
theorem eX0_markAnswers_26 : Dn mX0_markAnswers 26 (.iconst 5) 1 27 := ⟨by decide +kernel, rfl⟩
theorem eX0_markAnswers_27 : Dn mX0_markAnswers 27 (.sipush 9999) 3 30 := ⟨by decide +kernel, rfl⟩
theorem eX0_markAnswers_30 : Dn mX0_markAnswers 30 (.aload_n 0) 1 31 := ⟨by decide +kernel, rfl⟩
theorem eX0_markAnswers_31 : Dn mX0_markAnswers 31 (.iload_n 2) 1 32 := ⟨by decide +kernel, rfl⟩
theorem eX0_markAnswers_32 : Dn mX0_markAnswers 32 (.iconst 5) 1 33 := ⟨by decide +kernel, rfl⟩
theorem eX0_markAnswers_33 : Dn mX0_markAnswers 33 (.invokevirtual 59) 3 36 := ⟨by decide +kernel, rfl⟩
theorem eX0_markAnswers_36 : Dn mX0_markAnswers 36 (.iconst 1) 1 37 := ⟨by decide +kernel, rfl⟩
theorem eX0_markAnswers_37 : Dn mX0_markAnswers 37 (.iadd) 1 38 := ⟨by decide +kernel, rfl⟩
theorem eX0_markAnswers_38 : Dn mX0_markAnswers 38 (.invokestatic 107) 3 41 := ⟨by decide +kernel, rfl⟩
theorem eX0_markAnswers_41 : Dn mX0_markAnswers 41 (.invokevirtual 55) 3 44 := ⟨by decide +kernel, rfl⟩
theorem eX0_markAnswers_44 : Dn mX0_markAnswers 44 (.aload_n 0) 1 45 := ⟨by decide +kernel, rfl⟩
theorem eX0_markAnswers_45 : Dn mX0_markAnswers 45 (.iload_n 2) 1 46 := ⟨by decide +kernel, rfl⟩
theorem eX0_markAnswers_46 : Dn mX0_markAnswers 46 (.iconst 1) 1 47 := ⟨by decide +kernel, rfl⟩
theorem eX0_markAnswers_47 : Dn mX0_markAnswers 47 (.aload_n 0) 1 48 := ⟨by decide +kernel, rfl⟩
theorem eX0_markAnswers_48 : Dn mX0_markAnswers 48 (.iload_n 2) 1 49 := ⟨by decide +kernel, rfl⟩
theorem eX0_markAnswers_49 : Dn mX0_markAnswers 49 (.iconst 1) 1 50 := ⟨by decide +kernel, rfl⟩
theorem eX0_markAnswers_50 : Dn mX0_markAnswers 50 (.invokevirtual 59) 3 53 := ⟨by decide +kernel, rfl⟩
theorem eX0_markAnswers_53 : Dn mX0_markAnswers 53 (.iconst 1) 1 54 := ⟨by decide +kernel, rfl⟩
theorem eX0_markAnswers_54 : Dn mX0_markAnswers 54 (.aload_n 0) 1 55 := ⟨by decide +kernel, rfl⟩
theorem eX0_markAnswers_55 : Dn mX0_markAnswers 55 (.getfield 37) 3 58 := ⟨by decide +kernel, rfl⟩
theorem eX0_markAnswers_58 : Dn mX0_markAnswers 58 (.bipush 8) 2 60 := ⟨by decide +kernel, rfl⟩
theorem eX0_markAnswers_60 : Dn mX0_markAnswers 60 (.irem) 1 61 := ⟨by decide +kernel, rfl⟩
theorem eX0_markAnswers_61 : Dn mX0_markAnswers 61 (.ishl) 1 62 := ⟨by decide +kernel, rfl⟩
theorem eX0_markAnswers_62 : Dn mX0_markAnswers 62 (.ior) 1 63 := ⟨by decide +kernel, rfl⟩
theorem eX0_markAnswers_63 : Dn mX0_markAnswers 63 (.invokevirtual 55) 3 66 := ⟨by decide +kernel, rfl⟩
theorem eX0_markAnswers_66 : Dj mX0_markAnswers 66 (.goto 28) (28) 69 94 := ⟨by decide +kernel, rfl, rfl⟩
theorem eX0_markAnswers_69 : Dn mX0_markAnswers 69 (.aload_n 0) 1 70 := ⟨by decide +kernel, rfl⟩
theorem eX0_markAnswers_70 : Dn mX0_markAnswers 70 (.iload_n 2) 1 71 := ⟨by decide +kernel, rfl⟩
theorem eX0_markAnswers_71 : Dn mX0_markAnswers 71 (.iconst 3) 1 72 := ⟨by decide +kernel, rfl⟩
theorem eX0_markAnswers_72 : Dn mX0_markAnswers 72 (.sipush 9999) 3 75 := ⟨by decide +kernel, rfl⟩
theorem eX0_markAnswers_75 : Dn mX0_markAnswers 75 (.aload_n 0) 1 76 := ⟨by decide +kernel, rfl⟩
theorem eX0_markAnswers_76 : Dn mX0_markAnswers 76 (.iload_n 2) 1 77 := ⟨by decide +kernel, rfl⟩
theorem eX0_markAnswers_77 : Dn mX0_markAnswers 77 (.iconst 3) 1 78 := ⟨by decide +kernel, rfl⟩
theorem eX0_markAnswers_78 : Dn mX0_markAnswers 78 (.invokevirtual 59) 3 81 := ⟨by decide +kernel, rfl⟩
theorem eX0_markAnswers_81 : Dn mX0_markAnswers 81 (.aload_n 0) 1 82 := ⟨by decide +kernel, rfl⟩
theorem eX0_markAnswers_82 : Dn mX0_markAnswers 82 (.getfield 27) 3 85 := ⟨by decide +kernel, rfl⟩
theorem eX0_markAnswers_85 : Dn mX0_markAnswers 85 (.iload_n 2) 1 86 := ⟨by decide +kernel, rfl⟩
theorem eX0_markAnswers_86 : Dn mX0_markAnswers 86 (.iaload) 1 87 := ⟨by decide +kernel, rfl⟩
theorem eX0_markAnswers_87 : Dn mX0_markAnswers 87 (.iadd) 1 88 := ⟨by decide +kernel, rfl⟩
theorem eX0_markAnswers_88 : Dn mX0_markAnswers 88 (.invokestatic 107) 3 91 := ⟨by decide +kernel, rfl⟩
theorem eX0_markAnswers_91 : Dn mX0_markAnswers 91 (.invokevirtual 55) 3 94 := ⟨by decide +kernel, rfl⟩
theorem eX0_markAnswers_94 : Dn mX0_markAnswers 94 (.iinc 2 1) 3 97 := ⟨by decide +kernel, rfl⟩
theorem eX0_markAnswers_97 : Dj mX0_markAnswers 97 (.goto (-90)) (-90) 100 7 := ⟨by decide +kernel, rfl, rfl⟩
theorem eX0_markAnswers_100 : Dn mX0_markAnswers 100 (.return_) 1 101 := ⟨by decide +kernel, rfl⟩
theorem eX0_turnDay_0 : Dn mX0_turnDay 0 (.iconst 0) 1 1 := ⟨by decide +kernel, rfl⟩
theorem eX0_turnDay_1 : Dn mX0_turnDay 1 (.istore_n 1) 1 2 := ⟨by decide +kernel, rfl⟩
theorem eX0_turnDay_2 : Dn mX0_turnDay 2 (.iload_n 1) 1 3 := ⟨by decide +kernel, rfl⟩
theorem eX0_turnDay_3 : Dn mX0_turnDay 3 (.bipush 8) 2 5 := ⟨by decide +kernel, rfl⟩
theorem eX0_turnDay_5 : Dj mX0_turnDay 5 (.if_icmp .ge 30) (30) 8 35 := ⟨by decide +kernel, rfl, rfl⟩
theorem eX0_turnDay_8 : Dn mX0_turnDay 8 (.aload_n 0) 1 9 := ⟨by decide +kernel, rfl⟩
theorem eX0_turnDay_9 : Dn mX0_turnDay 9 (.getfield 9) 3 12 := ⟨by decide +kernel, rfl⟩
theorem eX0_turnDay_12 : Dn mX0_turnDay 12 (.iload_n 1) 1 13 := ⟨by decide +kernel, rfl⟩
theorem eX0_turnDay_13 : Dn mX0_turnDay 13 (.iconst 3) 1 14 := ⟨by decide +kernel, rfl⟩
theorem eX0_turnDay_14 : Dn mX0_turnDay 14 (.aload_n 0) 1 15 := ⟨by decide +kernel, rfl⟩
theorem eX0_turnDay_15 : Dn mX0_turnDay 15 (.getfield 9) 3 18 := ⟨by decide +kernel, rfl⟩
theorem eX0_turnDay_18 : Dn mX0_turnDay 18 (.iload_n 1) 1 19 := ⟨by decide +kernel, rfl⟩
theorem eX0_turnDay_19 : Dn mX0_turnDay 19 (.iaload) 1 20 := ⟨by decide +kernel, rfl⟩
theorem eX0_turnDay_20 : Dn mX0_turnDay 20 (.imul) 1 21 := ⟨by decide +kernel, rfl⟩
theorem eX0_turnDay_21 : Dn mX0_turnDay 21 (.iload_n 1) 1 22 := ⟨by decide +kernel, rfl⟩
theorem eX0_turnDay_22 : Dn mX0_turnDay 22 (.iadd) 1 23 := ⟨by decide +kernel, rfl⟩
theorem eX0_turnDay_23 : Dn mX0_turnDay 23 (.iconst 1) 1 24 := ⟨by decide +kernel, rfl⟩
theorem eX0_turnDay_24 : Dn mX0_turnDay 24 (.iadd) 1 25 := ⟨by decide +kernel, rfl⟩
theorem eX0_turnDay_25 : Dn mX0_turnDay 25 (.bipush 100) 2 27 := ⟨by decide +kernel, rfl⟩
theorem eX0_turnDay_27 : Dn mX0_turnDay 27 (.irem) 1 28 := ⟨by decide +kernel, rfl⟩
theorem eX0_turnDay_28 : Dn mX0_turnDay 28 (.iastore) 1 29 := ⟨by decide +kernel, rfl⟩
theorem eX0_turnDay_29 : Dn mX0_turnDay 29 (.iinc 1 1) 3 32 := ⟨by decide +kernel, rfl⟩
theorem eX0_turnDay_32 : Dj mX0_turnDay 32 (.goto (-30)) (-30) 35 2 := ⟨by decide +kernel, rfl, rfl⟩
theorem eX0_turnDay_35 : Dn mX0_turnDay 35 (.aload_n 0) 1 36 := ⟨by decide +kernel, rfl⟩
theorem eX0_turnDay_36 : Dn mX0_turnDay 36 (.ldc 116) 2 38 := ⟨by decide +kernel, rfl⟩
theorem eX0_turnDay_38 : Dn mX0_turnDay 38 (.aload_n 0) 1 39 := ⟨by decide +kernel, rfl⟩
theorem eX0_turnDay_39 : Dn mX0_turnDay 39 (.getfield 37) 3 42 := ⟨by decide +kernel, rfl⟩
theorem eX0_turnDay_42 : Dn mX0_turnDay 42 (.iconst 1) 1 43 := ⟨by decide +kernel, rfl⟩
theorem eX0_turnDay_43 : Dn mX0_turnDay 43 (.iadd) 1 44 := ⟨by decide +kernel, rfl⟩
theorem eX0_turnDay_44 : Dn mX0_turnDay 44 (.invokestatic 107) 3 47 := ⟨by decide +kernel, rfl⟩
theorem eX0_turnDay_47 : Dn mX0_turnDay 47 (.putfield 37) 3 50 := ⟨by decide +kernel, rfl⟩
theorem eX0_turnDay_50 : Dn mX0_turnDay 50 (.return_) 1 51 := ⟨by decide +kernel, rfl⟩
theorem eX0_childrenAlike_0 : Dn mX0_childrenAlike 0 (.iconst 0) 1 1 := ⟨by decide +kernel, rfl⟩
theorem eX0_childrenAlike_1 : Dn mX0_childrenAlike 1 (.istore_n 1) 1 2 := ⟨by decide +kernel, rfl⟩
theorem eX0_childrenAlike_2 : Dn mX0_childrenAlike 2 (.iconst 0) 1 3 := ⟨by decide +kernel, rfl⟩
theorem eX0_childrenAlike_3 : Dn mX0_childrenAlike 3 (.istore_n 2) 1 4 := ⟨by decide +kernel, rfl⟩
theorem eX0_childrenAlike_4 : Dn mX0_childrenAlike 4 (.iload_n 2) 1 5 := ⟨by decide +kernel, rfl⟩
theorem eX0_childrenAlike_5 : Dn mX0_childrenAlike 5 (.aload_n 0) 1 6 := ⟨by decide +kernel, rfl⟩
theorem eX0_childrenAlike_6 : Dn mX0_childrenAlike 6 (.getfield 34) 3 9 := ⟨by decide +kernel, rfl⟩
theorem eX0_childrenAlike_9 : Dj mX0_childrenAlike 9 (.if_icmp .ge 82) (82) 12 91 := ⟨by decide +kernel, rfl, rfl⟩
theorem eX0_childrenAlike_12 : Dn mX0_childrenAlike 12 (.iload_n 2) 1 13 := ⟨by decide +kernel, rfl⟩
theorem eX0_childrenAlike_13 : Dn mX0_childrenAlike 13 (.iconst 1) 1 14 := ⟨by decide +kernel, rfl⟩
theorem eX0_childrenAlike_14 : Dn mX0_childrenAlike 14 (.iadd) 1 15 := ⟨by decide +kernel, rfl⟩
theorem eX0_childrenAlike_15 : Dn mX0_childrenAlike 15 (.istore_n 3) 1 16 := ⟨by decide +kernel, rfl⟩
theorem eX0_childrenAlike_16 : Dn mX0_childrenAlike 16 (.iload_n 3) 1 17 := ⟨by decide +kernel, rfl⟩
theorem eX0_childrenAlike_17 : Dn mX0_childrenAlike 17 (.aload_n 0) 1 18 := ⟨by decide +kernel, rfl⟩
theorem eX0_childrenAlike_18 : Dn mX0_childrenAlike 18 (.getfield 34) 3 21 := ⟨by decide +kernel, rfl⟩
theorem eX0_childrenAlike_21 : Dj mX0_childrenAlike 21 (.if_icmp .ge 64) (64) 24 85 := ⟨by decide +kernel, rfl, rfl⟩
theorem eX0_childrenAlike_24 : Dn mX0_childrenAlike 24 (.aload_n 0) 1 25 := ⟨by decide +kernel, rfl⟩
theorem eX0_childrenAlike_25 : Dn mX0_childrenAlike 25 (.getfield 24) 3 28 := ⟨by decide +kernel, rfl⟩
theorem eX0_childrenAlike_28 : Dn mX0_childrenAlike 28 (.iload_n 2) 1 29 := ⟨by decide +kernel, rfl⟩
theorem eX0_childrenAlike_29 : Dn mX0_childrenAlike 29 (.iaload) 1 30 := ⟨by decide +kernel, rfl⟩
theorem eX0_childrenAlike_30 : Dn mX0_childrenAlike 30 (.aload_n 0) 1 31 := ⟨by decide +kernel, rfl⟩
theorem eX0_childrenAlike_31 : Dn mX0_childrenAlike 31 (.getfield 24) 3 34 := ⟨by decide +kernel, rfl⟩
theorem eX0_childrenAlike_34 : Dn mX0_childrenAlike 34 (.iload_n 3) 1 35 := ⟨by decide +kernel, rfl⟩
theorem eX0_childrenAlike_35 : Dn mX0_childrenAlike 35 (.iaload) 1 36 := ⟨by decide +kernel, rfl⟩
theorem eX0_childrenAlike_36 : Dn mX0_childrenAlike 36 (.iand) 1 37 := ⟨by decide +kernel, rfl⟩
theorem eX0_childrenAlike_37 : Dn mX0_childrenAlike 37 (.istore 4) 2 39 := ⟨by decide +kernel, rfl⟩
theorem eX0_childrenAlike_39 : Dn mX0_childrenAlike 39 (.iload 4) 2 41 := ⟨by decide +kernel, rfl⟩
theorem eX0_childrenAlike_41 : Dn mX0_childrenAlike 41 (.invokestatic 117) 3 44 := ⟨by decide +kernel, rfl⟩
theorem eX0_childrenAlike_44 : Dn mX0_childrenAlike 44 (.aload_n 0) 1 45 := ⟨by decide +kernel, rfl⟩
theorem eX0_childrenAlike_45 : Dn mX0_childrenAlike 45 (.getfield 30) 3 48 := ⟨by decide +kernel, rfl⟩
theorem eX0_childrenAlike_48 : Dj mX0_childrenAlike 48 (.if_icmp .lt 31) (31) 51 79 := ⟨by decide +kernel, rfl, rfl⟩
theorem eX0_childrenAlike_51 : Dn mX0_childrenAlike 51 (.aload_n 0) 1 52 := ⟨by decide +kernel, rfl⟩
theorem eX0_childrenAlike_52 : Dn mX0_childrenAlike 52 (.iload 4) 2 54 := ⟨by decide +kernel, rfl⟩
theorem eX0_childrenAlike_54 : Dn mX0_childrenAlike 54 (.iload_n 2) 1 55 := ⟨by decide +kernel, rfl⟩
theorem eX0_childrenAlike_55 : Dn mX0_childrenAlike 55 (.iload_n 3) 1 56 := ⟨by decide +kernel, rfl⟩
theorem eX0_childrenAlike_56 : Dn mX0_childrenAlike 56 (.invokevirtual 122) 3 59 := ⟨by decide +kernel, rfl⟩
theorem eX0_childrenAlike_59 : Dn mX0_childrenAlike 59 (.invokestatic 117) 3 62 := ⟨by decide +kernel, rfl⟩
theorem eX0_childrenAlike_62 : Dn mX0_childrenAlike 62 (.aload_n 0) 1 63 := ⟨by decide +kernel, rfl⟩
theorem eX0_childrenAlike_63 : Dn mX0_childrenAlike 63 (.getfield 30) 3 66 := ⟨by decide +kernel, rfl⟩
theorem eX0_childrenAlike_66 : Dj mX0_childrenAlike 66 (.if_icmp .lt 13) (13) 69 79 := ⟨by decide +kernel, rfl, rfl⟩
theorem eX0_childrenAlike_69 : Dn mX0_childrenAlike 69 (.iload_n 1) 1 70 := ⟨by decide +kernel, rfl⟩
theorem eX0_childrenAlike_70 : Dn mX0_childrenAlike 70 (.iconst 1) 1 71 := ⟨by decide +kernel, rfl⟩
theorem eX0_childrenAlike_71 : Dn mX0_childrenAlike 71 (.iload_n 2) 1 72 := ⟨by decide +kernel, rfl⟩
theorem eX0_childrenAlike_72 : Dn mX0_childrenAlike 72 (.ishl) 1 73 := ⟨by decide +kernel, rfl⟩
theorem eX0_childrenAlike_73 : Dn mX0_childrenAlike 73 (.iconst 1) 1 74 := ⟨by decide +kernel, rfl⟩
theorem eX0_childrenAlike_74 : Dn mX0_childrenAlike 74 (.iload_n 3) 1 75 := ⟨by decide +kernel, rfl⟩
theorem eX0_childrenAlike_75 : Dn mX0_childrenAlike 75 (.ishl) 1 76 := ⟨by decide +kernel, rfl⟩
theorem eX0_childrenAlike_76 : Dn mX0_childrenAlike 76 (.ior) 1 77 := ⟨by decide +kernel, rfl⟩
theorem eX0_childrenAlike_77 : Dn mX0_childrenAlike 77 (.ior) 1 78 := ⟨by decide +kernel, rfl⟩
theorem eX0_childrenAlike_78 : Dn mX0_childrenAlike 78 (.istore_n 1) 1 79 := ⟨by decide +kernel, rfl⟩
theorem eX0_childrenAlike_79 : Dn mX0_childrenAlike 79 (.iinc 3 1) 3 82 := ⟨by decide +kernel, rfl⟩
theorem eX0_childrenAlike_82 : Dj mX0_childrenAlike 82 (.goto (-66)) (-66) 85 16 := ⟨by decide +kernel, rfl, rfl⟩
theorem eX0_childrenAlike_85 : Dn mX0_childrenAlike 85 (.iinc 2 1) 3 88 := ⟨by decide +kernel, rfl⟩
theorem eX0_childrenAlike_88 : Dj mX0_childrenAlike 88 (.goto (-84)) (-84) 91 4 := ⟨by decide +kernel, rfl, rfl⟩
theorem eX0_childrenAlike_91 : Dn mX0_childrenAlike 91 (.iload_n 1) 1 92 := ⟨by decide +kernel, rfl⟩
theorem eX0_childrenAlike_92 : Dn mX0_childrenAlike 92 (.ireturn) 1 93 := ⟨by decide +kernel, rfl⟩
theorem eX0_alikeSums_0 : Dn mX0_alikeSums 0 (.aload_n 0) 1 1 := ⟨by decide +kernel, rfl⟩
theorem eX0_alikeSums_1 : Dn mX0_alikeSums 1 (.aload_n 0) 1 2 := ⟨by decide +kernel, rfl⟩
theorem eX0_alikeSums_2 : Dn mX0_alikeSums 2 (.iload_n 1) 1 3 := ⟨by decide +kernel, rfl⟩
theorem eX0_alikeSums_3 : Dn mX0_alikeSums 3 (.invokevirtual 125) 3 6 := ⟨by decide +kernel, rfl⟩
theorem eX0_alikeSums_6 : Dn mX0_alikeSums 6 (.aload_n 0) 1 7 := ⟨by decide +kernel, rfl⟩
theorem eX0_alikeSums_7 : Dn mX0_alikeSums 7 (.iload_n 2) 1 8 := ⟨by decide +kernel, rfl⟩
theorem eX0_alikeSums_8 : Dn mX0_alikeSums 8 (.invokevirtual 125) 3 11 := ⟨by decide +kernel, rfl⟩
theorem eX0_alikeSums_11 : Dn mX0_alikeSums 11 (.iand) 1 12 := ⟨by decide +kernel, rfl⟩
theorem eX0_alikeSums_12 : Dn mX0_alikeSums 12 (.iload_n 1) 1 13 := ⟨by decide +kernel, rfl⟩
theorem eX0_alikeSums_13 : Dn mX0_alikeSums 13 (.iload_n 2) 1 14 := ⟨by decide +kernel, rfl⟩
theorem eX0_alikeSums_14 : Dn mX0_alikeSums 14 (.invokevirtual 122) 3 17 := ⟨by decide +kernel, rfl⟩
theorem eX0_alikeSums_17 : Dn mX0_alikeSums 17 (.ireturn) 1 18 := ⟨by decide +kernel, rfl⟩
theorem eX0_sameAmong_0 : Dn mX0_sameAmong 0 (.iconst 0) 1 1 := ⟨by decide +kernel, rfl⟩
theorem eX0_sameAmong_1 : Dn mX0_sameAmong 1 (.istore 4) 2 3 := ⟨by decide +kernel, rfl⟩
theorem eX0_sameAmong_3 : Dn mX0_sameAmong 3 (.iconst 0) 1 4 := ⟨by decide +kernel, rfl⟩
theorem eX0_sameAmong_4 : Dn mX0_sameAmong 4 (.istore 5) 2 6 := ⟨by decide +kernel, rfl⟩
theorem eX0_sameAmong_6 : Dn mX0_sameAmong 6 (.iload 5) 2 8 := ⟨by decide +kernel, rfl⟩
theorem eX0_sameAmong_8 : Dn mX0_sameAmong 8 (.bipush 8) 2 10 := ⟨by decide +kernel, rfl⟩
theorem eX0_sameAmong_10 : Dj mX0_sameAmong 10 (.if_icmp .ge 45) (45) 13 55 := ⟨by decide +kernel, rfl, rfl⟩
theorem eX0_sameAmong_13 : Dn mX0_sameAmong 13 (.iload_n 1) 1 14 := ⟨by decide +kernel, rfl⟩
theorem eX0_sameAmong_14 : Dn mX0_sameAmong 14 (.iload 5) 2 16 := ⟨by decide +kernel, rfl⟩
theorem eX0_sameAmong_16 : Dn mX0_sameAmong 16 (.ishr) 1 17 := ⟨by decide +kernel, rfl⟩
theorem eX0_sameAmong_17 : Dn mX0_sameAmong 17 (.iconst 1) 1 18 := ⟨by decide +kernel, rfl⟩
theorem eX0_sameAmong_18 : Dn mX0_sameAmong 18 (.iand) 1 19 := ⟨by decide +kernel, rfl⟩
theorem eX0_sameAmong_19 : Dn mX0_sameAmong 19 (.iconst 1) 1 20 := ⟨by decide +kernel, rfl⟩
theorem eX0_sameAmong_20 : Dj mX0_sameAmong 20 (.if_icmp .ne 29) (29) 23 49 := ⟨by decide +kernel, rfl, rfl⟩
theorem eX0_sameAmong_23 : Dn mX0_sameAmong 23 (.aload_n 0) 1 24 := ⟨by decide +kernel, rfl⟩
theorem eX0_sameAmong_24 : Dn mX0_sameAmong 24 (.iload_n 2) 1 25 := ⟨by decide +kernel, rfl⟩
theorem eX0_sameAmong_25 : Dn mX0_sameAmong 25 (.iload 5) 2 27 := ⟨by decide +kernel, rfl⟩
theorem eX0_sameAmong_27 : Dn mX0_sameAmong 27 (.invokevirtual 86) 3 30 := ⟨by decide +kernel, rfl⟩
theorem eX0_sameAmong_30 : Dn mX0_sameAmong 30 (.aload_n 0) 1 31 := ⟨by decide +kernel, rfl⟩
theorem eX0_sameAmong_31 : Dn mX0_sameAmong 31 (.iload_n 3) 1 32 := ⟨by decide +kernel, rfl⟩
theorem eX0_sameAmong_32 : Dn mX0_sameAmong 32 (.iload 5) 2 34 := ⟨by decide +kernel, rfl⟩
theorem eX0_sameAmong_34 : Dn mX0_sameAmong 34 (.invokevirtual 86) 3 37 := ⟨by decide +kernel, rfl⟩
theorem eX0_sameAmong_37 : Dj mX0_sameAmong 37 (.if_icmp .ne 12) (12) 40 49 := ⟨by decide +kernel, rfl, rfl⟩
theorem eX0_sameAmong_40 : Dn mX0_sameAmong 40 (.iload 4) 2 42 := ⟨by decide +kernel, rfl⟩
theorem eX0_sameAmong_42 : Dn mX0_sameAmong 42 (.iconst 1) 1 43 := ⟨by decide +kernel, rfl⟩
theorem eX0_sameAmong_43 : Dn mX0_sameAmong 43 (.iload 5) 2 45 := ⟨by decide +kernel, rfl⟩
theorem eX0_sameAmong_45 : Dn mX0_sameAmong 45 (.ishl) 1 46 := ⟨by decide +kernel, rfl⟩
theorem eX0_sameAmong_46 : Dn mX0_sameAmong 46 (.ior) 1 47 := ⟨by decide +kernel, rfl⟩
theorem eX0_sameAmong_47 : Dn mX0_sameAmong 47 (.istore 4) 2 49 := ⟨by decide +kernel, rfl⟩
theorem eX0_sameAmong_49 : Dn mX0_sameAmong 49 (.iinc 5 1) 3 52 := ⟨by decide +kernel, rfl⟩
theorem eX0_sameAmong_52 : Dj mX0_sameAmong 52 (.goto (-46)) (-46) 55 6 := ⟨by decide +kernel, rfl, rfl⟩
theorem eX0_sameAmong_55 : Dn mX0_sameAmong 55 (.iload 4) 2 57 := ⟨by decide +kernel, rfl⟩
theorem eX0_sameAmong_57 : Dn mX0_sameAmong 57 (.ireturn) 1 58 := ⟨by decide +kernel, rfl⟩
theorem eX0_wrongSums_0 : Dn mX0_wrongSums 0 (.iconst 0) 1 1 := ⟨by decide +kernel, rfl⟩
theorem eX0_wrongSums_1 : Dn mX0_wrongSums 1 (.istore_n 2) 1 2 := ⟨by decide +kernel, rfl⟩
theorem eX0_wrongSums_2 : Dn mX0_wrongSums 2 (.iconst 0) 1 3 := ⟨by decide +kernel, rfl⟩
theorem eX0_wrongSums_3 : Dn mX0_wrongSums 3 (.istore_n 3) 1 4 := ⟨by decide +kernel, rfl⟩
theorem eX0_wrongSums_4 : Dn mX0_wrongSums 4 (.iload_n 3) 1 5 := ⟨by decide +kernel, rfl⟩
theorem eX0_wrongSums_5 : Dn mX0_wrongSums 5 (.bipush 8) 2 7 := ⟨by decide +kernel, rfl⟩
theorem eX0_wrongSums_7 : Dj mX0_wrongSums 7 (.if_icmp .ge 40) (40) 10 47 := ⟨by decide +kernel, rfl, rfl⟩
theorem eX0_wrongSums_10 : Dn mX0_wrongSums 10 (.aload_n 0) 1 11 := ⟨by decide +kernel, rfl⟩
theorem eX0_wrongSums_11 : Dn mX0_wrongSums 11 (.iload_n 1) 1 12 := ⟨by decide +kernel, rfl⟩
theorem eX0_wrongSums_12 : Dn mX0_wrongSums 12 (.iload_n 3) 1 13 := ⟨by decide +kernel, rfl⟩
theorem eX0_wrongSums_13 : Dn mX0_wrongSums 13 (.invokevirtual 86) 3 16 := ⟨by decide +kernel, rfl⟩
theorem eX0_wrongSums_16 : Dn mX0_wrongSums 16 (.istore 4) 2 18 := ⟨by decide +kernel, rfl⟩
theorem eX0_wrongSums_18 : Dn mX0_wrongSums 18 (.iload 4) 2 20 := ⟨by decide +kernel, rfl⟩
theorem eX0_wrongSums_20 : Dn mX0_wrongSums 20 (.iconst (-1)) 1 21 := ⟨by decide +kernel, rfl⟩
theorem eX0_wrongSums_21 : Dj mX0_wrongSums 21 (.if_icmp .eq 20) (20) 24 41 := ⟨by decide +kernel, rfl, rfl⟩
theorem eX0_wrongSums_24 : Dn mX0_wrongSums 24 (.iload 4) 2 26 := ⟨by decide +kernel, rfl⟩
theorem eX0_wrongSums_26 : Dn mX0_wrongSums 26 (.aload_n 0) 1 27 := ⟨by decide +kernel, rfl⟩
theorem eX0_wrongSums_27 : Dn mX0_wrongSums 27 (.getfield 9) 3 30 := ⟨by decide +kernel, rfl⟩
theorem eX0_wrongSums_30 : Dn mX0_wrongSums 30 (.iload_n 3) 1 31 := ⟨by decide +kernel, rfl⟩
theorem eX0_wrongSums_31 : Dn mX0_wrongSums 31 (.iaload) 1 32 := ⟨by decide +kernel, rfl⟩
theorem eX0_wrongSums_32 : Dj mX0_wrongSums 32 (.if_icmp .eq 9) (9) 35 41 := ⟨by decide +kernel, rfl, rfl⟩
theorem eX0_wrongSums_35 : Dn mX0_wrongSums 35 (.iload_n 2) 1 36 := ⟨by decide +kernel, rfl⟩
theorem eX0_wrongSums_36 : Dn mX0_wrongSums 36 (.iconst 1) 1 37 := ⟨by decide +kernel, rfl⟩
theorem eX0_wrongSums_37 : Dn mX0_wrongSums 37 (.iload_n 3) 1 38 := ⟨by decide +kernel, rfl⟩
theorem eX0_wrongSums_38 : Dn mX0_wrongSums 38 (.ishl) 1 39 := ⟨by decide +kernel, rfl⟩
theorem eX0_wrongSums_39 : Dn mX0_wrongSums 39 (.ior) 1 40 := ⟨by decide +kernel, rfl⟩
theorem eX0_wrongSums_40 : Dn mX0_wrongSums 40 (.istore_n 2) 1 41 := ⟨by decide +kernel, rfl⟩
theorem eX0_wrongSums_41 : Dn mX0_wrongSums 41 (.iinc 3 1) 3 44 := ⟨by decide +kernel, rfl⟩
theorem eX0_wrongSums_44 : Dj mX0_wrongSums 44 (.goto (-40)) (-40) 47 4 := ⟨by decide +kernel, rfl, rfl⟩
theorem eX0_wrongSums_47 : Dn mX0_wrongSums 47 (.iload_n 2) 1 48 := ⟨by decide +kernel, rfl⟩
theorem eX0_wrongSums_48 : Dn mX0_wrongSums 48 (.ireturn) 1 49 := ⟨by decide +kernel, rfl⟩
theorem eX0_draw_0 : Dn mX0_draw 0 (.aload_n 0) 1 1 := ⟨by decide +kernel, rfl⟩
theorem eX0_draw_1 : Dn mX0_draw 1 (.aload_n 0) 1 2 := ⟨by decide +kernel, rfl⟩
theorem eX0_draw_2 : Dn mX0_draw 2 (.getfield 40) 3 5 := ⟨by decide +kernel, rfl⟩
theorem eX0_draw_5 : Dn mX0_draw 5 (.ldc 128) 2 7 := ⟨by decide +kernel, rfl⟩
theorem eX0_draw_7 : Dn mX0_draw 7 (.imul) 1 8 := ⟨by decide +kernel, rfl⟩
theorem eX0_draw_8 : Dn mX0_draw 8 (.sipush 12345) 3 11 := ⟨by decide +kernel, rfl⟩
theorem eX0_draw_11 : Dn mX0_draw 11 (.iadd) 1 12 := ⟨by decide +kernel, rfl⟩
theorem eX0_draw_12 : Dn mX0_draw 12 (.putfield 40) 3 15 := ⟨by decide +kernel, rfl⟩
theorem eX0_draw_15 : Dn mX0_draw 15 (.aload_n 0) 1 16 := ⟨by decide +kernel, rfl⟩
theorem eX0_draw_16 : Dn mX0_draw 16 (.getfield 40) 3 19 := ⟨by decide +kernel, rfl⟩
theorem eX0_draw_19 : Dn mX0_draw 19 (.bipush 8) 2 21 := ⟨by decide +kernel, rfl⟩
theorem eX0_draw_21 : Dn mX0_draw 21 (.iushr) 1 22 := ⟨by decide +kernel, rfl⟩
theorem eX0_draw_22 : Dn mX0_draw 22 (.ireturn) 1 23 := ⟨by decide +kernel, rfl⟩
theorem eX0_answeredSums_0 : Dn mX0_answeredSums 0 (.iconst 0) 1 1 := ⟨by decide +kernel, rfl⟩
theorem eX0_answeredSums_1 : Dn mX0_answeredSums 1 (.istore_n 2) 1 2 := ⟨by decide +kernel, rfl⟩
theorem eX0_answeredSums_2 : Dn mX0_answeredSums 2 (.iconst 0) 1 3 := ⟨by decide +kernel, rfl⟩
theorem eX0_answeredSums_3 : Dn mX0_answeredSums 3 (.istore_n 3) 1 4 := ⟨by decide +kernel, rfl⟩
theorem eX0_answeredSums_4 : Dn mX0_answeredSums 4 (.iload_n 3) 1 5 := ⟨by decide +kernel, rfl⟩
theorem eX0_answeredSums_5 : Dn mX0_answeredSums 5 (.bipush 8) 2 7 := ⟨by decide +kernel, rfl⟩
theorem eX0_answeredSums_7 : Dj mX0_answeredSums 7 (.if_icmp .ge 25) (25) 10 32 := ⟨by decide +kernel, rfl, rfl⟩
theorem eX0_answeredSums_10 : Dn mX0_answeredSums 10 (.aload_n 0) 1 11 := ⟨by decide +kernel, rfl⟩
theorem eX0_answeredSums_11 : Dn mX0_answeredSums 11 (.iload_n 1) 1 12 := ⟨by decide +kernel, rfl⟩
theorem eX0_answeredSums_12 : Dn mX0_answeredSums 12 (.iload_n 3) 1 13 := ⟨by decide +kernel, rfl⟩
theorem eX0_answeredSums_13 : Dn mX0_answeredSums 13 (.invokevirtual 86) 3 16 := ⟨by decide +kernel, rfl⟩
theorem eX0_answeredSums_16 : Dn mX0_answeredSums 16 (.iconst (-1)) 1 17 := ⟨by decide +kernel, rfl⟩
theorem eX0_answeredSums_17 : Dj mX0_answeredSums 17 (.if_icmp .eq 9) (9) 20 26 := ⟨by decide +kernel, rfl, rfl⟩
theorem eX0_answeredSums_20 : Dn mX0_answeredSums 20 (.iload_n 2) 1 21 := ⟨by decide +kernel, rfl⟩
theorem eX0_answeredSums_21 : Dn mX0_answeredSums 21 (.iconst 1) 1 22 := ⟨by decide +kernel, rfl⟩
theorem eX0_answeredSums_22 : Dn mX0_answeredSums 22 (.iload_n 3) 1 23 := ⟨by decide +kernel, rfl⟩
theorem eX0_answeredSums_23 : Dn mX0_answeredSums 23 (.ishl) 1 24 := ⟨by decide +kernel, rfl⟩
theorem eX0_answeredSums_24 : Dn mX0_answeredSums 24 (.ior) 1 25 := ⟨by decide +kernel, rfl⟩
theorem eX0_answeredSums_25 : Dn mX0_answeredSums 25 (.istore_n 2) 1 26 := ⟨by decide +kernel, rfl⟩
theorem eX0_answeredSums_26 : Dn mX0_answeredSums 26 (.iinc 3 1) 3 29 := ⟨by decide +kernel, rfl⟩
theorem eX0_answeredSums_29 : Dj mX0_answeredSums 29 (.goto (-25)) (-25) 32 4 := ⟨by decide +kernel, rfl, rfl⟩
theorem eX0_answeredSums_32 : Dn mX0_answeredSums 32 (.iload_n 2) 1 33 := ⟨by decide +kernel, rfl⟩
theorem eX0_answeredSums_33 : Dn mX0_answeredSums 33 (.ireturn) 1 34 := ⟨by decide +kernel, rfl⟩
theorem eX0_copiedChildren_0 : Dn mX0_copiedChildren 0 (.iconst 0) 1 1 := ⟨by decide +kernel, rfl⟩
theorem eX0_copiedChildren_1 : Dn mX0_copiedChildren 1 (.istore_n 1) 1 2 := ⟨by decide +kernel, rfl⟩
theorem eX0_copiedChildren_2 : Dn mX0_copiedChildren 2 (.iconst 0) 1 3 := ⟨by decide +kernel, rfl⟩
theorem eX0_copiedChildren_3 : Dn mX0_copiedChildren 3 (.istore_n 2) 1 4 := ⟨by decide +kernel, rfl⟩
theorem eX0_copiedChildren_4 : Dn mX0_copiedChildren 4 (.iload_n 2) 1 5 := ⟨by decide +kernel, rfl⟩
theorem eX0_copiedChildren_5 : Dn mX0_copiedChildren 5 (.aload_n 0) 1 6 := ⟨by decide +kernel, rfl⟩
theorem eX0_copiedChildren_6 : Dn mX0_copiedChildren 6 (.getfield 34) 3 9 := ⟨by decide +kernel, rfl⟩
theorem eX0_copiedChildren_9 : Dj mX0_copiedChildren 9 (.if_icmp .ge 27) (27) 12 36 := ⟨by decide +kernel, rfl, rfl⟩
theorem eX0_copiedChildren_12 : Dn mX0_copiedChildren 12 (.aload_n 0) 1 13 := ⟨by decide +kernel, rfl⟩
theorem eX0_copiedChildren_13 : Dn mX0_copiedChildren 13 (.iload_n 2) 1 14 := ⟨by decide +kernel, rfl⟩
theorem eX0_copiedChildren_14 : Dn mX0_copiedChildren 14 (.iconst 2) 1 15 := ⟨by decide +kernel, rfl⟩
theorem eX0_copiedChildren_15 : Dn mX0_copiedChildren 15 (.invokevirtual 59) 3 18 := ⟨by decide +kernel, rfl⟩
theorem eX0_copiedChildren_18 : Dn mX0_copiedChildren 18 (.istore_n 3) 1 19 := ⟨by decide +kernel, rfl⟩
theorem eX0_copiedChildren_19 : Dn mX0_copiedChildren 19 (.iload_n 3) 1 20 := ⟨by decide +kernel, rfl⟩
theorem eX0_copiedChildren_20 : Dn mX0_copiedChildren 20 (.iconst (-1)) 1 21 := ⟨by decide +kernel, rfl⟩
theorem eX0_copiedChildren_21 : Dj mX0_copiedChildren 21 (.if_icmp .eq 9) (9) 24 30 := ⟨by decide +kernel, rfl, rfl⟩
theorem eX0_copiedChildren_24 : Dn mX0_copiedChildren 24 (.iload_n 1) 1 25 := ⟨by decide +kernel, rfl⟩
theorem eX0_copiedChildren_25 : Dn mX0_copiedChildren 25 (.iconst 1) 1 26 := ⟨by decide +kernel, rfl⟩
theorem eX0_copiedChildren_26 : Dn mX0_copiedChildren 26 (.iload_n 3) 1 27 := ⟨by decide +kernel, rfl⟩
theorem eX0_copiedChildren_27 : Dn mX0_copiedChildren 27 (.ishl) 1 28 := ⟨by decide +kernel, rfl⟩
theorem eX0_copiedChildren_28 : Dn mX0_copiedChildren 28 (.ior) 1 29 := ⟨by decide +kernel, rfl⟩
theorem eX0_copiedChildren_29 : Dn mX0_copiedChildren 29 (.istore_n 1) 1 30 := ⟨by decide +kernel, rfl⟩
theorem eX0_copiedChildren_30 : Dn mX0_copiedChildren 30 (.iinc 2 1) 3 33 := ⟨by decide +kernel, rfl⟩
theorem eX0_copiedChildren_33 : Dj mX0_copiedChildren 33 (.goto (-29)) (-29) 36 4 := ⟨by decide +kernel, rfl, rfl⟩
theorem eX0_copiedChildren_36 : Dn mX0_copiedChildren 36 (.iload_n 1) 1 37 := ⟨by decide +kernel, rfl⟩
theorem eX0_copiedChildren_37 : Dn mX0_copiedChildren 37 (.ireturn) 1 38 := ⟨by decide +kernel, rfl⟩
theorem eX0_bestChildren_0 : Dn mX0_bestChildren 0 (.iconst 0) 1 1 := ⟨by decide +kernel, rfl⟩
theorem eX0_bestChildren_1 : Dn mX0_bestChildren 1 (.istore_n 1) 1 2 := ⟨by decide +kernel, rfl⟩
theorem eX0_bestChildren_2 : Dn mX0_bestChildren 2 (.iconst (-1)) 1 3 := ⟨by decide +kernel, rfl⟩
theorem eX0_bestChildren_3 : Dn mX0_bestChildren 3 (.istore_n 2) 1 4 := ⟨by decide +kernel, rfl⟩
theorem eX0_bestChildren_4 : Dn mX0_bestChildren 4 (.iconst 0) 1 5 := ⟨by decide +kernel, rfl⟩
theorem eX0_bestChildren_5 : Dn mX0_bestChildren 5 (.istore_n 3) 1 6 := ⟨by decide +kernel, rfl⟩
theorem eX0_bestChildren_6 : Dn mX0_bestChildren 6 (.iload_n 3) 1 7 := ⟨by decide +kernel, rfl⟩
theorem eX0_bestChildren_7 : Dn mX0_bestChildren 7 (.aload_n 0) 1 8 := ⟨by decide +kernel, rfl⟩
theorem eX0_bestChildren_8 : Dn mX0_bestChildren 8 (.getfield 34) 3 11 := ⟨by decide +kernel, rfl⟩
theorem eX0_bestChildren_11 : Dj mX0_bestChildren 11 (.if_icmp .ge 40) (40) 14 51 := ⟨by decide +kernel, rfl, rfl⟩
theorem eX0_bestChildren_14 : Dn mX0_bestChildren 14 (.aload_n 0) 1 15 := ⟨by decide +kernel, rfl⟩
theorem eX0_bestChildren_15 : Dn mX0_bestChildren 15 (.iload_n 3) 1 16 := ⟨by decide +kernel, rfl⟩
theorem eX0_bestChildren_16 : Dn mX0_bestChildren 16 (.iconst 3) 1 17 := ⟨by decide +kernel, rfl⟩
theorem eX0_bestChildren_17 : Dn mX0_bestChildren 17 (.invokevirtual 59) 3 20 := ⟨by decide +kernel, rfl⟩
theorem eX0_bestChildren_20 : Dn mX0_bestChildren 20 (.istore 4) 2 22 := ⟨by decide +kernel, rfl⟩
theorem eX0_bestChildren_22 : Dn mX0_bestChildren 22 (.iload 4) 2 24 := ⟨by decide +kernel, rfl⟩
theorem eX0_bestChildren_24 : Dn mX0_bestChildren 24 (.iload_n 2) 1 25 := ⟨by decide +kernel, rfl⟩
theorem eX0_bestChildren_25 : Dj mX0_bestChildren 25 (.if_icmp .le 8) (8) 28 33 := ⟨by decide +kernel, rfl, rfl⟩
theorem eX0_bestChildren_28 : Dn mX0_bestChildren 28 (.iload 4) 2 30 := ⟨by decide +kernel, rfl⟩
theorem eX0_bestChildren_30 : Dn mX0_bestChildren 30 (.istore_n 2) 1 31 := ⟨by decide +kernel, rfl⟩
theorem eX0_bestChildren_31 : Dn mX0_bestChildren 31 (.iconst 0) 1 32 := ⟨by decide +kernel, rfl⟩
theorem eX0_bestChildren_32 : Dn mX0_bestChildren 32 (.istore_n 1) 1 33 := ⟨by decide +kernel, rfl⟩
theorem eX0_bestChildren_33 : Dn mX0_bestChildren 33 (.iload 4) 2 35 := ⟨by decide +kernel, rfl⟩
theorem eX0_bestChildren_35 : Dn mX0_bestChildren 35 (.iload_n 2) 1 36 := ⟨by decide +kernel, rfl⟩
theorem eX0_bestChildren_36 : Dj mX0_bestChildren 36 (.if_icmp .ne 9) (9) 39 45 := ⟨by decide +kernel, rfl, rfl⟩
theorem eX0_bestChildren_39 : Dn mX0_bestChildren 39 (.iload_n 1) 1 40 := ⟨by decide +kernel, rfl⟩
theorem eX0_bestChildren_40 : Dn mX0_bestChildren 40 (.iconst 1) 1 41 := ⟨by decide +kernel, rfl⟩
theorem eX0_bestChildren_41 : Dn mX0_bestChildren 41 (.iload_n 3) 1 42 := ⟨by decide +kernel, rfl⟩
theorem eX0_bestChildren_42 : Dn mX0_bestChildren 42 (.ishl) 1 43 := ⟨by decide +kernel, rfl⟩
theorem eX0_bestChildren_43 : Dn mX0_bestChildren 43 (.ior) 1 44 := ⟨by decide +kernel, rfl⟩
theorem eX0_bestChildren_44 : Dn mX0_bestChildren 44 (.istore_n 1) 1 45 := ⟨by decide +kernel, rfl⟩
theorem eX0_bestChildren_45 : Dn mX0_bestChildren 45 (.iinc 3 1) 3 48 := ⟨by decide +kernel, rfl⟩
theorem eX0_bestChildren_48 : Dj mX0_bestChildren 48 (.goto (-42)) (-42) 51 6 := ⟨by decide +kernel, rfl, rfl⟩
theorem eX0_bestChildren_51 : Dn mX0_bestChildren 51 (.iload_n 1) 1 52 := ⟨by decide +kernel, rfl⟩
theorem eX0_bestChildren_52 : Dn mX0_bestChildren 52 (.ireturn) 1 53 := ⟨by decide +kernel, rfl⟩
theorem eX0_unknownSums_0 : Dn mX0_unknownSums 0 (.iconst 0) 1 1 := ⟨by decide +kernel, rfl⟩
theorem eX0_unknownSums_1 : Dn mX0_unknownSums 1 (.istore_n 1) 1 2 := ⟨by decide +kernel, rfl⟩
theorem eX0_unknownSums_2 : Dn mX0_unknownSums 2 (.iconst 0) 1 3 := ⟨by decide +kernel, rfl⟩
theorem eX0_unknownSums_3 : Dn mX0_unknownSums 3 (.istore_n 2) 1 4 := ⟨by decide +kernel, rfl⟩
theorem eX0_unknownSums_4 : Dn mX0_unknownSums 4 (.iload_n 2) 1 5 := ⟨by decide +kernel, rfl⟩
theorem eX0_unknownSums_5 : Dn mX0_unknownSums 5 (.aload_n 0) 1 6 := ⟨by decide +kernel, rfl⟩
theorem eX0_unknownSums_6 : Dn mX0_unknownSums 6 (.getfield 34) 3 9 := ⟨by decide +kernel, rfl⟩
theorem eX0_unknownSums_9 : Dj mX0_unknownSums 9 (.if_icmp .ge 18) (18) 12 27 := ⟨by decide +kernel, rfl, rfl⟩
theorem eX0_unknownSums_12 : Dn mX0_unknownSums 12 (.iload_n 1) 1 13 := ⟨by decide +kernel, rfl⟩
theorem eX0_unknownSums_13 : Dn mX0_unknownSums 13 (.aload_n 0) 1 14 := ⟨by decide +kernel, rfl⟩
theorem eX0_unknownSums_14 : Dn mX0_unknownSums 14 (.iload_n 2) 1 15 := ⟨by decide +kernel, rfl⟩
theorem eX0_unknownSums_15 : Dn mX0_unknownSums 15 (.iconst 1) 1 16 := ⟨by decide +kernel, rfl⟩
theorem eX0_unknownSums_16 : Dn mX0_unknownSums 16 (.invokevirtual 59) 3 19 := ⟨by decide +kernel, rfl⟩
theorem eX0_unknownSums_19 : Dn mX0_unknownSums 19 (.ior) 1 20 := ⟨by decide +kernel, rfl⟩
theorem eX0_unknownSums_20 : Dn mX0_unknownSums 20 (.istore_n 1) 1 21 := ⟨by decide +kernel, rfl⟩
theorem eX0_unknownSums_21 : Dn mX0_unknownSums 21 (.iinc 2 1) 3 24 := ⟨by decide +kernel, rfl⟩
theorem eX0_unknownSums_24 : Dj mX0_unknownSums 24 (.goto (-20)) (-20) 27 4 := ⟨by decide +kernel, rfl, rfl⟩
theorem eX0_unknownSums_27 : Dn mX0_unknownSums 27 (.sipush 255) 3 30 := ⟨by decide +kernel, rfl⟩
theorem eX0_unknownSums_30 : Dn mX0_unknownSums 30 (.iload_n 1) 1 31 := ⟨by decide +kernel, rfl⟩
theorem eX0_unknownSums_31 : Dn mX0_unknownSums 31 (.iconst (-1)) 1 32 := ⟨by decide +kernel, rfl⟩
theorem eX0_unknownSums_32 : Dn mX0_unknownSums 32 (.ixor) 1 33 := ⟨by decide +kernel, rfl⟩
theorem eX0_unknownSums_33 : Dn mX0_unknownSums 33 (.iand) 1 34 := ⟨by decide +kernel, rfl⟩
theorem eX0_unknownSums_34 : Dn mX0_unknownSums 34 (.ireturn) 1 35 := ⟨by decide +kernel, rfl⟩
theorem eX0_chainLength_0 : Dn mX0_chainLength 0 (.iload_n 1) 1 1 := ⟨by decide +kernel, rfl⟩
theorem eX0_chainLength_1 : Dn mX0_chainLength 1 (.istore_n 2) 1 2 := ⟨by decide +kernel, rfl⟩
theorem eX0_chainLength_2 : Dn mX0_chainLength 2 (.iconst 0) 1 3 := ⟨by decide +kernel, rfl⟩
theorem eX0_chainLength_3 : Dn mX0_chainLength 3 (.istore_n 3) 1 4 := ⟨by decide +kernel, rfl⟩
theorem eX0_chainLength_4 : Dn mX0_chainLength 4 (.iload_n 3) 1 5 := ⟨by decide +kernel, rfl⟩
theorem eX0_chainLength_5 : Dn mX0_chainLength 5 (.bipush 8) 2 7 := ⟨by decide +kernel, rfl⟩
theorem eX0_chainLength_7 : Dj mX0_chainLength 7 (.if_icmp .ge 31) (31) 10 38 := ⟨by decide +kernel, rfl, rfl⟩
theorem eX0_chainLength_10 : Dn mX0_chainLength 10 (.aload_n 0) 1 11 := ⟨by decide +kernel, rfl⟩
theorem eX0_chainLength_11 : Dn mX0_chainLength 11 (.iload_n 2) 1 12 := ⟨by decide +kernel, rfl⟩
theorem eX0_chainLength_12 : Dn mX0_chainLength 12 (.iconst 2) 1 13 := ⟨by decide +kernel, rfl⟩
theorem eX0_chainLength_13 : Dn mX0_chainLength 13 (.invokevirtual 59) 3 16 := ⟨by decide +kernel, rfl⟩
theorem eX0_chainLength_16 : Dn mX0_chainLength 16 (.istore 4) 2 18 := ⟨by decide +kernel, rfl⟩
theorem eX0_chainLength_18 : Dn mX0_chainLength 18 (.aload_n 0) 1 19 := ⟨by decide +kernel, rfl⟩
theorem eX0_chainLength_19 : Dn mX0_chainLength 19 (.iload 4) 2 21 := ⟨by decide +kernel, rfl⟩
theorem eX0_chainLength_21 : Dn mX0_chainLength 21 (.invokevirtual 97) 3 24 := ⟨by decide +kernel, rfl⟩
theorem eX0_chainLength_24 : Dj mX0_chainLength 24 (.ifCond .ne 5) (5) 27 29 := ⟨by decide +kernel, rfl, rfl⟩
theorem eX0_chainLength_27 : Dn mX0_chainLength 27 (.iload_n 3) 1 28 := ⟨by decide +kernel, rfl⟩
theorem eX0_chainLength_28 : Dn mX0_chainLength 28 (.ireturn) 1 29 := ⟨by decide +kernel, rfl⟩
theorem eX0_chainLength_29 : Dn mX0_chainLength 29 (.iload 4) 2 31 := ⟨by decide +kernel, rfl⟩
theorem eX0_chainLength_31 : Dn mX0_chainLength 31 (.istore_n 2) 1 32 := ⟨by decide +kernel, rfl⟩
theorem eX0_chainLength_32 : Dn mX0_chainLength 32 (.iinc 3 1) 3 35 := ⟨by decide +kernel, rfl⟩
theorem eX0_chainLength_35 : Dj mX0_chainLength 35 (.goto (-31)) (-31) 38 4 := ⟨by decide +kernel, rfl, rfl⟩
theorem eX0_chainLength_38 : Dn mX0_chainLength 38 (.bipush 8) 2 40 := ⟨by decide +kernel, rfl⟩
theorem eX0_chainLength_40 : Dn mX0_chainLength 40 (.ireturn) 1 41 := ⟨by decide +kernel, rfl⟩
theorem eX0_takenSpots_0 : Dn mX0_takenSpots 0 (.iconst 0) 1 1 := ⟨by decide +kernel, rfl⟩
theorem eX0_takenSpots_1 : Dn mX0_takenSpots 1 (.istore_n 1) 1 2 := ⟨by decide +kernel, rfl⟩
theorem eX0_takenSpots_2 : Dn mX0_takenSpots 2 (.iconst 0) 1 3 := ⟨by decide +kernel, rfl⟩
theorem eX0_takenSpots_3 : Dn mX0_takenSpots 3 (.istore_n 2) 1 4 := ⟨by decide +kernel, rfl⟩
theorem eX0_takenSpots_4 : Dn mX0_takenSpots 4 (.iload_n 2) 1 5 := ⟨by decide +kernel, rfl⟩
theorem eX0_takenSpots_5 : Dn mX0_takenSpots 5 (.bipush 10) 2 7 := ⟨by decide +kernel, rfl⟩
theorem eX0_takenSpots_7 : Dj mX0_takenSpots 7 (.if_icmp .ge 22) (22) 10 29 := ⟨by decide +kernel, rfl, rfl⟩
theorem eX0_takenSpots_10 : Dn mX0_takenSpots 10 (.aload_n 0) 1 11 := ⟨by decide +kernel, rfl⟩
theorem eX0_takenSpots_11 : Dn mX0_takenSpots 11 (.getfield 21) 3 14 := ⟨by decide +kernel, rfl⟩
theorem eX0_takenSpots_14 : Dn mX0_takenSpots 14 (.iload_n 2) 1 15 := ⟨by decide +kernel, rfl⟩
theorem eX0_takenSpots_15 : Dn mX0_takenSpots 15 (.iaload) 1 16 := ⟨by decide +kernel, rfl⟩
theorem eX0_takenSpots_16 : Dn mX0_takenSpots 16 (.iconst (-1)) 1 17 := ⟨by decide +kernel, rfl⟩
theorem eX0_takenSpots_17 : Dj mX0_takenSpots 17 (.if_icmp .eq 6) (6) 20 23 := ⟨by decide +kernel, rfl, rfl⟩
theorem eX0_takenSpots_20 : Dn mX0_takenSpots 20 (.iinc 1 1) 3 23 := ⟨by decide +kernel, rfl⟩
theorem eX0_takenSpots_23 : Dn mX0_takenSpots 23 (.iinc 2 1) 3 26 := ⟨by decide +kernel, rfl⟩
theorem eX0_takenSpots_26 : Dj mX0_takenSpots 26 (.goto (-22)) (-22) 29 4 := ⟨by decide +kernel, rfl, rfl⟩
theorem eX0_takenSpots_29 : Dn mX0_takenSpots 29 (.iload_n 1) 1 30 := ⟨by decide +kernel, rfl⟩
theorem eX0_takenSpots_30 : Dn mX0_takenSpots 30 (.ireturn) 1 31 := ⟨by decide +kernel, rfl⟩
theorem eX1_init_0 : Dn mX1_init 0 (.aload_n 0) 1 1 := ⟨by decide +kernel, rfl⟩
theorem eX1_init_1 : Dn mX1_init 1 (.invokespecial 3) 3 4 := ⟨by decide +kernel, rfl⟩
theorem eX1_init_4 : Dn mX1_init 4 (.aload_n 0) 1 5 := ⟨by decide +kernel, rfl⟩
theorem eX1_init_5 : Dn mX1_init 5 (.bipush 40) 2 7 := ⟨by decide +kernel, rfl⟩
theorem eX1_init_7 : Dn mX1_init 7 (.newarray .int) 2 9 := ⟨by decide +kernel, rfl⟩
theorem eX1_init_9 : Dn mX1_init 9 (.putfield 9) 3 12 := ⟨by decide +kernel, rfl⟩
theorem eX1_init_12 : Dn mX1_init 12 (.aload_n 0) 1 13 := ⟨by decide +kernel, rfl⟩
theorem eX1_init_13 : Dn mX1_init 13 (.iconst 0) 1 14 := ⟨by decide +kernel, rfl⟩
theorem eX1_init_14 : Dn mX1_init 14 (.putfield 15) 3 17 := ⟨by decide +kernel, rfl⟩
theorem eX1_init_17 : Dn mX1_init 17 (.aload_n 0) 1 18 := ⟨by decide +kernel, rfl⟩
theorem eX1_init_18 : Dn mX1_init 18 (.iconst 0) 1 19 := ⟨by decide +kernel, rfl⟩
theorem eX1_init_19 : Dn mX1_init 19 (.putfield 19) 3 22 := ⟨by decide +kernel, rfl⟩
theorem eX1_init_22 : Dn mX1_init 22 (.return_) 1 23 := ⟨by decide +kernel, rfl⟩
theorem eX1_isMissing_0 : Dn mX1_isMissing 0 (.aload_n 0) 1 1 := ⟨by decide +kernel, rfl⟩
theorem eX1_isMissing_1 : Dn mX1_isMissing 1 (.getfield 15) 3 4 := ⟨by decide +kernel, rfl⟩
theorem eX1_isMissing_4 : Dj mX1_isMissing 4 (.ifCond .ne 7) (7) 7 11 := ⟨by decide +kernel, rfl, rfl⟩
theorem eX1_isMissing_7 : Dn mX1_isMissing 7 (.iconst 1) 1 8 := ⟨by decide +kernel, rfl⟩
theorem eX1_isMissing_8 : Dj mX1_isMissing 8 (.goto 4) (4) 11 12 := ⟨by decide +kernel, rfl, rfl⟩
theorem eX1_isMissing_11 : Dn mX1_isMissing 11 (.iconst 0) 1 12 := ⟨by decide +kernel, rfl⟩
theorem eX1_isMissing_12 : Dn mX1_isMissing 12 (.ireturn) 1 13 := ⟨by decide +kernel, rfl⟩
theorem eX1_renew_0 : Dn mX1_renew 0 (.aload_n 0) 1 1 := ⟨by decide +kernel, rfl⟩
theorem eX1_renew_1 : Dn mX1_renew 1 (.iload_n 1) 1 2 := ⟨by decide +kernel, rfl⟩
theorem eX1_renew_2 : Dn mX1_renew 2 (.putfield 15) 3 5 := ⟨by decide +kernel, rfl⟩
theorem eX1_renew_5 : Dn mX1_renew 5 (.aload_n 0) 1 6 := ⟨by decide +kernel, rfl⟩
theorem eX1_renew_6 : Dn mX1_renew 6 (.iload_n 2) 1 7 := ⟨by decide +kernel, rfl⟩
theorem eX1_renew_7 : Dn mX1_renew 7 (.putfield 19) 3 10 := ⟨by decide +kernel, rfl⟩
theorem eX1_renew_10 : Dn mX1_renew 10 (.aload_n 0) 1 11 := ⟨by decide +kernel, rfl⟩
theorem eX1_renew_11 : Dn mX1_renew 11 (.getfield 9) 3 14 := ⟨by decide +kernel, rfl⟩
theorem eX1_renew_14 : Dn mX1_renew 14 (.iconst 0) 1 15 := ⟨by decide +kernel, rfl⟩
theorem eX1_renew_15 : Dn mX1_renew 15 (.invokestatic 22) 3 18 := ⟨by decide +kernel, rfl⟩
theorem eX1_renew_18 : Dn mX1_renew 18 (.return_) 1 19 := ⟨by decide +kernel, rfl⟩
theorem eX1_put_0 : Dn mX1_put 0 (.aload_n 0) 1 1 := ⟨by decide +kernel, rfl⟩
theorem eX1_put_1 : Dn mX1_put 1 (.getfield 15) 3 4 := ⟨by decide +kernel, rfl⟩
theorem eX1_put_4 : Dn mX1_put 4 (.lookupswitch 50 #[(8, 28), (16, 39)]) 28 32 := ⟨by decide +kernel, rfl⟩
theorem eX1_put_32 : Dn mX1_put 32 (.aload_n 0) 1 33 := ⟨by decide +kernel, rfl⟩
theorem eX1_put_33 : Dn mX1_put 33 (.getfield 9) 3 36 := ⟨by decide +kernel, rfl⟩
theorem eX1_put_36 : Dn mX1_put 36 (.iload_n 1) 1 37 := ⟨by decide +kernel, rfl⟩
theorem eX1_put_37 : Dn mX1_put 37 (.iload_n 2) 1 38 := ⟨by decide +kernel, rfl⟩
theorem eX1_put_38 : Dn mX1_put 38 (.i2b) 1 39 := ⟨by decide +kernel, rfl⟩
theorem eX1_put_39 : Dn mX1_put 39 (.iastore) 1 40 := ⟨by decide +kernel, rfl⟩
theorem eX1_put_40 : Dj mX1_put 40 (.goto 21) (21) 43 61 := ⟨by decide +kernel, rfl, rfl⟩
theorem eX1_put_43 : Dn mX1_put 43 (.aload_n 0) 1 44 := ⟨by decide +kernel, rfl⟩
theorem eX1_put_44 : Dn mX1_put 44 (.getfield 9) 3 47 := ⟨by decide +kernel, rfl⟩
theorem eX1_put_47 : Dn mX1_put 47 (.iload_n 1) 1 48 := ⟨by decide +kernel, rfl⟩
theorem eX1_put_48 : Dn mX1_put 48 (.iload_n 2) 1 49 := ⟨by decide +kernel, rfl⟩
theorem eX1_put_49 : Dn mX1_put 49 (.i2s) 1 50 := ⟨by decide +kernel, rfl⟩
theorem eX1_put_50 : Dn mX1_put 50 (.iastore) 1 51 := ⟨by decide +kernel, rfl⟩
theorem eX1_put_51 : Dj mX1_put 51 (.goto 10) (10) 54 61 := ⟨by decide +kernel, rfl, rfl⟩
theorem eX1_put_54 : Dn mX1_put 54 (.aload_n 0) 1 55 := ⟨by decide +kernel, rfl⟩
theorem eX1_put_55 : Dn mX1_put 55 (.getfield 9) 3 58 := ⟨by decide +kernel, rfl⟩
theorem eX1_put_58 : Dn mX1_put 58 (.iload_n 1) 1 59 := ⟨by decide +kernel, rfl⟩
theorem eX1_put_59 : Dn mX1_put 59 (.iload_n 2) 1 60 := ⟨by decide +kernel, rfl⟩
theorem eX1_put_60 : Dn mX1_put 60 (.iastore) 1 61 := ⟨by decide +kernel, rfl⟩
theorem eX1_put_61 : Dn mX1_put 61 (.return_) 1 62 := ⟨by decide +kernel, rfl⟩
theorem eX1_hasPart_0 : Dn mX1_hasPart 0 (.iload_n 1) 1 1 := ⟨by decide +kernel, rfl⟩
theorem eX1_hasPart_1 : Dj mX1_hasPart 1 (.ifCond .lt 21) (21) 4 22 := ⟨by decide +kernel, rfl, rfl⟩
theorem eX1_hasPart_4 : Dn mX1_hasPart 4 (.iload_n 2) 1 5 := ⟨by decide +kernel, rfl⟩
theorem eX1_hasPart_5 : Dj mX1_hasPart 5 (.ifCond .lt 17) (17) 8 22 := ⟨by decide +kernel, rfl, rfl⟩
theorem eX1_hasPart_8 : Dn mX1_hasPart 8 (.iload_n 1) 1 9 := ⟨by decide +kernel, rfl⟩
theorem eX1_hasPart_9 : Dn mX1_hasPart 9 (.aload_n 0) 1 10 := ⟨by decide +kernel, rfl⟩
theorem eX1_hasPart_10 : Dn mX1_hasPart 10 (.getfield 19) 3 13 := ⟨by decide +kernel, rfl⟩
theorem eX1_hasPart_13 : Dn mX1_hasPart 13 (.iload_n 2) 1 14 := ⟨by decide +kernel, rfl⟩
theorem eX1_hasPart_14 : Dn mX1_hasPart 14 (.isub) 1 15 := ⟨by decide +kernel, rfl⟩
theorem eX1_hasPart_15 : Dj mX1_hasPart 15 (.if_icmp .gt 7) (7) 18 22 := ⟨by decide +kernel, rfl, rfl⟩
theorem eX1_hasPart_18 : Dn mX1_hasPart 18 (.iconst 1) 1 19 := ⟨by decide +kernel, rfl⟩
theorem eX1_hasPart_19 : Dj mX1_hasPart 19 (.goto 4) (4) 22 23 := ⟨by decide +kernel, rfl, rfl⟩
theorem eX1_hasPart_22 : Dn mX1_hasPart 22 (.iconst 0) 1 23 := ⟨by decide +kernel, rfl⟩
theorem eX1_hasPart_23 : Dn mX1_hasPart 23 (.ireturn) 1 24 := ⟨by decide +kernel, rfl⟩
theorem eX1_allows_0 : Dn mX1_allows 0 (.iload_n 1) 1 1 := ⟨by decide +kernel, rfl⟩
theorem eX1_allows_1 : Dn mX1_allows 1 (.aload_n 0) 1 2 := ⟨by decide +kernel, rfl⟩
theorem eX1_allows_2 : Dn mX1_allows 2 (.getfield 19) 3 5 := ⟨by decide +kernel, rfl⟩
theorem eX1_allows_5 : Dj mX1_allows 5 (.if_icmp .ge 24) (24) 8 29 := ⟨by decide +kernel, rfl, rfl⟩
theorem eX1_allows_8 : Dn mX1_allows 8 (.aload_n 0) 1 9 := ⟨by decide +kernel, rfl⟩
theorem eX1_allows_9 : Dn mX1_allows 9 (.getfield 9) 3 12 := ⟨by decide +kernel, rfl⟩
theorem eX1_allows_12 : Dn mX1_allows 12 (.iload_n 1) 1 13 := ⟨by decide +kernel, rfl⟩
theorem eX1_allows_13 : Dn mX1_allows 13 (.iaload) 1 14 := ⟨by decide +kernel, rfl⟩
theorem eX1_allows_14 : Dn mX1_allows 14 (.bipush (-2)) 2 16 := ⟨by decide +kernel, rfl⟩
theorem eX1_allows_16 : Dj mX1_allows 16 (.if_icmp .eq 13) (13) 19 29 := ⟨by decide +kernel, rfl, rfl⟩
theorem eX1_allows_19 : Dn mX1_allows 19 (.aload_n 0) 1 20 := ⟨by decide +kernel, rfl⟩
theorem eX1_allows_20 : Dn mX1_allows 20 (.getfield 9) 3 23 := ⟨by decide +kernel, rfl⟩
theorem eX1_allows_23 : Dn mX1_allows 23 (.iload_n 1) 1 24 := ⟨by decide +kernel, rfl⟩
theorem eX1_allows_24 : Dn mX1_allows 24 (.iaload) 1 25 := ⟨by decide +kernel, rfl⟩
theorem eX1_allows_25 : Dn mX1_allows 25 (.iload_n 2) 1 26 := ⟨by decide +kernel, rfl⟩
theorem eX1_allows_26 : Dj mX1_allows 26 (.if_icmp .ne 7) (7) 29 33 := ⟨by decide +kernel, rfl, rfl⟩
theorem eX1_allows_29 : Dn mX1_allows 29 (.iconst 1) 1 30 := ⟨by decide +kernel, rfl⟩
theorem eX1_allows_30 : Dj mX1_allows 30 (.goto 4) (4) 33 34 := ⟨by decide +kernel, rfl, rfl⟩
theorem eX1_allows_33 : Dn mX1_allows 33 (.iconst 0) 1 34 := ⟨by decide +kernel, rfl⟩
theorem eX1_allows_34 : Dn mX1_allows 34 (.ireturn) 1 35 := ⟨by decide +kernel, rfl⟩
theorem eX2_init_0 : Dn mX2_init 0 (.aload_n 0) 1 1 := ⟨by decide +kernel, rfl⟩
theorem eX2_init_1 : Dn mX2_init 1 (.invokespecial 3) 3 4 := ⟨by decide +kernel, rfl⟩
theorem eX2_init_4 : Dn mX2_init 4 (.aload_n 0) 1 5 := ⟨by decide +kernel, rfl⟩
theorem eX2_init_5 : Dn mX2_init 5 (.bipush 120) 2 7 := ⟨by decide +kernel, rfl⟩
theorem eX2_init_7 : Dn mX2_init 7 (.newarray .byte) 2 9 := ⟨by decide +kernel, rfl⟩
theorem eX2_init_9 : Dn mX2_init 9 (.putfield 9) 3 12 := ⟨by decide +kernel, rfl⟩
theorem eX2_init_12 : Dn mX2_init 12 (.aload_n 0) 1 13 := ⟨by decide +kernel, rfl⟩
theorem eX2_init_13 : Dn mX2_init 13 (.iconst 0) 1 14 := ⟨by decide +kernel, rfl⟩
theorem eX2_init_14 : Dn mX2_init 14 (.putfield 15) 3 17 := ⟨by decide +kernel, rfl⟩
theorem eX2_init_17 : Dn mX2_init 17 (.aload_n 0) 1 18 := ⟨by decide +kernel, rfl⟩
theorem eX2_init_18 : Dn mX2_init 18 (.iconst 0) 1 19 := ⟨by decide +kernel, rfl⟩
theorem eX2_init_19 : Dn mX2_init 19 (.putfield 19) 3 22 := ⟨by decide +kernel, rfl⟩
theorem eX2_init_22 : Dn mX2_init 22 (.aload_n 0) 1 23 := ⟨by decide +kernel, rfl⟩
theorem eX2_init_23 : Dn mX2_init 23 (.iconst 0) 1 24 := ⟨by decide +kernel, rfl⟩
theorem eX2_init_24 : Dn mX2_init 24 (.putfield 22) 3 27 := ⟨by decide +kernel, rfl⟩
theorem eX2_init_27 : Dn mX2_init 27 (.aload_n 0) 1 28 := ⟨by decide +kernel, rfl⟩
theorem eX2_init_28 : Dn mX2_init 28 (.iconst 0) 1 29 := ⟨by decide +kernel, rfl⟩
theorem eX2_init_29 : Dn mX2_init 29 (.putfield 25) 3 32 := ⟨by decide +kernel, rfl⟩
theorem eX2_init_32 : Dn mX2_init 32 (.aload_n 0) 1 33 := ⟨by decide +kernel, rfl⟩
theorem eX2_init_33 : Dn mX2_init 33 (.lconst 0) 1 34 := ⟨by decide +kernel, rfl⟩
theorem eX2_init_34 : Dn mX2_init 34 (.putfield 28) 3 37 := ⟨by decide +kernel, rfl⟩
theorem eX2_init_37 : Dn mX2_init 37 (.aload_n 0) 1 38 := ⟨by decide +kernel, rfl⟩
theorem eX2_init_38 : Dn mX2_init 38 (.iconst (-1)) 1 39 := ⟨by decide +kernel, rfl⟩
theorem eX2_init_39 : Dn mX2_init 39 (.putfield 32) 3 42 := ⟨by decide +kernel, rfl⟩
theorem eX2_init_42 : Dn mX2_init 42 (.return_) 1 43 := ⟨by decide +kernel, rfl⟩
theorem eX2_append_0 : Dn mX2_append 0 (.aload_n 0) 1 1 := ⟨by decide +kernel, rfl⟩
theorem eX2_append_1 : Dn mX2_append 1 (.getfield 9) 3 4 := ⟨by decide +kernel, rfl⟩
theorem eX2_append_4 : Dn mX2_append 4 (.aload_n 0) 1 5 := ⟨by decide +kernel, rfl⟩
theorem eX2_append_5 : Dn mX2_append 5 (.getfield 15) 3 8 := ⟨by decide +kernel, rfl⟩
theorem eX2_append_8 : Dn mX2_append 8 (.iload_n 1) 1 9 := ⟨by decide +kernel, rfl⟩
theorem eX2_append_9 : Dn mX2_append 9 (.i2b) 1 10 := ⟨by decide +kernel, rfl⟩
theorem eX2_append_10 : Dn mX2_append 10 (.bastore) 1 11 := ⟨by decide +kernel, rfl⟩
theorem eX2_append_11 : Dn mX2_append 11 (.aload_n 0) 1 12 := ⟨by decide +kernel, rfl⟩
theorem eX2_append_12 : Dn mX2_append 12 (.dup) 1 13 := ⟨by decide +kernel, rfl⟩
theorem eX2_append_13 : Dn mX2_append 13 (.getfield 15) 3 16 := ⟨by decide +kernel, rfl⟩
theorem eX2_append_16 : Dn mX2_append 16 (.iconst 1) 1 17 := ⟨by decide +kernel, rfl⟩
theorem eX2_append_17 : Dn mX2_append 17 (.iadd) 1 18 := ⟨by decide +kernel, rfl⟩
theorem eX2_append_18 : Dn mX2_append 18 (.putfield 15) 3 21 := ⟨by decide +kernel, rfl⟩
theorem eX2_append_21 : Dn mX2_append 21 (.return_) 1 22 := ⟨by decide +kernel, rfl⟩
theorem eX2_readInto_0 : Dn mX2_readInto 0 (.aload_n 0) 1 1 := ⟨by decide +kernel, rfl⟩
theorem eX2_readInto_1 : Dn mX2_readInto 1 (.iconst 0) 1 2 := ⟨by decide +kernel, rfl⟩
theorem eX2_readInto_2 : Dn mX2_readInto 2 (.putfield 22) 3 5 := ⟨by decide +kernel, rfl⟩
theorem eX2_readInto_5 : Dn mX2_readInto 5 (.aload_n 0) 1 6 := ⟨by decide +kernel, rfl⟩
theorem eX2_readInto_6 : Dn mX2_readInto 6 (.invokevirtual 35) 3 9 := ⟨by decide +kernel, rfl⟩
theorem eX2_readInto_9 : Dn mX2_readInto 9 (.iconst 1) 1 10 := ⟨by decide +kernel, rfl⟩
theorem eX2_readInto_10 : Dn mX2_readInto 10 (.istore_n 2) 1 11 := ⟨by decide +kernel, rfl⟩
theorem eX2_readInto_11 : Dn mX2_readInto 11 (.iload_n 2) 1 12 := ⟨by decide +kernel, rfl⟩
theorem eX2_readInto_12 : Dn mX2_readInto 12 (.bipush 121) 2 14 := ⟨by decide +kernel, rfl⟩
theorem eX2_readInto_14 : Dj mX2_readInto 14 (.if_icmp .gt 52) (52) 17 66 := ⟨by decide +kernel, rfl, rfl⟩
theorem eX2_readInto_17 : Dn mX2_readInto 17 (.aload_n 0) 1 18 := ⟨by decide +kernel, rfl⟩
theorem eX2_readInto_18 : Dn mX2_readInto 18 (.aload_n 1) 1 19 := ⟨by decide +kernel, rfl⟩
theorem eX2_readInto_19 : Dn mX2_readInto 19 (.invokevirtual 38) 3 22 := ⟨by decide +kernel, rfl⟩
theorem eX2_readInto_22 : Dj mX2_readInto 22 (.ifCond .ne 10) (10) 25 32 := ⟨by decide +kernel, rfl, rfl⟩
theorem eX2_readInto_25 : Dn mX2_readInto 25 (.iconst (-1)) 1 26 := ⟨by decide +kernel, rfl⟩
theorem eX2_readInto_26 : Dn mX2_readInto 26 (.aload_n 0) 1 27 := ⟨by decide +kernel, rfl⟩
theorem eX2_readInto_27 : Dn mX2_readInto 27 (.getfield 19) 3 30 := ⟨by decide +kernel, rfl⟩
theorem eX2_readInto_30 : Dn mX2_readInto 30 (.isub) 1 31 := ⟨by decide +kernel, rfl⟩
theorem eX2_readInto_31 : Dn mX2_readInto 31 (.ireturn) 1 32 := ⟨by decide +kernel, rfl⟩
theorem eX2_readInto_32 : Dn mX2_readInto 32 (.aload_n 0) 1 33 := ⟨by decide +kernel, rfl⟩
theorem eX2_readInto_33 : Dn mX2_readInto 33 (.getfield 25) 3 36 := ⟨by decide +kernel, rfl⟩
theorem eX2_readInto_36 : Dj mX2_readInto 36 (.ifCond .ne 5) (5) 39 41 := ⟨by decide +kernel, rfl, rfl⟩
theorem eX2_readInto_39 : Dn mX2_readInto 39 (.iload_n 2) 1 40 := ⟨by decide +kernel, rfl⟩
theorem eX2_readInto_40 : Dn mX2_readInto 40 (.ireturn) 1 41 := ⟨by decide +kernel, rfl⟩
theorem eX2_readInto_41 : Dn mX2_readInto 41 (.aload_n 0) 1 42 := ⟨by decide +kernel, rfl⟩
theorem eX2_readInto_42 : Dn mX2_readInto 42 (.getfield 25) 3 45 := ⟨by decide +kernel, rfl⟩
theorem eX2_readInto_45 : Dn mX2_readInto 45 (.iconst 3) 1 46 := ⟨by decide +kernel, rfl⟩
theorem eX2_readInto_46 : Dj mX2_readInto 46 (.if_icmp .eq 10) (10) 49 56 := ⟨by decide +kernel, rfl, rfl⟩
theorem eX2_readInto_49 : Dn mX2_readInto 49 (.iconst (-1)) 1 50 := ⟨by decide +kernel, rfl⟩
theorem eX2_readInto_50 : Dn mX2_readInto 50 (.aload_n 0) 1 51 := ⟨by decide +kernel, rfl⟩
theorem eX2_readInto_51 : Dn mX2_readInto 51 (.getfield 19) 3 54 := ⟨by decide +kernel, rfl⟩
theorem eX2_readInto_54 : Dn mX2_readInto 54 (.isub) 1 55 := ⟨by decide +kernel, rfl⟩
theorem eX2_readInto_55 : Dn mX2_readInto 55 (.ireturn) 1 56 := ⟨by decide +kernel, rfl⟩
theorem eX2_readInto_56 : Dn mX2_readInto 56 (.aload_n 0) 1 57 := ⟨by decide +kernel, rfl⟩
theorem eX2_readInto_57 : Dn mX2_readInto 57 (.invokevirtual 35) 3 60 := ⟨by decide +kernel, rfl⟩
theorem eX2_readInto_60 : Dn mX2_readInto 60 (.iinc 2 1) 3 63 := ⟨by decide +kernel, rfl⟩
theorem eX2_readInto_63 : Dj mX2_readInto 63 (.goto (-52)) (-52) 66 11 := ⟨by decide +kernel, rfl, rfl⟩
theorem eX2_readInto_66 : Dn mX2_readInto 66 (.iconst (-1)) 1 67 := ⟨by decide +kernel, rfl⟩
theorem eX2_readInto_67 : Dn mX2_readInto 67 (.aload_n 0) 1 68 := ⟨by decide +kernel, rfl⟩
theorem eX2_readInto_68 : Dn mX2_readInto 68 (.getfield 19) 3 71 := ⟨by decide +kernel, rfl⟩
theorem eX2_readInto_71 : Dn mX2_readInto 71 (.isub) 1 72 := ⟨by decide +kernel, rfl⟩
theorem eX2_readInto_72 : Dn mX2_readInto 72 (.ireturn) 1 73 := ⟨by decide +kernel, rfl⟩
theorem eX2_readItem_0 : Dn mX2_readItem 0 (.aload_n 0) 1 1 := ⟨by decide +kernel, rfl⟩
theorem eX2_readItem_1 : Dn mX2_readItem 1 (.getfield 28) 3 4 := ⟨by decide +kernel, rfl⟩
theorem eX2_readItem_4 : Dn mX2_readItem 4 (.ldc2_w 42) 3 7 := ⟨by decide +kernel, rfl⟩
theorem eX2_readItem_7 : Dn mX2_readItem 7 (.lcmp) 1 8 := ⟨by decide +kernel, rfl⟩
theorem eX2_readItem_8 : Dj mX2_readItem 8 (.ifCond .ne 9) (9) 11 17 := ⟨by decide +kernel, rfl, rfl⟩
theorem eX2_readItem_11 : Dn mX2_readItem 11 (.aload_n 0) 1 12 := ⟨by decide +kernel, rfl⟩
theorem eX2_readItem_12 : Dn mX2_readItem 12 (.aload_n 1) 1 13 := ⟨by decide +kernel, rfl⟩
theorem eX2_readItem_13 : Dn mX2_readItem 13 (.invokevirtual 44) 3 16 := ⟨by decide +kernel, rfl⟩
theorem eX2_readItem_16 : Dn mX2_readItem 16 (.ireturn) 1 17 := ⟨by decide +kernel, rfl⟩
theorem eX2_readItem_17 : Dn mX2_readItem 17 (.aload_n 0) 1 18 := ⟨by decide +kernel, rfl⟩
theorem eX2_readItem_18 : Dn mX2_readItem 18 (.getfield 28) 3 21 := ⟨by decide +kernel, rfl⟩
theorem eX2_readItem_21 : Dn mX2_readItem 21 (.ldc2_w 47) 3 24 := ⟨by decide +kernel, rfl⟩
theorem eX2_readItem_24 : Dn mX2_readItem 24 (.lcmp) 1 25 := ⟨by decide +kernel, rfl⟩
theorem eX2_readItem_25 : Dj mX2_readItem 25 (.ifCond .ne 9) (9) 28 34 := ⟨by decide +kernel, rfl, rfl⟩
theorem eX2_readItem_28 : Dn mX2_readItem 28 (.aload_n 0) 1 29 := ⟨by decide +kernel, rfl⟩
theorem eX2_readItem_29 : Dn mX2_readItem 29 (.aload_n 1) 1 30 := ⟨by decide +kernel, rfl⟩
theorem eX2_readItem_30 : Dn mX2_readItem 30 (.invokevirtual 49) 3 33 := ⟨by decide +kernel, rfl⟩
theorem eX2_readItem_33 : Dn mX2_readItem 33 (.ireturn) 1 34 := ⟨by decide +kernel, rfl⟩
theorem eX2_readItem_34 : Dn mX2_readItem 34 (.iconst 0) 1 35 := ⟨by decide +kernel, rfl⟩
theorem eX2_readItem_35 : Dn mX2_readItem 35 (.istore_n 2) 1 36 := ⟨by decide +kernel, rfl⟩
theorem eX2_readItem_36 : Dn mX2_readItem 36 (.iload_n 2) 1 37 := ⟨by decide +kernel, rfl⟩
theorem eX2_readItem_37 : Dn mX2_readItem 37 (.bipush 7) 2 39 := ⟨by decide +kernel, rfl⟩
theorem eX2_readItem_39 : Dj mX2_readItem 39 (.if_icmp .ge 29) (29) 42 68 := ⟨by decide +kernel, rfl, rfl⟩
theorem eX2_readItem_42 : Dn mX2_readItem 42 (.aload_n 0) 1 43 := ⟨by decide +kernel, rfl⟩
theorem eX2_readItem_43 : Dn mX2_readItem 43 (.getfield 28) 3 46 := ⟨by decide +kernel, rfl⟩
theorem eX2_readItem_46 : Dn mX2_readItem 46 (.getstatic 52) 3 49 := ⟨by decide +kernel, rfl⟩
theorem eX2_readItem_49 : Dn mX2_readItem 49 (.iload_n 2) 1 50 := ⟨by decide +kernel, rfl⟩
theorem eX2_readItem_50 : Dn mX2_readItem 50 (.laload) 1 51 := ⟨by decide +kernel, rfl⟩
theorem eX2_readItem_51 : Dn mX2_readItem 51 (.lcmp) 1 52 := ⟨by decide +kernel, rfl⟩
theorem eX2_readItem_52 : Dj mX2_readItem 52 (.ifCond .ne 10) (10) 55 62 := ⟨by decide +kernel, rfl, rfl⟩
theorem eX2_readItem_55 : Dn mX2_readItem 55 (.aload_n 0) 1 56 := ⟨by decide +kernel, rfl⟩
theorem eX2_readItem_56 : Dn mX2_readItem 56 (.aload_n 1) 1 57 := ⟨by decide +kernel, rfl⟩
theorem eX2_readItem_57 : Dn mX2_readItem 57 (.iload_n 2) 1 58 := ⟨by decide +kernel, rfl⟩
theorem eX2_readItem_58 : Dn mX2_readItem 58 (.invokevirtual 56) 3 61 := ⟨by decide +kernel, rfl⟩
theorem eX2_readItem_61 : Dn mX2_readItem 61 (.ireturn) 1 62 := ⟨by decide +kernel, rfl⟩
theorem eX2_readItem_62 : Dn mX2_readItem 62 (.iinc 2 1) 3 65 := ⟨by decide +kernel, rfl⟩
theorem eX2_readItem_65 : Dj mX2_readItem 65 (.goto (-29)) (-29) 68 36 := ⟨by decide +kernel, rfl, rfl⟩
theorem eX2_readItem_68 : Dn mX2_readItem 68 (.iconst 0) 1 69 := ⟨by decide +kernel, rfl⟩
theorem eX2_readItem_69 : Dn mX2_readItem 69 (.ireturn) 1 70 := ⟨by decide +kernel, rfl⟩
theorem eX2_readRight_0 : Dn mX2_readRight 0 (.aload_n 0) 1 1 := ⟨by decide +kernel, rfl⟩
theorem eX2_readRight_1 : Dn mX2_readRight 1 (.invokevirtual 35) 3 4 := ⟨by decide +kernel, rfl⟩
theorem eX2_readRight_4 : Dn mX2_readRight 4 (.aload_n 0) 1 5 := ⟨by decide +kernel, rfl⟩
theorem eX2_readRight_5 : Dn mX2_readRight 5 (.iconst 0) 1 6 := ⟨by decide +kernel, rfl⟩
theorem eX2_readRight_6 : Dn mX2_readRight 6 (.bipush 7) 2 8 := ⟨by decide +kernel, rfl⟩
theorem eX2_readRight_8 : Dn mX2_readRight 8 (.invokevirtual 60) 3 11 := ⟨by decide +kernel, rfl⟩
theorem eX2_readRight_11 : Dj mX2_readRight 11 (.ifCond .ne 5) (5) 14 16 := ⟨by decide +kernel, rfl, rfl⟩
theorem eX2_readRight_14 : Dn mX2_readRight 14 (.iconst 0) 1 15 := ⟨by decide +kernel, rfl⟩
theorem eX2_readRight_15 : Dn mX2_readRight 15 (.ireturn) 1 16 := ⟨by decide +kernel, rfl⟩
theorem eX2_readRight_16 : Dn mX2_readRight 16 (.aload_n 0) 1 17 := ⟨by decide +kernel, rfl⟩
theorem eX2_readRight_17 : Dn mX2_readRight 17 (.getfield 32) 3 20 := ⟨by decide +kernel, rfl⟩
theorem eX2_readRight_20 : Dn mX2_readRight 20 (.istore_n 2) 1 21 := ⟨by decide +kernel, rfl⟩
theorem eX2_readRight_21 : Dn mX2_readRight 21 (.aload_n 0) 1 22 := ⟨by decide +kernel, rfl⟩
theorem eX2_readRight_22 : Dn mX2_readRight 22 (.invokevirtual 35) 3 25 := ⟨by decide +kernel, rfl⟩
theorem eX2_readRight_25 : Dn mX2_readRight 25 (.aload_n 0) 1 26 := ⟨by decide +kernel, rfl⟩
theorem eX2_readRight_26 : Dn mX2_readRight 26 (.iconst 0) 1 27 := ⟨by decide +kernel, rfl⟩
theorem eX2_readRight_27 : Dn mX2_readRight 27 (.bipush 99) 2 29 := ⟨by decide +kernel, rfl⟩
theorem eX2_readRight_29 : Dn mX2_readRight 29 (.invokevirtual 60) 3 32 := ⟨by decide +kernel, rfl⟩
theorem eX2_readRight_32 : Dj mX2_readRight 32 (.ifCond .ne 5) (5) 35 37 := ⟨by decide +kernel, rfl, rfl⟩
theorem eX2_readRight_35 : Dn mX2_readRight 35 (.iconst 0) 1 36 := ⟨by decide +kernel, rfl⟩
theorem eX2_readRight_36 : Dn mX2_readRight 36 (.ireturn) 1 37 := ⟨by decide +kernel, rfl⟩
theorem eX2_readRight_37 : Dn mX2_readRight 37 (.aload_n 1) 1 38 := ⟨by decide +kernel, rfl⟩
theorem eX2_readRight_38 : Dn mX2_readRight 38 (.getfield 64) 3 41 := ⟨by decide +kernel, rfl⟩
theorem eX2_readRight_41 : Dn mX2_readRight 41 (.iload_n 2) 1 42 := ⟨by decide +kernel, rfl⟩
theorem eX2_readRight_42 : Dn mX2_readRight 42 (.aload_n 0) 1 43 := ⟨by decide +kernel, rfl⟩
theorem eX2_readRight_43 : Dn mX2_readRight 43 (.getfield 32) 3 46 := ⟨by decide +kernel, rfl⟩
theorem eX2_readRight_46 : Dn mX2_readRight 46 (.iastore) 1 47 := ⟨by decide +kernel, rfl⟩
theorem eX2_readRight_47 : Dn mX2_readRight 47 (.aload_n 0) 1 48 := ⟨by decide +kernel, rfl⟩
theorem eX2_readRight_48 : Dn mX2_readRight 48 (.invokevirtual 35) 3 51 := ⟨by decide +kernel, rfl⟩
theorem eX2_readRight_51 : Dn mX2_readRight 51 (.iconst 1) 1 52 := ⟨by decide +kernel, rfl⟩
theorem eX2_readRight_52 : Dn mX2_readRight 52 (.ireturn) 1 53 := ⟨by decide +kernel, rfl⟩
theorem eX2_readLimit_0 : Dn mX2_readLimit 0 (.aload_n 0) 1 1 := ⟨by decide +kernel, rfl⟩
theorem eX2_readLimit_1 : Dn mX2_readLimit 1 (.invokevirtual 35) 3 4 := ⟨by decide +kernel, rfl⟩
theorem eX2_readLimit_4 : Dn mX2_readLimit 4 (.aload_n 0) 1 5 := ⟨by decide +kernel, rfl⟩
theorem eX2_readLimit_5 : Dn mX2_readLimit 5 (.iconst 1) 1 6 := ⟨by decide +kernel, rfl⟩
theorem eX2_readLimit_6 : Dn mX2_readLimit 6 (.bipush 9) 2 8 := ⟨by decide +kernel, rfl⟩
theorem eX2_readLimit_8 : Dn mX2_readLimit 8 (.invokevirtual 60) 3 11 := ⟨by decide +kernel, rfl⟩
theorem eX2_readLimit_11 : Dj mX2_readLimit 11 (.ifCond .ne 5) (5) 14 16 := ⟨by decide +kernel, rfl, rfl⟩
theorem eX2_readLimit_14 : Dn mX2_readLimit 14 (.iconst 0) 1 15 := ⟨by decide +kernel, rfl⟩
theorem eX2_readLimit_15 : Dn mX2_readLimit 15 (.ireturn) 1 16 := ⟨by decide +kernel, rfl⟩
theorem eX2_readLimit_16 : Dn mX2_readLimit 16 (.aload_n 1) 1 17 := ⟨by decide +kernel, rfl⟩
theorem eX2_readLimit_17 : Dn mX2_readLimit 17 (.aload_n 0) 1 18 := ⟨by decide +kernel, rfl⟩
theorem eX2_readLimit_18 : Dn mX2_readLimit 18 (.getfield 32) 3 21 := ⟨by decide +kernel, rfl⟩
theorem eX2_readLimit_21 : Dn mX2_readLimit 21 (.putfield 70) 3 24 := ⟨by decide +kernel, rfl⟩
theorem eX2_readLimit_24 : Dn mX2_readLimit 24 (.aload_n 0) 1 25 := ⟨by decide +kernel, rfl⟩
theorem eX2_readLimit_25 : Dn mX2_readLimit 25 (.invokevirtual 35) 3 28 := ⟨by decide +kernel, rfl⟩
theorem eX2_readLimit_28 : Dn mX2_readLimit 28 (.iconst 1) 1 29 := ⟨by decide +kernel, rfl⟩
theorem eX2_readLimit_29 : Dn mX2_readLimit 29 (.ireturn) 1 30 := ⟨by decide +kernel, rfl⟩
theorem eX2_readChild_0 : Dn mX2_readChild 0 (.aload_n 1) 1 1 := ⟨by decide +kernel, rfl⟩
theorem eX2_readChild_1 : Dn mX2_readChild 1 (.getfield 73) 3 4 := ⟨by decide +kernel, rfl⟩
theorem eX2_readChild_4 : Dn mX2_readChild 4 (.bipush 8) 2 6 := ⟨by decide +kernel, rfl⟩
theorem eX2_readChild_6 : Dj mX2_readChild 6 (.if_icmp .lt 5) (5) 9 11 := ⟨by decide +kernel, rfl, rfl⟩
theorem eX2_readChild_9 : Dn mX2_readChild 9 (.iconst 0) 1 10 := ⟨by decide +kernel, rfl⟩
theorem eX2_readChild_10 : Dn mX2_readChild 10 (.ireturn) 1 11 := ⟨by decide +kernel, rfl⟩
theorem eX2_readChild_11 : Dn mX2_readChild 11 (.aload_n 1) 1 12 := ⟨by decide +kernel, rfl⟩
theorem eX2_readChild_12 : Dn mX2_readChild 12 (.iload_n 2) 1 13 := ⟨by decide +kernel, rfl⟩
theorem eX2_readChild_13 : Dn mX2_readChild 13 (.iconst 0) 1 14 := ⟨by decide +kernel, rfl⟩
theorem eX2_readChild_14 : Dn mX2_readChild 14 (.invokevirtual 76) 3 17 := ⟨by decide +kernel, rfl⟩
theorem eX2_readChild_17 : Dn mX2_readChild 17 (.istore_n 3) 1 18 := ⟨by decide +kernel, rfl⟩
theorem eX2_readChild_18 : Dn mX2_readChild 18 (.aload_n 0) 1 19 := ⟨by decide +kernel, rfl⟩
theorem eX2_readChild_19 : Dn mX2_readChild 19 (.invokevirtual 35) 3 22 := ⟨by decide +kernel, rfl⟩
theorem eX2_readChild_22 : Dn mX2_readChild 22 (.aload_n 0) 1 23 := ⟨by decide +kernel, rfl⟩
theorem eX2_readChild_23 : Dn mX2_readChild 23 (.aload_n 1) 1 24 := ⟨by decide +kernel, rfl⟩
theorem eX2_readChild_24 : Dn mX2_readChild 24 (.iload_n 3) 1 25 := ⟨by decide +kernel, rfl⟩
theorem eX2_readChild_25 : Dn mX2_readChild 25 (.ldc2_w 80) 3 28 := ⟨by decide +kernel, rfl⟩
theorem eX2_readChild_28 : Dn mX2_readChild 28 (.iconst 1) 1 29 := ⟨by decide +kernel, rfl⟩
theorem eX2_readChild_29 : Dn mX2_readChild 29 (.sipush 255) 3 32 := ⟨by decide +kernel, rfl⟩
theorem eX2_readChild_32 : Dn mX2_readChild 32 (.invokevirtual 82) 3 35 := ⟨by decide +kernel, rfl⟩
theorem eX2_readChild_35 : Dj mX2_readChild 35 (.ifCond .eq 39) (39) 38 74 := ⟨by decide +kernel, rfl, rfl⟩
theorem eX2_readChild_38 : Dn mX2_readChild 38 (.aload_n 0) 1 39 := ⟨by decide +kernel, rfl⟩
theorem eX2_readChild_39 : Dn mX2_readChild 39 (.aload_n 1) 1 40 := ⟨by decide +kernel, rfl⟩
theorem eX2_readChild_40 : Dn mX2_readChild 40 (.iload_n 3) 1 41 := ⟨by decide +kernel, rfl⟩
theorem eX2_readChild_41 : Dn mX2_readChild 41 (.ldc2_w 86) 3 44 := ⟨by decide +kernel, rfl⟩
theorem eX2_readChild_44 : Dn mX2_readChild 44 (.iconst 2) 1 45 := ⟨by decide +kernel, rfl⟩
theorem eX2_readChild_45 : Dn mX2_readChild 45 (.iload_n 3) 1 46 := ⟨by decide +kernel, rfl⟩
theorem eX2_readChild_46 : Dn mX2_readChild 46 (.iconst 1) 1 47 := ⟨by decide +kernel, rfl⟩
theorem eX2_readChild_47 : Dn mX2_readChild 47 (.isub) 1 48 := ⟨by decide +kernel, rfl⟩
theorem eX2_readChild_48 : Dn mX2_readChild 48 (.invokevirtual 82) 3 51 := ⟨by decide +kernel, rfl⟩
theorem eX2_readChild_51 : Dj mX2_readChild 51 (.ifCond .eq 23) (23) 54 74 := ⟨by decide +kernel, rfl, rfl⟩
theorem eX2_readChild_54 : Dn mX2_readChild 54 (.aload_n 0) 1 55 := ⟨by decide +kernel, rfl⟩
theorem eX2_readChild_55 : Dn mX2_readChild 55 (.aload_n 1) 1 56 := ⟨by decide +kernel, rfl⟩
theorem eX2_readChild_56 : Dn mX2_readChild 56 (.iload_n 3) 1 57 := ⟨by decide +kernel, rfl⟩
theorem eX2_readChild_57 : Dn mX2_readChild 57 (.ldc2_w 88) 3 60 := ⟨by decide +kernel, rfl⟩
theorem eX2_readChild_60 : Dn mX2_readChild 60 (.iconst 4) 1 61 := ⟨by decide +kernel, rfl⟩
theorem eX2_readChild_61 : Dn mX2_readChild 61 (.sipush 999) 3 64 := ⟨by decide +kernel, rfl⟩
theorem eX2_readChild_64 : Dn mX2_readChild 64 (.invokevirtual 82) 3 67 := ⟨by decide +kernel, rfl⟩
theorem eX2_readChild_67 : Dj mX2_readChild 67 (.ifCond .eq 7) (7) 70 74 := ⟨by decide +kernel, rfl, rfl⟩
theorem eX2_readChild_70 : Dn mX2_readChild 70 (.iconst 1) 1 71 := ⟨by decide +kernel, rfl⟩
theorem eX2_readChild_71 : Dj mX2_readChild 71 (.goto 4) (4) 74 75 := ⟨by decide +kernel, rfl, rfl⟩
theorem eX2_readChild_74 : Dn mX2_readChild 74 (.iconst 0) 1 75 := ⟨by decide +kernel, rfl⟩
theorem eX2_readChild_75 : Dn mX2_readChild 75 (.ireturn) 1 76 := ⟨by decide +kernel, rfl⟩
theorem eX2_readPerhaps_0 : Dn mX2_readPerhaps 0 (.aload_n 0) 1 1 := ⟨by decide +kernel, rfl⟩
theorem eX2_readPerhaps_1 : Dn mX2_readPerhaps 1 (.getfield 28) 3 4 := ⟨by decide +kernel, rfl⟩
theorem eX2_readPerhaps_4 : Dn mX2_readPerhaps 4 (.lload_n 3) 1 5 := ⟨by decide +kernel, rfl⟩
theorem eX2_readPerhaps_5 : Dn mX2_readPerhaps 5 (.lcmp) 1 6 := ⟨by decide +kernel, rfl⟩
theorem eX2_readPerhaps_6 : Dj mX2_readPerhaps 6 (.ifCond .eq 5) (5) 9 11 := ⟨by decide +kernel, rfl, rfl⟩
theorem eX2_readPerhaps_9 : Dn mX2_readPerhaps 9 (.iconst 1) 1 10 := ⟨by decide +kernel, rfl⟩
theorem eX2_readPerhaps_10 : Dn mX2_readPerhaps 10 (.ireturn) 1 11 := ⟨by decide +kernel, rfl⟩
theorem eX2_readPerhaps_11 : Dn mX2_readPerhaps 11 (.aload_n 0) 1 12 := ⟨by decide +kernel, rfl⟩
theorem eX2_readPerhaps_12 : Dn mX2_readPerhaps 12 (.invokevirtual 35) 3 15 := ⟨by decide +kernel, rfl⟩
theorem eX2_readPerhaps_15 : Dn mX2_readPerhaps 15 (.aload_n 0) 1 16 := ⟨by decide +kernel, rfl⟩
theorem eX2_readPerhaps_16 : Dn mX2_readPerhaps 16 (.iconst 0) 1 17 := ⟨by decide +kernel, rfl⟩
theorem eX2_readPerhaps_17 : Dn mX2_readPerhaps 17 (.iload 6) 2 19 := ⟨by decide +kernel, rfl⟩
theorem eX2_readPerhaps_19 : Dn mX2_readPerhaps 19 (.invokevirtual 60) 3 22 := ⟨by decide +kernel, rfl⟩
theorem eX2_readPerhaps_22 : Dj mX2_readPerhaps 22 (.ifCond .ne 5) (5) 25 27 := ⟨by decide +kernel, rfl, rfl⟩
theorem eX2_readPerhaps_25 : Dn mX2_readPerhaps 25 (.iconst 0) 1 26 := ⟨by decide +kernel, rfl⟩
theorem eX2_readPerhaps_26 : Dn mX2_readPerhaps 26 (.ireturn) 1 27 := ⟨by decide +kernel, rfl⟩
theorem eX2_readPerhaps_27 : Dn mX2_readPerhaps 27 (.aload_n 1) 1 28 := ⟨by decide +kernel, rfl⟩
theorem eX2_readPerhaps_28 : Dn mX2_readPerhaps 28 (.iload_n 2) 1 29 := ⟨by decide +kernel, rfl⟩
theorem eX2_readPerhaps_29 : Dn mX2_readPerhaps 29 (.iload 5) 2 31 := ⟨by decide +kernel, rfl⟩
theorem eX2_readPerhaps_31 : Dn mX2_readPerhaps 31 (.aload_n 0) 1 32 := ⟨by decide +kernel, rfl⟩
theorem eX2_readPerhaps_32 : Dn mX2_readPerhaps 32 (.getfield 32) 3 35 := ⟨by decide +kernel, rfl⟩
theorem eX2_readPerhaps_35 : Dn mX2_readPerhaps 35 (.invokevirtual 90) 3 38 := ⟨by decide +kernel, rfl⟩
theorem eX2_readPerhaps_38 : Dn mX2_readPerhaps 38 (.aload_n 0) 1 39 := ⟨by decide +kernel, rfl⟩
theorem eX2_readPerhaps_39 : Dn mX2_readPerhaps 39 (.invokevirtual 35) 3 42 := ⟨by decide +kernel, rfl⟩
theorem eX2_readPerhaps_42 : Dn mX2_readPerhaps 42 (.iconst 1) 1 43 := ⟨by decide +kernel, rfl⟩
theorem eX2_readPerhaps_43 : Dn mX2_readPerhaps 43 (.ireturn) 1 44 := ⟨by decide +kernel, rfl⟩
theorem eX2_isNumber_0 : Dn mX2_isNumber 0 (.aload_n 0) 1 1 := ⟨by decide +kernel, rfl⟩
theorem eX2_isNumber_1 : Dn mX2_isNumber 1 (.getfield 25) 3 4 := ⟨by decide +kernel, rfl⟩
theorem eX2_isNumber_4 : Dn mX2_isNumber 4 (.iconst 2) 1 5 := ⟨by decide +kernel, rfl⟩
theorem eX2_isNumber_5 : Dj mX2_isNumber 5 (.if_icmp .ne 23) (23) 8 28 := ⟨by decide +kernel, rfl, rfl⟩
theorem eX2_isNumber_8 : Dn mX2_isNumber 8 (.aload_n 0) 1 9 := ⟨by decide +kernel, rfl⟩
theorem eX2_isNumber_9 : Dn mX2_isNumber 9 (.getfield 32) 3 12 := ⟨by decide +kernel, rfl⟩
theorem eX2_isNumber_12 : Dn mX2_isNumber 12 (.iload_n 1) 1 13 := ⟨by decide +kernel, rfl⟩
theorem eX2_isNumber_13 : Dj mX2_isNumber 13 (.if_icmp .lt 15) (15) 16 28 := ⟨by decide +kernel, rfl, rfl⟩
theorem eX2_isNumber_16 : Dn mX2_isNumber 16 (.aload_n 0) 1 17 := ⟨by decide +kernel, rfl⟩
theorem eX2_isNumber_17 : Dn mX2_isNumber 17 (.getfield 32) 3 20 := ⟨by decide +kernel, rfl⟩
theorem eX2_isNumber_20 : Dn mX2_isNumber 20 (.iload_n 2) 1 21 := ⟨by decide +kernel, rfl⟩
theorem eX2_isNumber_21 : Dj mX2_isNumber 21 (.if_icmp .gt 7) (7) 24 28 := ⟨by decide +kernel, rfl, rfl⟩
theorem eX2_isNumber_24 : Dn mX2_isNumber 24 (.iconst 1) 1 25 := ⟨by decide +kernel, rfl⟩
theorem eX2_isNumber_25 : Dj mX2_isNumber 25 (.goto 4) (4) 28 29 := ⟨by decide +kernel, rfl, rfl⟩
theorem eX2_isNumber_28 : Dn mX2_isNumber 28 (.iconst 0) 1 29 := ⟨by decide +kernel, rfl⟩
theorem eX2_isNumber_29 : Dn mX2_isNumber 29 (.ireturn) 1 30 := ⟨by decide +kernel, rfl⟩
theorem eX2_nextToken_0 : Dn mX2_nextToken 0 (.aload_n 0) 1 1 := ⟨by decide +kernel, rfl⟩
theorem eX2_nextToken_1 : Dn mX2_nextToken 1 (.getfield 22) 3 4 := ⟨by decide +kernel, rfl⟩
theorem eX2_nextToken_4 : Dn mX2_nextToken 4 (.aload_n 0) 1 5 := ⟨by decide +kernel, rfl⟩
theorem eX2_nextToken_5 : Dn mX2_nextToken 5 (.getfield 15) 3 8 := ⟨by decide +kernel, rfl⟩
theorem eX2_nextToken_8 : Dj mX2_nextToken 8 (.if_icmp .ge 30) (30) 11 38 := ⟨by decide +kernel, rfl, rfl⟩
theorem eX2_nextToken_11 : Dn mX2_nextToken 11 (.aload_n 0) 1 12 := ⟨by decide +kernel, rfl⟩
theorem eX2_nextToken_12 : Dn mX2_nextToken 12 (.getfield 9) 3 15 := ⟨by decide +kernel, rfl⟩
theorem eX2_nextToken_15 : Dn mX2_nextToken 15 (.aload_n 0) 1 16 := ⟨by decide +kernel, rfl⟩
theorem eX2_nextToken_16 : Dn mX2_nextToken 16 (.getfield 22) 3 19 := ⟨by decide +kernel, rfl⟩
theorem eX2_nextToken_19 : Dn mX2_nextToken 19 (.baload) 1 20 := ⟨by decide +kernel, rfl⟩
theorem eX2_nextToken_20 : Dn mX2_nextToken 20 (.bipush 32) 2 22 := ⟨by decide +kernel, rfl⟩
theorem eX2_nextToken_22 : Dj mX2_nextToken 22 (.if_icmp .ne 16) (16) 25 38 := ⟨by decide +kernel, rfl, rfl⟩
theorem eX2_nextToken_25 : Dn mX2_nextToken 25 (.aload_n 0) 1 26 := ⟨by decide +kernel, rfl⟩
theorem eX2_nextToken_26 : Dn mX2_nextToken 26 (.dup) 1 27 := ⟨by decide +kernel, rfl⟩
theorem eX2_nextToken_27 : Dn mX2_nextToken 27 (.getfield 22) 3 30 := ⟨by decide +kernel, rfl⟩
theorem eX2_nextToken_30 : Dn mX2_nextToken 30 (.iconst 1) 1 31 := ⟨by decide +kernel, rfl⟩
theorem eX2_nextToken_31 : Dn mX2_nextToken 31 (.iadd) 1 32 := ⟨by decide +kernel, rfl⟩
theorem eX2_nextToken_32 : Dn mX2_nextToken 32 (.putfield 22) 3 35 := ⟨by decide +kernel, rfl⟩
theorem eX2_nextToken_35 : Dj mX2_nextToken 35 (.goto (-35)) (-35) 38 0 := ⟨by decide +kernel, rfl, rfl⟩
theorem eX2_nextToken_38 : Dn mX2_nextToken 38 (.aload_n 0) 1 39 := ⟨by decide +kernel, rfl⟩
theorem eX2_nextToken_39 : Dn mX2_nextToken 39 (.aload_n 0) 1 40 := ⟨by decide +kernel, rfl⟩
theorem eX2_nextToken_40 : Dn mX2_nextToken 40 (.getfield 22) 3 43 := ⟨by decide +kernel, rfl⟩
theorem eX2_nextToken_43 : Dn mX2_nextToken 43 (.putfield 19) 3 46 := ⟨by decide +kernel, rfl⟩
theorem eX2_nextToken_46 : Dn mX2_nextToken 46 (.aload_n 0) 1 47 := ⟨by decide +kernel, rfl⟩
theorem eX2_nextToken_47 : Dn mX2_nextToken 47 (.lconst 0) 1 48 := ⟨by decide +kernel, rfl⟩
theorem eX2_nextToken_48 : Dn mX2_nextToken 48 (.putfield 28) 3 51 := ⟨by decide +kernel, rfl⟩
theorem eX2_nextToken_51 : Dn mX2_nextToken 51 (.aload_n 0) 1 52 := ⟨by decide +kernel, rfl⟩
theorem eX2_nextToken_52 : Dn mX2_nextToken 52 (.iconst (-1)) 1 53 := ⟨by decide +kernel, rfl⟩
theorem eX2_nextToken_53 : Dn mX2_nextToken 53 (.putfield 32) 3 56 := ⟨by decide +kernel, rfl⟩
theorem eX2_nextToken_56 : Dn mX2_nextToken 56 (.aload_n 0) 1 57 := ⟨by decide +kernel, rfl⟩
theorem eX2_nextToken_57 : Dn mX2_nextToken 57 (.getfield 19) 3 60 := ⟨by decide +kernel, rfl⟩
theorem eX2_nextToken_60 : Dn mX2_nextToken 60 (.aload_n 0) 1 61 := ⟨by decide +kernel, rfl⟩
theorem eX2_nextToken_61 : Dn mX2_nextToken 61 (.getfield 15) 3 64 := ⟨by decide +kernel, rfl⟩
theorem eX2_nextToken_64 : Dj mX2_nextToken 64 (.if_icmp .lt 11) (11) 67 75 := ⟨by decide +kernel, rfl, rfl⟩
theorem eX2_nextToken_67 : Dn mX2_nextToken 67 (.aload_n 0) 1 68 := ⟨by decide +kernel, rfl⟩
theorem eX2_nextToken_68 : Dn mX2_nextToken 68 (.iconst 0) 1 69 := ⟨by decide +kernel, rfl⟩
theorem eX2_nextToken_69 : Dn mX2_nextToken 69 (.putfield 25) 3 72 := ⟨by decide +kernel, rfl⟩
theorem eX2_nextToken_72 : Dj mX2_nextToken 72 (.goto 106) (106) 75 178 := ⟨by decide +kernel, rfl, rfl⟩
theorem eX2_nextToken_75 : Dn mX2_nextToken 75 (.aload_n 0) 1 76 := ⟨by decide +kernel, rfl⟩
theorem eX2_nextToken_76 : Dn mX2_nextToken 76 (.getfield 9) 3 79 := ⟨by decide +kernel, rfl⟩
theorem eX2_nextToken_79 : Dn mX2_nextToken 79 (.aload_n 0) 1 80 := ⟨by decide +kernel, rfl⟩
theorem eX2_nextToken_80 : Dn mX2_nextToken 80 (.getfield 19) 3 83 := ⟨by decide +kernel, rfl⟩
theorem eX2_nextToken_83 : Dn mX2_nextToken 83 (.baload) 1 84 := ⟨by decide +kernel, rfl⟩
theorem eX2_nextToken_84 : Dn mX2_nextToken 84 (.bipush 97) 2 86 := ⟨by decide +kernel, rfl⟩
theorem eX2_nextToken_86 : Dj mX2_nextToken 86 (.if_icmp .lt 24) (24) 89 110 := ⟨by decide +kernel, rfl, rfl⟩
theorem eX2_nextToken_89 : Dn mX2_nextToken 89 (.aload_n 0) 1 90 := ⟨by decide +kernel, rfl⟩
theorem eX2_nextToken_90 : Dn mX2_nextToken 90 (.getfield 9) 3 93 := ⟨by decide +kernel, rfl⟩
theorem eX2_nextToken_93 : Dn mX2_nextToken 93 (.aload_n 0) 1 94 := ⟨by decide +kernel, rfl⟩
theorem eX2_nextToken_94 : Dn mX2_nextToken 94 (.getfield 19) 3 97 := ⟨by decide +kernel, rfl⟩
theorem eX2_nextToken_97 : Dn mX2_nextToken 97 (.baload) 1 98 := ⟨by decide +kernel, rfl⟩
theorem eX2_nextToken_98 : Dn mX2_nextToken 98 (.bipush 122) 2 100 := ⟨by decide +kernel, rfl⟩
theorem eX2_nextToken_100 : Dj mX2_nextToken 100 (.if_icmp .gt 10) (10) 103 110 := ⟨by decide +kernel, rfl, rfl⟩
theorem eX2_nextToken_103 : Dn mX2_nextToken 103 (.aload_n 0) 1 104 := ⟨by decide +kernel, rfl⟩
theorem eX2_nextToken_104 : Dn mX2_nextToken 104 (.invokevirtual 94) 3 107 := ⟨by decide +kernel, rfl⟩
theorem eX2_nextToken_107 : Dj mX2_nextToken 107 (.goto 71) (71) 110 178 := ⟨by decide +kernel, rfl, rfl⟩
theorem eX2_nextToken_110 : Dn mX2_nextToken 110 (.aload_n 0) 1 111 := ⟨by decide +kernel, rfl⟩
theorem eX2_nextToken_111 : Dn mX2_nextToken 111 (.getfield 9) 3 114 := ⟨by decide +kernel, rfl⟩
theorem eX2_nextToken_114 : Dn mX2_nextToken 114 (.aload_n 0) 1 115 := ⟨by decide +kernel, rfl⟩
theorem eX2_nextToken_115 : Dn mX2_nextToken 115 (.getfield 19) 3 118 := ⟨by decide +kernel, rfl⟩
theorem eX2_nextToken_118 : Dn mX2_nextToken 118 (.baload) 1 119 := ⟨by decide +kernel, rfl⟩
theorem eX2_nextToken_119 : Dn mX2_nextToken 119 (.bipush 48) 2 121 := ⟨by decide +kernel, rfl⟩
theorem eX2_nextToken_121 : Dj mX2_nextToken 121 (.if_icmp .lt 24) (24) 124 145 := ⟨by decide +kernel, rfl, rfl⟩
theorem eX2_nextToken_124 : Dn mX2_nextToken 124 (.aload_n 0) 1 125 := ⟨by decide +kernel, rfl⟩
theorem eX2_nextToken_125 : Dn mX2_nextToken 125 (.getfield 9) 3 128 := ⟨by decide +kernel, rfl⟩
theorem eX2_nextToken_128 : Dn mX2_nextToken 128 (.aload_n 0) 1 129 := ⟨by decide +kernel, rfl⟩
theorem eX2_nextToken_129 : Dn mX2_nextToken 129 (.getfield 19) 3 132 := ⟨by decide +kernel, rfl⟩
theorem eX2_nextToken_132 : Dn mX2_nextToken 132 (.baload) 1 133 := ⟨by decide +kernel, rfl⟩
theorem eX2_nextToken_133 : Dn mX2_nextToken 133 (.bipush 57) 2 135 := ⟨by decide +kernel, rfl⟩
theorem eX2_nextToken_135 : Dj mX2_nextToken 135 (.if_icmp .gt 10) (10) 138 145 := ⟨by decide +kernel, rfl, rfl⟩
theorem eX2_nextToken_138 : Dn mX2_nextToken 138 (.aload_n 0) 1 139 := ⟨by decide +kernel, rfl⟩
theorem eX2_nextToken_139 : Dn mX2_nextToken 139 (.invokevirtual 97) 3 142 := ⟨by decide +kernel, rfl⟩
theorem eX2_nextToken_142 : Dj mX2_nextToken 142 (.goto 36) (36) 145 178 := ⟨by decide +kernel, rfl, rfl⟩
theorem eX2_nextToken_145 : Dn mX2_nextToken 145 (.aload_n 0) 1 146 := ⟨by decide +kernel, rfl⟩
theorem eX2_nextToken_146 : Dn mX2_nextToken 146 (.aload_n 0) 1 147 := ⟨by decide +kernel, rfl⟩
theorem eX2_nextToken_147 : Dn mX2_nextToken 147 (.getfield 9) 3 150 := ⟨by decide +kernel, rfl⟩
theorem eX2_nextToken_150 : Dn mX2_nextToken 150 (.aload_n 0) 1 151 := ⟨by decide +kernel, rfl⟩
theorem eX2_nextToken_151 : Dn mX2_nextToken 151 (.getfield 19) 3 154 := ⟨by decide +kernel, rfl⟩
theorem eX2_nextToken_154 : Dn mX2_nextToken 154 (.baload) 1 155 := ⟨by decide +kernel, rfl⟩
theorem eX2_nextToken_155 : Dn mX2_nextToken 155 (.bipush 59) 2 157 := ⟨by decide +kernel, rfl⟩
theorem eX2_nextToken_157 : Dj mX2_nextToken 157 (.if_icmp .ne 7) (7) 160 164 := ⟨by decide +kernel, rfl, rfl⟩
theorem eX2_nextToken_160 : Dn mX2_nextToken 160 (.iconst 3) 1 161 := ⟨by decide +kernel, rfl⟩
theorem eX2_nextToken_161 : Dj mX2_nextToken 161 (.goto 4) (4) 164 165 := ⟨by decide +kernel, rfl, rfl⟩
theorem eX2_nextToken_164 : Dn mX2_nextToken 164 (.iconst 4) 1 165 := ⟨by decide +kernel, rfl⟩
theorem eX2_nextToken_165 : Dn mX2_nextToken 165 (.putfield 25) 3 168 := ⟨by decide +kernel, rfl⟩
theorem eX2_nextToken_168 : Dn mX2_nextToken 168 (.aload_n 0) 1 169 := ⟨by decide +kernel, rfl⟩
theorem eX2_nextToken_169 : Dn mX2_nextToken 169 (.dup) 1 170 := ⟨by decide +kernel, rfl⟩
theorem eX2_nextToken_170 : Dn mX2_nextToken 170 (.getfield 22) 3 173 := ⟨by decide +kernel, rfl⟩
theorem eX2_nextToken_173 : Dn mX2_nextToken 173 (.iconst 1) 1 174 := ⟨by decide +kernel, rfl⟩
theorem eX2_nextToken_174 : Dn mX2_nextToken 174 (.iadd) 1 175 := ⟨by decide +kernel, rfl⟩
theorem eX2_nextToken_175 : Dn mX2_nextToken 175 (.putfield 22) 3 178 := ⟨by decide +kernel, rfl⟩
theorem eX2_nextToken_178 : Dn mX2_nextToken 178 (.return_) 1 179 := ⟨by decide +kernel, rfl⟩
theorem eX2_takeWord_0 : Dn mX2_takeWord 0 (.aload_n 0) 1 1 := ⟨by decide +kernel, rfl⟩
theorem eX2_takeWord_1 : Dn mX2_takeWord 1 (.iconst 1) 1 2 := ⟨by decide +kernel, rfl⟩
theorem eX2_takeWord_2 : Dn mX2_takeWord 2 (.putfield 25) 3 5 := ⟨by decide +kernel, rfl⟩
theorem eX2_takeWord_5 : Dn mX2_takeWord 5 (.aload_n 0) 1 6 := ⟨by decide +kernel, rfl⟩
theorem eX2_takeWord_6 : Dn mX2_takeWord 6 (.getfield 22) 3 9 := ⟨by decide +kernel, rfl⟩
theorem eX2_takeWord_9 : Dn mX2_takeWord 9 (.aload_n 0) 1 10 := ⟨by decide +kernel, rfl⟩
theorem eX2_takeWord_10 : Dn mX2_takeWord 10 (.getfield 15) 3 13 := ⟨by decide +kernel, rfl⟩
theorem eX2_takeWord_13 : Dj mX2_takeWord 13 (.if_icmp .ge 66) (66) 16 79 := ⟨by decide +kernel, rfl, rfl⟩
theorem eX2_takeWord_16 : Dn mX2_takeWord 16 (.aload_n 0) 1 17 := ⟨by decide +kernel, rfl⟩
theorem eX2_takeWord_17 : Dn mX2_takeWord 17 (.getfield 9) 3 20 := ⟨by decide +kernel, rfl⟩
theorem eX2_takeWord_20 : Dn mX2_takeWord 20 (.aload_n 0) 1 21 := ⟨by decide +kernel, rfl⟩
theorem eX2_takeWord_21 : Dn mX2_takeWord 21 (.getfield 22) 3 24 := ⟨by decide +kernel, rfl⟩
theorem eX2_takeWord_24 : Dn mX2_takeWord 24 (.baload) 1 25 := ⟨by decide +kernel, rfl⟩
theorem eX2_takeWord_25 : Dn mX2_takeWord 25 (.bipush 97) 2 27 := ⟨by decide +kernel, rfl⟩
theorem eX2_takeWord_27 : Dj mX2_takeWord 27 (.if_icmp .lt 52) (52) 30 79 := ⟨by decide +kernel, rfl, rfl⟩
theorem eX2_takeWord_30 : Dn mX2_takeWord 30 (.aload_n 0) 1 31 := ⟨by decide +kernel, rfl⟩
theorem eX2_takeWord_31 : Dn mX2_takeWord 31 (.getfield 9) 3 34 := ⟨by decide +kernel, rfl⟩
theorem eX2_takeWord_34 : Dn mX2_takeWord 34 (.aload_n 0) 1 35 := ⟨by decide +kernel, rfl⟩
theorem eX2_takeWord_35 : Dn mX2_takeWord 35 (.getfield 22) 3 38 := ⟨by decide +kernel, rfl⟩
theorem eX2_takeWord_38 : Dn mX2_takeWord 38 (.baload) 1 39 := ⟨by decide +kernel, rfl⟩
theorem eX2_takeWord_39 : Dn mX2_takeWord 39 (.bipush 122) 2 41 := ⟨by decide +kernel, rfl⟩
theorem eX2_takeWord_41 : Dj mX2_takeWord 41 (.if_icmp .gt 38) (38) 44 79 := ⟨by decide +kernel, rfl, rfl⟩
theorem eX2_takeWord_44 : Dn mX2_takeWord 44 (.aload_n 0) 1 45 := ⟨by decide +kernel, rfl⟩
theorem eX2_takeWord_45 : Dn mX2_takeWord 45 (.aload_n 0) 1 46 := ⟨by decide +kernel, rfl⟩
theorem eX2_takeWord_46 : Dn mX2_takeWord 46 (.getfield 28) 3 49 := ⟨by decide +kernel, rfl⟩
theorem eX2_takeWord_49 : Dn mX2_takeWord 49 (.bipush 8) 2 51 := ⟨by decide +kernel, rfl⟩
theorem eX2_takeWord_51 : Dn mX2_takeWord 51 (.lshl) 1 52 := ⟨by decide +kernel, rfl⟩
theorem eX2_takeWord_52 : Dn mX2_takeWord 52 (.aload_n 0) 1 53 := ⟨by decide +kernel, rfl⟩
theorem eX2_takeWord_53 : Dn mX2_takeWord 53 (.getfield 9) 3 56 := ⟨by decide +kernel, rfl⟩
theorem eX2_takeWord_56 : Dn mX2_takeWord 56 (.aload_n 0) 1 57 := ⟨by decide +kernel, rfl⟩
theorem eX2_takeWord_57 : Dn mX2_takeWord 57 (.getfield 22) 3 60 := ⟨by decide +kernel, rfl⟩
theorem eX2_takeWord_60 : Dn mX2_takeWord 60 (.baload) 1 61 := ⟨by decide +kernel, rfl⟩
theorem eX2_takeWord_61 : Dn mX2_takeWord 61 (.i2l) 1 62 := ⟨by decide +kernel, rfl⟩
theorem eX2_takeWord_62 : Dn mX2_takeWord 62 (.lor) 1 63 := ⟨by decide +kernel, rfl⟩
theorem eX2_takeWord_63 : Dn mX2_takeWord 63 (.putfield 28) 3 66 := ⟨by decide +kernel, rfl⟩
theorem eX2_takeWord_66 : Dn mX2_takeWord 66 (.aload_n 0) 1 67 := ⟨by decide +kernel, rfl⟩
theorem eX2_takeWord_67 : Dn mX2_takeWord 67 (.dup) 1 68 := ⟨by decide +kernel, rfl⟩
theorem eX2_takeWord_68 : Dn mX2_takeWord 68 (.getfield 22) 3 71 := ⟨by decide +kernel, rfl⟩
theorem eX2_takeWord_71 : Dn mX2_takeWord 71 (.iconst 1) 1 72 := ⟨by decide +kernel, rfl⟩
theorem eX2_takeWord_72 : Dn mX2_takeWord 72 (.iadd) 1 73 := ⟨by decide +kernel, rfl⟩
theorem eX2_takeWord_73 : Dn mX2_takeWord 73 (.putfield 22) 3 76 := ⟨by decide +kernel, rfl⟩
theorem eX2_takeWord_76 : Dj mX2_takeWord 76 (.goto (-71)) (-71) 79 5 := ⟨by decide +kernel, rfl, rfl⟩
theorem eX2_takeWord_79 : Dn mX2_takeWord 79 (.aload_n 0) 1 80 := ⟨by decide +kernel, rfl⟩
theorem eX2_takeWord_80 : Dn mX2_takeWord 80 (.getfield 22) 3 83 := ⟨by decide +kernel, rfl⟩
theorem eX2_takeWord_83 : Dn mX2_takeWord 83 (.aload_n 0) 1 84 := ⟨by decide +kernel, rfl⟩
theorem eX2_takeWord_84 : Dn mX2_takeWord 84 (.getfield 19) 3 87 := ⟨by decide +kernel, rfl⟩
theorem eX2_takeWord_87 : Dn mX2_takeWord 87 (.isub) 1 88 := ⟨by decide +kernel, rfl⟩
theorem eX2_takeWord_88 : Dn mX2_takeWord 88 (.bipush 8) 2 90 := ⟨by decide +kernel, rfl⟩
theorem eX2_takeWord_90 : Dj mX2_takeWord 90 (.if_icmp .le 8) (8) 93 98 := ⟨by decide +kernel, rfl, rfl⟩
theorem eX2_takeWord_93 : Dn mX2_takeWord 93 (.aload_n 0) 1 94 := ⟨by decide +kernel, rfl⟩
theorem eX2_takeWord_94 : Dn mX2_takeWord 94 (.lconst 0) 1 95 := ⟨by decide +kernel, rfl⟩
theorem eX2_takeWord_95 : Dn mX2_takeWord 95 (.putfield 28) 3 98 := ⟨by decide +kernel, rfl⟩
theorem eX2_takeWord_98 : Dn mX2_takeWord 98 (.return_) 1 99 := ⟨by decide +kernel, rfl⟩
theorem eX2_takeNumber_0 : Dn mX2_takeNumber 0 (.aload_n 0) 1 1 := ⟨by decide +kernel, rfl⟩
theorem eX2_takeNumber_1 : Dn mX2_takeNumber 1 (.iconst 2) 1 2 := ⟨by decide +kernel, rfl⟩
theorem eX2_takeNumber_2 : Dn mX2_takeNumber 2 (.putfield 25) 3 5 := ⟨by decide +kernel, rfl⟩
theorem eX2_takeNumber_5 : Dn mX2_takeNumber 5 (.aload_n 0) 1 6 := ⟨by decide +kernel, rfl⟩
theorem eX2_takeNumber_6 : Dn mX2_takeNumber 6 (.iconst 0) 1 7 := ⟨by decide +kernel, rfl⟩
theorem eX2_takeNumber_7 : Dn mX2_takeNumber 7 (.putfield 32) 3 10 := ⟨by decide +kernel, rfl⟩
theorem eX2_takeNumber_10 : Dn mX2_takeNumber 10 (.aload_n 0) 1 11 := ⟨by decide +kernel, rfl⟩
theorem eX2_takeNumber_11 : Dn mX2_takeNumber 11 (.getfield 22) 3 14 := ⟨by decide +kernel, rfl⟩
theorem eX2_takeNumber_14 : Dn mX2_takeNumber 14 (.aload_n 0) 1 15 := ⟨by decide +kernel, rfl⟩
theorem eX2_takeNumber_15 : Dn mX2_takeNumber 15 (.getfield 15) 3 18 := ⟨by decide +kernel, rfl⟩
theorem eX2_takeNumber_18 : Dj mX2_takeNumber 18 (.if_icmp .ge 78) (78) 21 96 := ⟨by decide +kernel, rfl, rfl⟩
theorem eX2_takeNumber_21 : Dn mX2_takeNumber 21 (.aload_n 0) 1 22 := ⟨by decide +kernel, rfl⟩
theorem eX2_takeNumber_22 : Dn mX2_takeNumber 22 (.getfield 9) 3 25 := ⟨by decide +kernel, rfl⟩
theorem eX2_takeNumber_25 : Dn mX2_takeNumber 25 (.aload_n 0) 1 26 := ⟨by decide +kernel, rfl⟩
theorem eX2_takeNumber_26 : Dn mX2_takeNumber 26 (.getfield 22) 3 29 := ⟨by decide +kernel, rfl⟩
theorem eX2_takeNumber_29 : Dn mX2_takeNumber 29 (.baload) 1 30 := ⟨by decide +kernel, rfl⟩
theorem eX2_takeNumber_30 : Dn mX2_takeNumber 30 (.bipush 48) 2 32 := ⟨by decide +kernel, rfl⟩
theorem eX2_takeNumber_32 : Dj mX2_takeNumber 32 (.if_icmp .lt 64) (64) 35 96 := ⟨by decide +kernel, rfl, rfl⟩
theorem eX2_takeNumber_35 : Dn mX2_takeNumber 35 (.aload_n 0) 1 36 := ⟨by decide +kernel, rfl⟩
theorem eX2_takeNumber_36 : Dn mX2_takeNumber 36 (.getfield 9) 3 39 := ⟨by decide +kernel, rfl⟩
theorem eX2_takeNumber_39 : Dn mX2_takeNumber 39 (.aload_n 0) 1 40 := ⟨by decide +kernel, rfl⟩
theorem eX2_takeNumber_40 : Dn mX2_takeNumber 40 (.getfield 22) 3 43 := ⟨by decide +kernel, rfl⟩
theorem eX2_takeNumber_43 : Dn mX2_takeNumber 43 (.baload) 1 44 := ⟨by decide +kernel, rfl⟩
theorem eX2_takeNumber_44 : Dn mX2_takeNumber 44 (.bipush 57) 2 46 := ⟨by decide +kernel, rfl⟩
theorem eX2_takeNumber_46 : Dj mX2_takeNumber 46 (.if_icmp .gt 50) (50) 49 96 := ⟨by decide +kernel, rfl, rfl⟩
theorem eX2_takeNumber_49 : Dn mX2_takeNumber 49 (.aload_n 0) 1 50 := ⟨by decide +kernel, rfl⟩
theorem eX2_takeNumber_50 : Dn mX2_takeNumber 50 (.getfield 32) 3 53 := ⟨by decide +kernel, rfl⟩
theorem eX2_takeNumber_53 : Dn mX2_takeNumber 53 (.sipush 999) 3 56 := ⟨by decide +kernel, rfl⟩
theorem eX2_takeNumber_56 : Dj mX2_takeNumber 56 (.if_icmp .gt 27) (27) 59 83 := ⟨by decide +kernel, rfl, rfl⟩
theorem eX2_takeNumber_59 : Dn mX2_takeNumber 59 (.aload_n 0) 1 60 := ⟨by decide +kernel, rfl⟩
theorem eX2_takeNumber_60 : Dn mX2_takeNumber 60 (.aload_n 0) 1 61 := ⟨by decide +kernel, rfl⟩
theorem eX2_takeNumber_61 : Dn mX2_takeNumber 61 (.getfield 32) 3 64 := ⟨by decide +kernel, rfl⟩
theorem eX2_takeNumber_64 : Dn mX2_takeNumber 64 (.bipush 10) 2 66 := ⟨by decide +kernel, rfl⟩
theorem eX2_takeNumber_66 : Dn mX2_takeNumber 66 (.imul) 1 67 := ⟨by decide +kernel, rfl⟩
theorem eX2_takeNumber_67 : Dn mX2_takeNumber 67 (.aload_n 0) 1 68 := ⟨by decide +kernel, rfl⟩
theorem eX2_takeNumber_68 : Dn mX2_takeNumber 68 (.getfield 9) 3 71 := ⟨by decide +kernel, rfl⟩
theorem eX2_takeNumber_71 : Dn mX2_takeNumber 71 (.aload_n 0) 1 72 := ⟨by decide +kernel, rfl⟩
theorem eX2_takeNumber_72 : Dn mX2_takeNumber 72 (.getfield 22) 3 75 := ⟨by decide +kernel, rfl⟩
theorem eX2_takeNumber_75 : Dn mX2_takeNumber 75 (.baload) 1 76 := ⟨by decide +kernel, rfl⟩
theorem eX2_takeNumber_76 : Dn mX2_takeNumber 76 (.iadd) 1 77 := ⟨by decide +kernel, rfl⟩
theorem eX2_takeNumber_77 : Dn mX2_takeNumber 77 (.bipush 48) 2 79 := ⟨by decide +kernel, rfl⟩
theorem eX2_takeNumber_79 : Dn mX2_takeNumber 79 (.isub) 1 80 := ⟨by decide +kernel, rfl⟩
theorem eX2_takeNumber_80 : Dn mX2_takeNumber 80 (.putfield 32) 3 83 := ⟨by decide +kernel, rfl⟩
theorem eX2_takeNumber_83 : Dn mX2_takeNumber 83 (.aload_n 0) 1 84 := ⟨by decide +kernel, rfl⟩
theorem eX2_takeNumber_84 : Dn mX2_takeNumber 84 (.dup) 1 85 := ⟨by decide +kernel, rfl⟩
theorem eX2_takeNumber_85 : Dn mX2_takeNumber 85 (.getfield 22) 3 88 := ⟨by decide +kernel, rfl⟩
theorem eX2_takeNumber_88 : Dn mX2_takeNumber 88 (.iconst 1) 1 89 := ⟨by decide +kernel, rfl⟩
theorem eX2_takeNumber_89 : Dn mX2_takeNumber 89 (.iadd) 1 90 := ⟨by decide +kernel, rfl⟩
theorem eX2_takeNumber_90 : Dn mX2_takeNumber 90 (.putfield 22) 3 93 := ⟨by decide +kernel, rfl⟩
theorem eX2_takeNumber_93 : Dj mX2_takeNumber 93 (.goto (-83)) (-83) 96 10 := ⟨by decide +kernel, rfl, rfl⟩
theorem eX2_takeNumber_96 : Dn mX2_takeNumber 96 (.return_) 1 97 := ⟨by decide +kernel, rfl⟩
theorem eJ6_bitCount_0f7a4_0 : Dn mJ6_bitCount_0f7a4 0 (.iload_n 0) 1 1 := ⟨by decide +kernel, rfl⟩
theorem eJ6_bitCount_0f7a4_1 : Dn mJ6_bitCount_0f7a4 1 (.iload_n 0) 1 2 := ⟨by decide +kernel, rfl⟩
theorem eJ6_bitCount_0f7a4_2 : Dn mJ6_bitCount_0f7a4 2 (.iconst 1) 1 3 := ⟨by decide +kernel, rfl⟩
theorem eJ6_bitCount_0f7a4_3 : Dn mJ6_bitCount_0f7a4 3 (.iushr) 1 4 := ⟨by decide +kernel, rfl⟩
theorem eJ6_bitCount_0f7a4_4 : Dn mJ6_bitCount_0f7a4 4 (.ldc_w 265) 3 7 := ⟨by decide +kernel, rfl⟩
theorem eJ6_bitCount_0f7a4_7 : Dn mJ6_bitCount_0f7a4 7 (.iand) 1 8 := ⟨by decide +kernel, rfl⟩
theorem eJ6_bitCount_0f7a4_8 : Dn mJ6_bitCount_0f7a4 8 (.isub) 1 9 := ⟨by decide +kernel, rfl⟩
theorem eJ6_bitCount_0f7a4_9 : Dn mJ6_bitCount_0f7a4 9 (.istore_n 0) 1 10 := ⟨by decide +kernel, rfl⟩
theorem eJ6_bitCount_0f7a4_10 : Dn mJ6_bitCount_0f7a4 10 (.iload_n 0) 1 11 := ⟨by decide +kernel, rfl⟩
theorem eJ6_bitCount_0f7a4_11 : Dn mJ6_bitCount_0f7a4 11 (.ldc_w 266) 3 14 := ⟨by decide +kernel, rfl⟩
theorem eJ6_bitCount_0f7a4_14 : Dn mJ6_bitCount_0f7a4 14 (.iand) 1 15 := ⟨by decide +kernel, rfl⟩
theorem eJ6_bitCount_0f7a4_15 : Dn mJ6_bitCount_0f7a4 15 (.iload_n 0) 1 16 := ⟨by decide +kernel, rfl⟩
theorem eJ6_bitCount_0f7a4_16 : Dn mJ6_bitCount_0f7a4 16 (.iconst 2) 1 17 := ⟨by decide +kernel, rfl⟩
theorem eJ6_bitCount_0f7a4_17 : Dn mJ6_bitCount_0f7a4 17 (.iushr) 1 18 := ⟨by decide +kernel, rfl⟩
theorem eJ6_bitCount_0f7a4_18 : Dn mJ6_bitCount_0f7a4 18 (.ldc_w 266) 3 21 := ⟨by decide +kernel, rfl⟩
theorem eJ6_bitCount_0f7a4_21 : Dn mJ6_bitCount_0f7a4 21 (.iand) 1 22 := ⟨by decide +kernel, rfl⟩
theorem eJ6_bitCount_0f7a4_22 : Dn mJ6_bitCount_0f7a4 22 (.iadd) 1 23 := ⟨by decide +kernel, rfl⟩
theorem eJ6_bitCount_0f7a4_23 : Dn mJ6_bitCount_0f7a4 23 (.istore_n 0) 1 24 := ⟨by decide +kernel, rfl⟩
theorem eJ6_bitCount_0f7a4_24 : Dn mJ6_bitCount_0f7a4 24 (.iload_n 0) 1 25 := ⟨by decide +kernel, rfl⟩
theorem eJ6_bitCount_0f7a4_25 : Dn mJ6_bitCount_0f7a4 25 (.iload_n 0) 1 26 := ⟨by decide +kernel, rfl⟩
theorem eJ6_bitCount_0f7a4_26 : Dn mJ6_bitCount_0f7a4 26 (.iconst 4) 1 27 := ⟨by decide +kernel, rfl⟩
theorem eJ6_bitCount_0f7a4_27 : Dn mJ6_bitCount_0f7a4 27 (.iushr) 1 28 := ⟨by decide +kernel, rfl⟩
theorem eJ6_bitCount_0f7a4_28 : Dn mJ6_bitCount_0f7a4 28 (.iadd) 1 29 := ⟨by decide +kernel, rfl⟩
theorem eJ6_bitCount_0f7a4_29 : Dn mJ6_bitCount_0f7a4 29 (.ldc_w 267) 3 32 := ⟨by decide +kernel, rfl⟩
theorem eJ6_bitCount_0f7a4_32 : Dn mJ6_bitCount_0f7a4 32 (.iand) 1 33 := ⟨by decide +kernel, rfl⟩
theorem eJ6_bitCount_0f7a4_33 : Dn mJ6_bitCount_0f7a4 33 (.istore_n 0) 1 34 := ⟨by decide +kernel, rfl⟩
theorem eJ6_bitCount_0f7a4_34 : Dn mJ6_bitCount_0f7a4 34 (.iload_n 0) 1 35 := ⟨by decide +kernel, rfl⟩
theorem eJ6_bitCount_0f7a4_35 : Dn mJ6_bitCount_0f7a4 35 (.iload_n 0) 1 36 := ⟨by decide +kernel, rfl⟩
theorem eJ6_bitCount_0f7a4_36 : Dn mJ6_bitCount_0f7a4 36 (.bipush 8) 2 38 := ⟨by decide +kernel, rfl⟩
theorem eJ6_bitCount_0f7a4_38 : Dn mJ6_bitCount_0f7a4 38 (.iushr) 1 39 := ⟨by decide +kernel, rfl⟩
theorem eJ6_bitCount_0f7a4_39 : Dn mJ6_bitCount_0f7a4 39 (.iadd) 1 40 := ⟨by decide +kernel, rfl⟩
theorem eJ6_bitCount_0f7a4_40 : Dn mJ6_bitCount_0f7a4 40 (.istore_n 0) 1 41 := ⟨by decide +kernel, rfl⟩
theorem eJ6_bitCount_0f7a4_41 : Dn mJ6_bitCount_0f7a4 41 (.iload_n 0) 1 42 := ⟨by decide +kernel, rfl⟩
theorem eJ6_bitCount_0f7a4_42 : Dn mJ6_bitCount_0f7a4 42 (.iload_n 0) 1 43 := ⟨by decide +kernel, rfl⟩
theorem eJ6_bitCount_0f7a4_43 : Dn mJ6_bitCount_0f7a4 43 (.bipush 16) 2 45 := ⟨by decide +kernel, rfl⟩
theorem eJ6_bitCount_0f7a4_45 : Dn mJ6_bitCount_0f7a4 45 (.iushr) 1 46 := ⟨by decide +kernel, rfl⟩
theorem eJ6_bitCount_0f7a4_46 : Dn mJ6_bitCount_0f7a4 46 (.iadd) 1 47 := ⟨by decide +kernel, rfl⟩
theorem eJ6_bitCount_0f7a4_47 : Dn mJ6_bitCount_0f7a4 47 (.istore_n 0) 1 48 := ⟨by decide +kernel, rfl⟩
theorem eJ6_bitCount_0f7a4_48 : Dn mJ6_bitCount_0f7a4 48 (.iload_n 0) 1 49 := ⟨by decide +kernel, rfl⟩
theorem eJ6_bitCount_0f7a4_49 : Dn mJ6_bitCount_0f7a4 49 (.bipush 63) 2 51 := ⟨by decide +kernel, rfl⟩
theorem eJ6_bitCount_0f7a4_51 : Dn mJ6_bitCount_0f7a4 51 (.iand) 1 52 := ⟨by decide +kernel, rfl⟩
theorem eJ6_bitCount_0f7a4_52 : Dn mJ6_bitCount_0f7a4 52 (.ireturn) 1 53 := ⟨by decide +kernel, rfl⟩
theorem eJ9_min_7cf53_0 : Dn mJ9_min_7cf53 0 (.iload_n 0) 1 1 := ⟨by decide +kernel, rfl⟩
theorem eJ9_min_7cf53_1 : Dn mJ9_min_7cf53 1 (.iload_n 1) 1 2 := ⟨by decide +kernel, rfl⟩
theorem eJ9_min_7cf53_2 : Dj mJ9_min_7cf53 2 (.if_icmp .gt 7) (7) 5 9 := ⟨by decide +kernel, rfl, rfl⟩
theorem eJ9_min_7cf53_5 : Dn mJ9_min_7cf53 5 (.iload_n 0) 1 6 := ⟨by decide +kernel, rfl⟩
theorem eJ9_min_7cf53_6 : Dj mJ9_min_7cf53 6 (.goto 4) (4) 9 10 := ⟨by decide +kernel, rfl, rfl⟩
theorem eJ9_min_7cf53_9 : Dn mJ9_min_7cf53 9 (.iload_n 1) 1 10 := ⟨by decide +kernel, rfl⟩
theorem eJ9_min_7cf53_10 : Dn mJ9_min_7cf53 10 (.ireturn) 1 11 := ⟨by decide +kernel, rfl⟩
theorem eJ7_fill_53178_0 : Dn mJ7_fill_53178 0 (.iconst 0) 1 1 := ⟨by decide +kernel, rfl⟩
theorem eJ7_fill_53178_1 : Dn mJ7_fill_53178 1 (.istore_n 2) 1 2 := ⟨by decide +kernel, rfl⟩
theorem eJ7_fill_53178_2 : Dn mJ7_fill_53178 2 (.aload_n 0) 1 3 := ⟨by decide +kernel, rfl⟩
theorem eJ7_fill_53178_3 : Dn mJ7_fill_53178 3 (.arraylength) 1 4 := ⟨by decide +kernel, rfl⟩
theorem eJ7_fill_53178_4 : Dn mJ7_fill_53178 4 (.istore_n 3) 1 5 := ⟨by decide +kernel, rfl⟩
theorem eJ7_fill_53178_5 : Dn mJ7_fill_53178 5 (.iload_n 2) 1 6 := ⟨by decide +kernel, rfl⟩
theorem eJ7_fill_53178_6 : Dn mJ7_fill_53178 6 (.iload_n 3) 1 7 := ⟨by decide +kernel, rfl⟩
theorem eJ7_fill_53178_7 : Dj mJ7_fill_53178 7 (.if_icmp .ge 13) (13) 10 20 := ⟨by decide +kernel, rfl, rfl⟩
theorem eJ7_fill_53178_10 : Dn mJ7_fill_53178 10 (.aload_n 0) 1 11 := ⟨by decide +kernel, rfl⟩
theorem eJ7_fill_53178_11 : Dn mJ7_fill_53178 11 (.iload_n 2) 1 12 := ⟨by decide +kernel, rfl⟩
theorem eJ7_fill_53178_12 : Dn mJ7_fill_53178 12 (.iload_n 1) 1 13 := ⟨by decide +kernel, rfl⟩
theorem eJ7_fill_53178_13 : Dn mJ7_fill_53178 13 (.iastore) 1 14 := ⟨by decide +kernel, rfl⟩
theorem eJ7_fill_53178_14 : Dn mJ7_fill_53178 14 (.iinc 2 1) 3 17 := ⟨by decide +kernel, rfl⟩
theorem eJ7_fill_53178_17 : Dj mJ7_fill_53178 17 (.goto (-12)) (-12) 20 5 := ⟨by decide +kernel, rfl, rfl⟩
theorem eJ7_fill_53178_20 : Dn mJ7_fill_53178 20 (.return_) 1 21 := ⟨by decide +kernel, rfl⟩
end
section
theorem eX3_init_0 : Dn mX3_init 0 (.aload_n 0) 1 1 := ⟨by decide +kernel, rfl⟩
theorem eX3_init_1 : Dn mX3_init 1 (.invokespecial 1) 3 4 := ⟨by decide +kernel, rfl⟩
theorem eX3_init_4 : Dn mX3_init 4 (.aload_n 0) 1 5 := ⟨by decide +kernel, rfl⟩
theorem eX3_init_5 : Dn mX3_init 5 (.new 7) 3 8 := ⟨by decide +kernel, rfl⟩
theorem eX3_init_8 : Dn mX3_init 8 (.dup) 1 9 := ⟨by decide +kernel, rfl⟩
theorem eX3_init_9 : Dn mX3_init 9 (.invokespecial 9) 3 12 := ⟨by decide +kernel, rfl⟩
theorem eX3_init_12 : Dn mX3_init 12 (.putfield 10) 3 15 := ⟨by decide +kernel, rfl⟩
theorem eX3_init_15 : Dn mX3_init 15 (.aload_n 0) 1 16 := ⟨by decide +kernel, rfl⟩
theorem eX3_init_16 : Dn mX3_init 16 (.new 7) 3 19 := ⟨by decide +kernel, rfl⟩
theorem eX3_init_19 : Dn mX3_init 19 (.dup) 1 20 := ⟨by decide +kernel, rfl⟩
theorem eX3_init_20 : Dn mX3_init 20 (.invokespecial 9) 3 23 := ⟨by decide +kernel, rfl⟩
theorem eX3_init_23 : Dn mX3_init 23 (.putfield 16) 3 26 := ⟨by decide +kernel, rfl⟩
theorem eX3_init_26 : Dn mX3_init 26 (.aload_n 0) 1 27 := ⟨by decide +kernel, rfl⟩
theorem eX3_init_27 : Dn mX3_init 27 (.new 7) 3 30 := ⟨by decide +kernel, rfl⟩
theorem eX3_init_30 : Dn mX3_init 30 (.dup) 1 31 := ⟨by decide +kernel, rfl⟩
theorem eX3_init_31 : Dn mX3_init 31 (.invokespecial 9) 3 34 := ⟨by decide +kernel, rfl⟩
theorem eX3_init_34 : Dn mX3_init 34 (.putfield 19) 3 37 := ⟨by decide +kernel, rfl⟩
theorem eX3_init_37 : Dn mX3_init 37 (.aload_n 0) 1 38 := ⟨by decide +kernel, rfl⟩
theorem eX3_init_38 : Dn mX3_init 38 (.iconst 0) 1 39 := ⟨by decide +kernel, rfl⟩
theorem eX3_init_39 : Dn mX3_init 39 (.putfield 22) 3 42 := ⟨by decide +kernel, rfl⟩
theorem eX3_init_42 : Dn mX3_init 42 (.aload_n 0) 1 43 := ⟨by decide +kernel, rfl⟩
theorem eX3_init_43 : Dn mX3_init 43 (.new 26) 3 46 := ⟨by decide +kernel, rfl⟩
theorem eX3_init_46 : Dn mX3_init 46 (.dup) 1 47 := ⟨by decide +kernel, rfl⟩
theorem eX3_init_47 : Dn mX3_init 47 (.invokespecial 28) 3 50 := ⟨by decide +kernel, rfl⟩
theorem eX3_init_50 : Dn mX3_init 50 (.putfield 29) 3 53 := ⟨by decide +kernel, rfl⟩
theorem eX3_init_53 : Dn mX3_init 53 (.aload_n 0) 1 54 := ⟨by decide +kernel, rfl⟩
theorem eX3_init_54 : Dn mX3_init 54 (.iconst 4) 1 55 := ⟨by decide +kernel, rfl⟩
theorem eX3_init_55 : Dn mX3_init 55 (.anewarray 33) 3 58 := ⟨by decide +kernel, rfl⟩
theorem eX3_init_58 : Dn mX3_init 58 (.putfield 35) 3 61 := ⟨by decide +kernel, rfl⟩
theorem eX3_init_61 : Dn mX3_init 61 (.iconst 0) 1 62 := ⟨by decide +kernel, rfl⟩
theorem eX3_init_62 : Dn mX3_init 62 (.istore_n 1) 1 63 := ⟨by decide +kernel, rfl⟩
theorem eX3_init_63 : Dn mX3_init 63 (.iload_n 1) 1 64 := ⟨by decide +kernel, rfl⟩
theorem eX3_init_64 : Dn mX3_init 64 (.iconst 4) 1 65 := ⟨by decide +kernel, rfl⟩
theorem eX3_init_65 : Dj mX3_init 65 (.if_icmp .ge 22) (22) 68 87 := ⟨by decide +kernel, rfl, rfl⟩
theorem eX3_init_68 : Dn mX3_init 68 (.aload_n 0) 1 69 := ⟨by decide +kernel, rfl⟩
theorem eX3_init_69 : Dn mX3_init 69 (.getfield 35) 3 72 := ⟨by decide +kernel, rfl⟩
theorem eX3_init_72 : Dn mX3_init 72 (.iload_n 1) 1 73 := ⟨by decide +kernel, rfl⟩
theorem eX3_init_73 : Dn mX3_init 73 (.new 33) 3 76 := ⟨by decide +kernel, rfl⟩
theorem eX3_init_76 : Dn mX3_init 76 (.dup) 1 77 := ⟨by decide +kernel, rfl⟩
theorem eX3_init_77 : Dn mX3_init 77 (.invokespecial 39) 3 80 := ⟨by decide +kernel, rfl⟩
theorem eX3_init_80 : Dn mX3_init 80 (.aastore) 1 81 := ⟨by decide +kernel, rfl⟩
theorem eX3_init_81 : Dn mX3_init 81 (.iinc 1 1) 3 84 := ⟨by decide +kernel, rfl⟩
theorem eX3_init_84 : Dj mX3_init 84 (.goto (-21)) (-21) 87 63 := ⟨by decide +kernel, rfl, rfl⟩
theorem eX3_init_87 : Dn mX3_init 87 (.aload_n 0) 1 88 := ⟨by decide +kernel, rfl⟩
theorem eX3_init_88 : Dn mX3_init 88 (.bipush 7) 2 90 := ⟨by decide +kernel, rfl⟩
theorem eX3_init_90 : Dn mX3_init 90 (.newarray .int) 2 92 := ⟨by decide +kernel, rfl⟩
theorem eX3_init_92 : Dn mX3_init 92 (.putfield 40) 3 95 := ⟨by decide +kernel, rfl⟩
theorem eX3_init_95 : Dn mX3_init 95 (.return_) 1 96 := ⟨by decide +kernel, rfl⟩
theorem eX3_right_0 : Dn mX3_right 0 (.iload_n 1) 1 1 := ⟨by decide +kernel, rfl⟩
theorem eX3_right_1 : Dn mX3_right 1 (.iconst 0) 1 2 := ⟨by decide +kernel, rfl⟩
theorem eX3_right_2 : Dn mX3_right 2 (.bipush 7) 2 4 := ⟨by decide +kernel, rfl⟩
theorem eX3_right_4 : Dn mX3_right 4 (.invokestatic 44) 3 7 := ⟨by decide +kernel, rfl⟩
theorem eX3_right_7 : Dj mX3_right 7 (.ifCond .eq 13) (13) 10 20 := ⟨by decide +kernel, rfl, rfl⟩
theorem eX3_right_10 : Dn mX3_right 10 (.iload_n 2) 1 11 := ⟨by decide +kernel, rfl⟩
theorem eX3_right_11 : Dn mX3_right 11 (.iconst 0) 1 12 := ⟨by decide +kernel, rfl⟩
theorem eX3_right_12 : Dn mX3_right 12 (.bipush 99) 2 14 := ⟨by decide +kernel, rfl⟩
theorem eX3_right_14 : Dn mX3_right 14 (.invokestatic 44) 3 17 := ⟨by decide +kernel, rfl⟩
theorem eX3_right_17 : Dj mX3_right 17 (.ifCond .ne 10) (10) 20 27 := ⟨by decide +kernel, rfl, rfl⟩
theorem eX3_right_20 : Dn mX3_right 20 (.aload_n 0) 1 21 := ⟨by decide +kernel, rfl⟩
theorem eX3_right_21 : Dn mX3_right 21 (.ldc 48) 2 23 := ⟨by decide +kernel, rfl⟩
theorem eX3_right_23 : Dn mX3_right 23 (.invokevirtual 49) 3 26 := ⟨by decide +kernel, rfl⟩
theorem eX3_right_26 : Dn mX3_right 26 (.ireturn) 1 27 := ⟨by decide +kernel, rfl⟩
theorem eX3_right_27 : Dn mX3_right 27 (.aload_n 0) 1 28 := ⟨by decide +kernel, rfl⟩
theorem eX3_right_28 : Dn mX3_right 28 (.getfield 10) 3 31 := ⟨by decide +kernel, rfl⟩
theorem eX3_right_31 : Dn mX3_right 31 (.getfield 53) 3 34 := ⟨by decide +kernel, rfl⟩
theorem eX3_right_34 : Dn mX3_right 34 (.iload_n 1) 1 35 := ⟨by decide +kernel, rfl⟩
theorem eX3_right_35 : Dn mX3_right 35 (.iaload) 1 36 := ⟨by decide +kernel, rfl⟩
theorem eX3_right_36 : Dn mX3_right 36 (.istore_n 3) 1 37 := ⟨by decide +kernel, rfl⟩
theorem eX3_right_37 : Dn mX3_right 37 (.aload_n 0) 1 38 := ⟨by decide +kernel, rfl⟩
theorem eX3_right_38 : Dn mX3_right 38 (.getfield 10) 3 41 := ⟨by decide +kernel, rfl⟩
theorem eX3_right_41 : Dn mX3_right 41 (.getfield 53) 3 44 := ⟨by decide +kernel, rfl⟩
theorem eX3_right_44 : Dn mX3_right 44 (.iload_n 1) 1 45 := ⟨by decide +kernel, rfl⟩
theorem eX3_right_45 : Dn mX3_right 45 (.iload_n 2) 1 46 := ⟨by decide +kernel, rfl⟩
theorem eX3_right_46 : Dn mX3_right 46 (.iastore) 1 47 := ⟨by decide +kernel, rfl⟩
theorem eX3_right_47 : Dn mX3_right 47 (.iload_n 3) 1 48 := ⟨by decide +kernel, rfl⟩
theorem eX3_right_48 : Dn mX3_right 48 (.ireturn) 1 49 := ⟨by decide +kernel, rfl⟩
theorem eX3_isRight_0 : Dn mX3_isRight 0 (.iload_n 1) 1 1 := ⟨by decide +kernel, rfl⟩
theorem eX3_isRight_1 : Dn mX3_isRight 1 (.iconst 0) 1 2 := ⟨by decide +kernel, rfl⟩
theorem eX3_isRight_2 : Dn mX3_isRight 2 (.bipush 7) 2 4 := ⟨by decide +kernel, rfl⟩
theorem eX3_isRight_4 : Dn mX3_isRight 4 (.invokestatic 44) 3 7 := ⟨by decide +kernel, rfl⟩
theorem eX3_isRight_7 : Dj mX3_isRight 7 (.ifCond .ne 10) (10) 10 17 := ⟨by decide +kernel, rfl, rfl⟩
theorem eX3_isRight_10 : Dn mX3_isRight 10 (.aload_n 0) 1 11 := ⟨by decide +kernel, rfl⟩
theorem eX3_isRight_11 : Dn mX3_isRight 11 (.ldc 48) 2 13 := ⟨by decide +kernel, rfl⟩
theorem eX3_isRight_13 : Dn mX3_isRight 13 (.invokevirtual 49) 3 16 := ⟨by decide +kernel, rfl⟩
theorem eX3_isRight_16 : Dn mX3_isRight 16 (.ireturn) 1 17 := ⟨by decide +kernel, rfl⟩
theorem eX3_isRight_17 : Dn mX3_isRight 17 (.aload_n 0) 1 18 := ⟨by decide +kernel, rfl⟩
theorem eX3_isRight_18 : Dn mX3_isRight 18 (.getfield 10) 3 21 := ⟨by decide +kernel, rfl⟩
theorem eX3_isRight_21 : Dn mX3_isRight 21 (.getfield 53) 3 24 := ⟨by decide +kernel, rfl⟩
theorem eX3_isRight_24 : Dn mX3_isRight 24 (.iload_n 1) 1 25 := ⟨by decide +kernel, rfl⟩
theorem eX3_isRight_25 : Dn mX3_isRight 25 (.iaload) 1 26 := ⟨by decide +kernel, rfl⟩
theorem eX3_isRight_26 : Dn mX3_isRight 26 (.ireturn) 1 27 := ⟨by decide +kernel, rfl⟩
theorem eX3_limit_0 : Dn mX3_limit 0 (.iload_n 1) 1 1 := ⟨by decide +kernel, rfl⟩
theorem eX3_limit_1 : Dn mX3_limit 1 (.iconst 1) 1 2 := ⟨by decide +kernel, rfl⟩
theorem eX3_limit_2 : Dn mX3_limit 2 (.bipush 9) 2 4 := ⟨by decide +kernel, rfl⟩
theorem eX3_limit_4 : Dn mX3_limit 4 (.invokestatic 44) 3 7 := ⟨by decide +kernel, rfl⟩
theorem eX3_limit_7 : Dj mX3_limit 7 (.ifCond .ne 10) (10) 10 17 := ⟨by decide +kernel, rfl, rfl⟩
theorem eX3_limit_10 : Dn mX3_limit 10 (.aload_n 0) 1 11 := ⟨by decide +kernel, rfl⟩
theorem eX3_limit_11 : Dn mX3_limit 11 (.ldc 48) 2 13 := ⟨by decide +kernel, rfl⟩
theorem eX3_limit_13 : Dn mX3_limit 13 (.invokevirtual 49) 3 16 := ⟨by decide +kernel, rfl⟩
theorem eX3_limit_16 : Dn mX3_limit 16 (.ireturn) 1 17 := ⟨by decide +kernel, rfl⟩
theorem eX3_limit_17 : Dn mX3_limit 17 (.aload_n 0) 1 18 := ⟨by decide +kernel, rfl⟩
theorem eX3_limit_18 : Dn mX3_limit 18 (.getfield 10) 3 21 := ⟨by decide +kernel, rfl⟩
theorem eX3_limit_21 : Dn mX3_limit 21 (.getfield 56) 3 24 := ⟨by decide +kernel, rfl⟩
theorem eX3_limit_24 : Dn mX3_limit 24 (.istore_n 2) 1 25 := ⟨by decide +kernel, rfl⟩
theorem eX3_limit_25 : Dn mX3_limit 25 (.aload_n 0) 1 26 := ⟨by decide +kernel, rfl⟩
theorem eX3_limit_26 : Dn mX3_limit 26 (.getfield 10) 3 29 := ⟨by decide +kernel, rfl⟩
theorem eX3_limit_29 : Dn mX3_limit 29 (.iload_n 1) 1 30 := ⟨by decide +kernel, rfl⟩
theorem eX3_limit_30 : Dn mX3_limit 30 (.putfield 56) 3 33 := ⟨by decide +kernel, rfl⟩
theorem eX3_limit_33 : Dn mX3_limit 33 (.iload_n 2) 1 34 := ⟨by decide +kernel, rfl⟩
theorem eX3_limit_34 : Dn mX3_limit 34 (.ireturn) 1 35 := ⟨by decide +kernel, rfl⟩
theorem eX3_child_0 : Dn mX3_child 0 (.iload_n 1) 1 1 := ⟨by decide +kernel, rfl⟩
theorem eX3_child_1 : Dn mX3_child 1 (.iconst 0) 1 2 := ⟨by decide +kernel, rfl⟩
theorem eX3_child_2 : Dn mX3_child 2 (.bipush 6) 2 4 := ⟨by decide +kernel, rfl⟩
theorem eX3_child_4 : Dn mX3_child 4 (.invokestatic 44) 3 7 := ⟨by decide +kernel, rfl⟩
theorem eX3_child_7 : Dj mX3_child 7 (.ifCond .eq 14) (14) 10 21 := ⟨by decide +kernel, rfl, rfl⟩
theorem eX3_child_10 : Dn mX3_child 10 (.iload_n 2) 1 11 := ⟨by decide +kernel, rfl⟩
theorem eX3_child_11 : Dn mX3_child 11 (.iconst 0) 1 12 := ⟨by decide +kernel, rfl⟩
theorem eX3_child_12 : Dn mX3_child 12 (.sipush 255) 3 15 := ⟨by decide +kernel, rfl⟩
theorem eX3_child_15 : Dn mX3_child 15 (.invokestatic 44) 3 18 := ⟨by decide +kernel, rfl⟩
theorem eX3_child_18 : Dj mX3_child 18 (.ifCond .ne 10) (10) 21 28 := ⟨by decide +kernel, rfl, rfl⟩
theorem eX3_child_21 : Dn mX3_child 21 (.aload_n 0) 1 22 := ⟨by decide +kernel, rfl⟩
theorem eX3_child_22 : Dn mX3_child 22 (.ldc 48) 2 24 := ⟨by decide +kernel, rfl⟩
theorem eX3_child_24 : Dn mX3_child 24 (.invokevirtual 49) 3 27 := ⟨by decide +kernel, rfl⟩
theorem eX3_child_27 : Dn mX3_child 27 (.ireturn) 1 28 := ⟨by decide +kernel, rfl⟩
theorem eX3_child_28 : Dn mX3_child 28 (.aload_n 0) 1 29 := ⟨by decide +kernel, rfl⟩
theorem eX3_child_29 : Dn mX3_child 29 (.getfield 10) 3 32 := ⟨by decide +kernel, rfl⟩
theorem eX3_child_32 : Dn mX3_child 32 (.getfield 60) 3 35 := ⟨by decide +kernel, rfl⟩
theorem eX3_child_35 : Dn mX3_child 35 (.bipush 8) 2 37 := ⟨by decide +kernel, rfl⟩
theorem eX3_child_37 : Dj mX3_child 37 (.if_icmp .lt 10) (10) 40 47 := ⟨by decide +kernel, rfl, rfl⟩
theorem eX3_child_40 : Dn mX3_child 40 (.aload_n 0) 1 41 := ⟨by decide +kernel, rfl⟩
theorem eX3_child_41 : Dn mX3_child 41 (.ldc 63) 2 43 := ⟨by decide +kernel, rfl⟩
theorem eX3_child_43 : Dn mX3_child 43 (.invokevirtual 49) 3 46 := ⟨by decide +kernel, rfl⟩
theorem eX3_child_46 : Dn mX3_child 46 (.ireturn) 1 47 := ⟨by decide +kernel, rfl⟩
theorem eX3_child_47 : Dn mX3_child 47 (.aload_n 0) 1 48 := ⟨by decide +kernel, rfl⟩
theorem eX3_child_48 : Dn mX3_child 48 (.getfield 10) 3 51 := ⟨by decide +kernel, rfl⟩
theorem eX3_child_51 : Dn mX3_child 51 (.iload_n 1) 1 52 := ⟨by decide +kernel, rfl⟩
theorem eX3_child_52 : Dn mX3_child 52 (.iload_n 2) 1 53 := ⟨by decide +kernel, rfl⟩
theorem eX3_child_53 : Dn mX3_child 53 (.invokevirtual 64) 3 56 := ⟨by decide +kernel, rfl⟩
theorem eX3_child_56 : Dn mX3_child 56 (.ireturn) 1 57 := ⟨by decide +kernel, rfl⟩
theorem eX3_of_0 : Dn mX3_of 0 (.aload_n 0) 1 1 := ⟨by decide +kernel, rfl⟩
theorem eX3_of_1 : Dn mX3_of 1 (.getfield 10) 3 4 := ⟨by decide +kernel, rfl⟩
theorem eX3_of_4 : Dn mX3_of 4 (.iload_n 1) 1 5 := ⟨by decide +kernel, rfl⟩
theorem eX3_of_5 : Dn mX3_of 5 (.invokevirtual 68) 3 8 := ⟨by decide +kernel, rfl⟩
theorem eX3_of_8 : Dj mX3_of 8 (.ifCond .eq 13) (13) 11 21 := ⟨by decide +kernel, rfl, rfl⟩
theorem eX3_of_11 : Dn mX3_of 11 (.iload_n 2) 1 12 := ⟨by decide +kernel, rfl⟩
theorem eX3_of_12 : Dn mX3_of 12 (.iconst 0) 1 13 := ⟨by decide +kernel, rfl⟩
theorem eX3_of_13 : Dn mX3_of 13 (.bipush 8) 2 15 := ⟨by decide +kernel, rfl⟩
theorem eX3_of_15 : Dn mX3_of 15 (.invokestatic 44) 3 18 := ⟨by decide +kernel, rfl⟩
theorem eX3_of_18 : Dj mX3_of 18 (.ifCond .ne 10) (10) 21 28 := ⟨by decide +kernel, rfl, rfl⟩
theorem eX3_of_21 : Dn mX3_of 21 (.aload_n 0) 1 22 := ⟨by decide +kernel, rfl⟩
theorem eX3_of_22 : Dn mX3_of 22 (.ldc 48) 2 24 := ⟨by decide +kernel, rfl⟩
theorem eX3_of_24 : Dn mX3_of 24 (.invokevirtual 49) 3 27 := ⟨by decide +kernel, rfl⟩
theorem eX3_of_27 : Dn mX3_of 27 (.ireturn) 1 28 := ⟨by decide +kernel, rfl⟩
theorem eX3_of_28 : Dn mX3_of 28 (.iload_n 2) 1 29 := ⟨by decide +kernel, rfl⟩
theorem eX3_of_29 : Dn mX3_of 29 (.tableswitch 62 6 8 #[27, 36, 53]) 27 56 := ⟨by decide +kernel, rfl⟩
theorem eX3_of_56 : Dn mX3_of 56 (.aload_n 0) 1 57 := ⟨by decide +kernel, rfl⟩
theorem eX3_of_57 : Dn mX3_of 57 (.getfield 10) 3 60 := ⟨by decide +kernel, rfl⟩
theorem eX3_of_60 : Dn mX3_of 60 (.iload_n 1) 1 61 := ⟨by decide +kernel, rfl⟩
theorem eX3_of_61 : Dn mX3_of 61 (.invokevirtual 72) 3 64 := ⟨by decide +kernel, rfl⟩
theorem eX3_of_64 : Dn mX3_of 64 (.ireturn) 1 65 := ⟨by decide +kernel, rfl⟩
theorem eX3_of_65 : Dn mX3_of 65 (.aload_n 0) 1 66 := ⟨by decide +kernel, rfl⟩
theorem eX3_of_66 : Dn mX3_of 66 (.getfield 10) 3 69 := ⟨by decide +kernel, rfl⟩
theorem eX3_of_69 : Dn mX3_of 69 (.iload_n 1) 1 70 := ⟨by decide +kernel, rfl⟩
theorem eX3_of_70 : Dn mX3_of 70 (.invokevirtual 75) 3 73 := ⟨by decide +kernel, rfl⟩
theorem eX3_of_73 : Dj mX3_of 73 (.ifCond .eq 7) (7) 76 80 := ⟨by decide +kernel, rfl, rfl⟩
theorem eX3_of_76 : Dn mX3_of 76 (.iconst 1) 1 77 := ⟨by decide +kernel, rfl⟩
theorem eX3_of_77 : Dj mX3_of 77 (.goto 4) (4) 80 81 := ⟨by decide +kernel, rfl, rfl⟩
theorem eX3_of_80 : Dn mX3_of 80 (.iconst 0) 1 81 := ⟨by decide +kernel, rfl⟩
theorem eX3_of_81 : Dn mX3_of 81 (.ireturn) 1 82 := ⟨by decide +kernel, rfl⟩
theorem eX3_of_82 : Dn mX3_of 82 (.aload_n 0) 1 83 := ⟨by decide +kernel, rfl⟩
theorem eX3_of_83 : Dn mX3_of 83 (.getfield 10) 3 86 := ⟨by decide +kernel, rfl⟩
theorem eX3_of_86 : Dn mX3_of 86 (.iload_n 1) 1 87 := ⟨by decide +kernel, rfl⟩
theorem eX3_of_87 : Dn mX3_of 87 (.invokevirtual 78) 3 90 := ⟨by decide +kernel, rfl⟩
theorem eX3_of_90 : Dn mX3_of 90 (.ireturn) 1 91 := ⟨by decide +kernel, rfl⟩
theorem eX3_of_91 : Dn mX3_of 91 (.aload_n 0) 1 92 := ⟨by decide +kernel, rfl⟩
theorem eX3_of_92 : Dn mX3_of 92 (.getfield 10) 3 95 := ⟨by decide +kernel, rfl⟩
theorem eX3_of_95 : Dn mX3_of 95 (.iload_n 1) 1 96 := ⟨by decide +kernel, rfl⟩
theorem eX3_of_96 : Dn mX3_of 96 (.iload_n 2) 1 97 := ⟨by decide +kernel, rfl⟩
theorem eX3_of_97 : Dn mX3_of 97 (.invokevirtual 81) 3 100 := ⟨by decide +kernel, rfl⟩
theorem eX3_of_100 : Dn mX3_of 100 (.ireturn) 1 101 := ⟨by decide +kernel, rfl⟩
theorem eX3_change_0 : Dn mX3_change 0 (.aload_n 0) 1 1 := ⟨by decide +kernel, rfl⟩
theorem eX3_change_1 : Dn mX3_change 1 (.getfield 10) 3 4 := ⟨by decide +kernel, rfl⟩
theorem eX3_change_4 : Dn mX3_change 4 (.iload_n 1) 1 5 := ⟨by decide +kernel, rfl⟩
theorem eX3_change_5 : Dn mX3_change 5 (.invokevirtual 68) 3 8 := ⟨by decide +kernel, rfl⟩
theorem eX3_change_8 : Dj mX3_change 8 (.ifCond .eq 22) (22) 11 30 := ⟨by decide +kernel, rfl, rfl⟩
theorem eX3_change_11 : Dn mX3_change 11 (.iload_n 2) 1 12 := ⟨by decide +kernel, rfl⟩
theorem eX3_change_12 : Dn mX3_change 12 (.iconst 0) 1 13 := ⟨by decide +kernel, rfl⟩
theorem eX3_change_13 : Dn mX3_change 13 (.iconst 5) 1 14 := ⟨by decide +kernel, rfl⟩
theorem eX3_change_14 : Dn mX3_change 14 (.invokestatic 44) 3 17 := ⟨by decide +kernel, rfl⟩
theorem eX3_change_17 : Dj mX3_change 17 (.ifCond .eq 13) (13) 20 30 := ⟨by decide +kernel, rfl, rfl⟩
theorem eX3_change_20 : Dn mX3_change 20 (.aload_n 0) 1 21 := ⟨by decide +kernel, rfl⟩
theorem eX3_change_21 : Dn mX3_change 21 (.iload_n 1) 1 22 := ⟨by decide +kernel, rfl⟩
theorem eX3_change_22 : Dn mX3_change 22 (.iload_n 2) 1 23 := ⟨by decide +kernel, rfl⟩
theorem eX3_change_23 : Dn mX3_change 23 (.iload_n 3) 1 24 := ⟨by decide +kernel, rfl⟩
theorem eX3_change_24 : Dn mX3_change 24 (.invokevirtual 84) 3 27 := ⟨by decide +kernel, rfl⟩
theorem eX3_change_27 : Dj mX3_change 27 (.ifCond .ne 10) (10) 30 37 := ⟨by decide +kernel, rfl, rfl⟩
theorem eX3_change_30 : Dn mX3_change 30 (.aload_n 0) 1 31 := ⟨by decide +kernel, rfl⟩
theorem eX3_change_31 : Dn mX3_change 31 (.ldc 48) 2 33 := ⟨by decide +kernel, rfl⟩
theorem eX3_change_33 : Dn mX3_change 33 (.invokevirtual 49) 3 36 := ⟨by decide +kernel, rfl⟩
theorem eX3_change_36 : Dn mX3_change 36 (.ireturn) 1 37 := ⟨by decide +kernel, rfl⟩
theorem eX3_change_37 : Dn mX3_change 37 (.aload_n 0) 1 38 := ⟨by decide +kernel, rfl⟩
theorem eX3_change_38 : Dn mX3_change 38 (.getfield 10) 3 41 := ⟨by decide +kernel, rfl⟩
theorem eX3_change_41 : Dn mX3_change 41 (.iload_n 1) 1 42 := ⟨by decide +kernel, rfl⟩
theorem eX3_change_42 : Dn mX3_change 42 (.iload_n 2) 1 43 := ⟨by decide +kernel, rfl⟩
theorem eX3_change_43 : Dn mX3_change 43 (.invokevirtual 81) 3 46 := ⟨by decide +kernel, rfl⟩
theorem eX3_change_46 : Dn mX3_change 46 (.istore 4) 2 48 := ⟨by decide +kernel, rfl⟩
theorem eX3_change_48 : Dn mX3_change 48 (.aload_n 0) 1 49 := ⟨by decide +kernel, rfl⟩
theorem eX3_change_49 : Dn mX3_change 49 (.getfield 10) 3 52 := ⟨by decide +kernel, rfl⟩
theorem eX3_change_52 : Dn mX3_change 52 (.iload_n 1) 1 53 := ⟨by decide +kernel, rfl⟩
theorem eX3_change_53 : Dn mX3_change 53 (.iload_n 2) 1 54 := ⟨by decide +kernel, rfl⟩
theorem eX3_change_54 : Dn mX3_change 54 (.iload_n 3) 1 55 := ⟨by decide +kernel, rfl⟩
theorem eX3_change_55 : Dn mX3_change 55 (.invokevirtual 87) 3 58 := ⟨by decide +kernel, rfl⟩
theorem eX3_change_58 : Dn mX3_change 58 (.iload 4) 2 60 := ⟨by decide +kernel, rfl⟩
theorem eX3_change_60 : Dn mX3_change 60 (.ireturn) 1 61 := ⟨by decide +kernel, rfl⟩
theorem eX3_answer_0 : Dn mX3_answer 0 (.aload_n 0) 1 1 := ⟨by decide +kernel, rfl⟩
theorem eX3_answer_1 : Dn mX3_answer 1 (.getfield 10) 3 4 := ⟨by decide +kernel, rfl⟩
theorem eX3_answer_4 : Dn mX3_answer 4 (.iload_n 1) 1 5 := ⟨by decide +kernel, rfl⟩
theorem eX3_answer_5 : Dn mX3_answer 5 (.invokevirtual 68) 3 8 := ⟨by decide +kernel, rfl⟩
theorem eX3_answer_8 : Dj mX3_answer 8 (.ifCond .eq 13) (13) 11 21 := ⟨by decide +kernel, rfl, rfl⟩
theorem eX3_answer_11 : Dn mX3_answer 11 (.iload_n 2) 1 12 := ⟨by decide +kernel, rfl⟩
theorem eX3_answer_12 : Dn mX3_answer 12 (.iconst 0) 1 13 := ⟨by decide +kernel, rfl⟩
theorem eX3_answer_13 : Dn mX3_answer 13 (.bipush 7) 2 15 := ⟨by decide +kernel, rfl⟩
theorem eX3_answer_15 : Dn mX3_answer 15 (.invokestatic 44) 3 18 := ⟨by decide +kernel, rfl⟩
theorem eX3_answer_18 : Dj mX3_answer 18 (.ifCond .ne 10) (10) 21 28 := ⟨by decide +kernel, rfl, rfl⟩
theorem eX3_answer_21 : Dn mX3_answer 21 (.aload_n 0) 1 22 := ⟨by decide +kernel, rfl⟩
theorem eX3_answer_22 : Dn mX3_answer 22 (.ldc 48) 2 24 := ⟨by decide +kernel, rfl⟩
theorem eX3_answer_24 : Dn mX3_answer 24 (.invokevirtual 49) 3 27 := ⟨by decide +kernel, rfl⟩
theorem eX3_answer_27 : Dn mX3_answer 27 (.ireturn) 1 28 := ⟨by decide +kernel, rfl⟩
theorem eX3_answer_28 : Dn mX3_answer 28 (.aload_n 0) 1 29 := ⟨by decide +kernel, rfl⟩
theorem eX3_answer_29 : Dn mX3_answer 29 (.getfield 10) 3 32 := ⟨by decide +kernel, rfl⟩
theorem eX3_answer_32 : Dn mX3_answer 32 (.iload_n 1) 1 33 := ⟨by decide +kernel, rfl⟩
theorem eX3_answer_33 : Dn mX3_answer 33 (.iload_n 2) 1 34 := ⟨by decide +kernel, rfl⟩
theorem eX3_answer_34 : Dn mX3_answer 34 (.invokevirtual 91) 3 37 := ⟨by decide +kernel, rfl⟩
theorem eX3_answer_37 : Dn mX3_answer 37 (.ireturn) 1 38 := ⟨by decide +kernel, rfl⟩
theorem eX3_slips_0 : Dn mX3_slips 0 (.aload_n 0) 1 1 := ⟨by decide +kernel, rfl⟩
theorem eX3_slips_1 : Dn mX3_slips 1 (.getfield 10) 3 4 := ⟨by decide +kernel, rfl⟩
theorem eX3_slips_4 : Dn mX3_slips 4 (.iload_n 1) 1 5 := ⟨by decide +kernel, rfl⟩
theorem eX3_slips_5 : Dn mX3_slips 5 (.invokevirtual 68) 3 8 := ⟨by decide +kernel, rfl⟩
theorem eX3_slips_8 : Dj mX3_slips 8 (.ifCond .eq 23) (23) 11 31 := ⟨by decide +kernel, rfl, rfl⟩
theorem eX3_slips_11 : Dn mX3_slips 11 (.iload_n 2) 1 12 := ⟨by decide +kernel, rfl⟩
theorem eX3_slips_12 : Dn mX3_slips 12 (.iconst 0) 1 13 := ⟨by decide +kernel, rfl⟩
theorem eX3_slips_13 : Dn mX3_slips 13 (.bipush 7) 2 15 := ⟨by decide +kernel, rfl⟩
theorem eX3_slips_15 : Dn mX3_slips 15 (.invokestatic 44) 3 18 := ⟨by decide +kernel, rfl⟩
theorem eX3_slips_18 : Dj mX3_slips 18 (.ifCond .eq 13) (13) 21 31 := ⟨by decide +kernel, rfl, rfl⟩
theorem eX3_slips_21 : Dn mX3_slips 21 (.iload_n 3) 1 22 := ⟨by decide +kernel, rfl⟩
theorem eX3_slips_22 : Dn mX3_slips 22 (.iconst (-1)) 1 23 := ⟨by decide +kernel, rfl⟩
theorem eX3_slips_23 : Dn mX3_slips 23 (.bipush 99) 2 25 := ⟨by decide +kernel, rfl⟩
theorem eX3_slips_25 : Dn mX3_slips 25 (.invokestatic 44) 3 28 := ⟨by decide +kernel, rfl⟩
theorem eX3_slips_28 : Dj mX3_slips 28 (.ifCond .ne 10) (10) 31 38 := ⟨by decide +kernel, rfl, rfl⟩
theorem eX3_slips_31 : Dn mX3_slips 31 (.aload_n 0) 1 32 := ⟨by decide +kernel, rfl⟩
theorem eX3_slips_32 : Dn mX3_slips 32 (.ldc 48) 2 34 := ⟨by decide +kernel, rfl⟩
theorem eX3_slips_34 : Dn mX3_slips 34 (.invokevirtual 49) 3 37 := ⟨by decide +kernel, rfl⟩
theorem eX3_slips_37 : Dn mX3_slips 37 (.ireturn) 1 38 := ⟨by decide +kernel, rfl⟩
theorem eX3_slips_38 : Dn mX3_slips 38 (.aload_n 0) 1 39 := ⟨by decide +kernel, rfl⟩
theorem eX3_slips_39 : Dn mX3_slips 39 (.getfield 10) 3 42 := ⟨by decide +kernel, rfl⟩
theorem eX3_slips_42 : Dn mX3_slips 42 (.iload_n 1) 1 43 := ⟨by decide +kernel, rfl⟩
theorem eX3_slips_43 : Dn mX3_slips 43 (.iload_n 2) 1 44 := ⟨by decide +kernel, rfl⟩
theorem eX3_slips_44 : Dn mX3_slips 44 (.iload_n 3) 1 45 := ⟨by decide +kernel, rfl⟩
theorem eX3_slips_45 : Dn mX3_slips 45 (.invokevirtual 94) 3 48 := ⟨by decide +kernel, rfl⟩
theorem eX3_slips_48 : Dn mX3_slips 48 (.ireturn) 1 49 := ⟨by decide +kernel, rfl⟩
theorem eX3_alike_0 : Dn mX3_alike 0 (.aload_n 0) 1 1 := ⟨by decide +kernel, rfl⟩
theorem eX3_alike_1 : Dn mX3_alike 1 (.getfield 10) 3 4 := ⟨by decide +kernel, rfl⟩
theorem eX3_alike_4 : Dn mX3_alike 4 (.iload_n 1) 1 5 := ⟨by decide +kernel, rfl⟩
theorem eX3_alike_5 : Dn mX3_alike 5 (.invokevirtual 68) 3 8 := ⟨by decide +kernel, rfl⟩
theorem eX3_alike_8 : Dj mX3_alike 8 (.ifCond .eq 19) (19) 11 27 := ⟨by decide +kernel, rfl, rfl⟩
theorem eX3_alike_11 : Dn mX3_alike 11 (.aload_n 0) 1 12 := ⟨by decide +kernel, rfl⟩
theorem eX3_alike_12 : Dn mX3_alike 12 (.getfield 10) 3 15 := ⟨by decide +kernel, rfl⟩
theorem eX3_alike_15 : Dn mX3_alike 15 (.iload_n 2) 1 16 := ⟨by decide +kernel, rfl⟩
theorem eX3_alike_16 : Dn mX3_alike 16 (.invokevirtual 68) 3 19 := ⟨by decide +kernel, rfl⟩
theorem eX3_alike_19 : Dj mX3_alike 19 (.ifCond .eq 8) (8) 22 27 := ⟨by decide +kernel, rfl, rfl⟩
theorem eX3_alike_22 : Dn mX3_alike 22 (.iload_n 1) 1 23 := ⟨by decide +kernel, rfl⟩
theorem eX3_alike_23 : Dn mX3_alike 23 (.iload_n 2) 1 24 := ⟨by decide +kernel, rfl⟩
theorem eX3_alike_24 : Dj mX3_alike 24 (.if_icmp .ne 10) (10) 27 34 := ⟨by decide +kernel, rfl, rfl⟩
theorem eX3_alike_27 : Dn mX3_alike 27 (.aload_n 0) 1 28 := ⟨by decide +kernel, rfl⟩
theorem eX3_alike_28 : Dn mX3_alike 28 (.ldc 48) 2 30 := ⟨by decide +kernel, rfl⟩
theorem eX3_alike_30 : Dn mX3_alike 30 (.invokevirtual 49) 3 33 := ⟨by decide +kernel, rfl⟩
theorem eX3_alike_33 : Dn mX3_alike 33 (.ireturn) 1 34 := ⟨by decide +kernel, rfl⟩
theorem eX3_alike_34 : Dn mX3_alike 34 (.aload_n 0) 1 35 := ⟨by decide +kernel, rfl⟩
theorem eX3_alike_35 : Dn mX3_alike 35 (.getfield 10) 3 38 := ⟨by decide +kernel, rfl⟩
theorem eX3_alike_38 : Dn mX3_alike 38 (.iload_n 1) 1 39 := ⟨by decide +kernel, rfl⟩
theorem eX3_alike_39 : Dn mX3_alike 39 (.iload_n 2) 1 40 := ⟨by decide +kernel, rfl⟩
theorem eX3_alike_40 : Dn mX3_alike 40 (.invokevirtual 98) 3 43 := ⟨by decide +kernel, rfl⟩
theorem eX3_alike_43 : Dn mX3_alike 43 (.ireturn) 1 44 := ⟨by decide +kernel, rfl⟩
theorem eX3_go_0 : Dn mX3_go 0 (.iload_n 1) 1 1 := ⟨by decide +kernel, rfl⟩
theorem eX3_go_1 : Dn mX3_go 1 (.iconst 1) 1 2 := ⟨by decide +kernel, rfl⟩
theorem eX3_go_2 : Dn mX3_go 2 (.bipush 60) 2 4 := ⟨by decide +kernel, rfl⟩
theorem eX3_go_4 : Dn mX3_go 4 (.invokestatic 44) 3 7 := ⟨by decide +kernel, rfl⟩
theorem eX3_go_7 : Dj mX3_go 7 (.ifCond .ne 10) (10) 10 17 := ⟨by decide +kernel, rfl, rfl⟩
theorem eX3_go_10 : Dn mX3_go 10 (.aload_n 0) 1 11 := ⟨by decide +kernel, rfl⟩
theorem eX3_go_11 : Dn mX3_go 11 (.ldc 48) 2 13 := ⟨by decide +kernel, rfl⟩
theorem eX3_go_13 : Dn mX3_go 13 (.invokevirtual 49) 3 16 := ⟨by decide +kernel, rfl⟩
theorem eX3_go_16 : Dn mX3_go 16 (.ireturn) 1 17 := ⟨by decide +kernel, rfl⟩
theorem eX3_go_17 : Dn mX3_go 17 (.aload_n 0) 1 18 := ⟨by decide +kernel, rfl⟩
theorem eX3_go_18 : Dn mX3_go 18 (.getfield 10) 3 21 := ⟨by decide +kernel, rfl⟩
theorem eX3_go_21 : Dn mX3_go 21 (.getfield 101) 3 24 := ⟨by decide +kernel, rfl⟩
theorem eX3_go_24 : Dn mX3_go 24 (.iload_n 1) 1 25 := ⟨by decide +kernel, rfl⟩
theorem eX3_go_25 : Dn mX3_go 25 (.iadd) 1 26 := ⟨by decide +kernel, rfl⟩
theorem eX3_go_26 : Dn mX3_go 26 (.ldc 104) 2 28 := ⟨by decide +kernel, rfl⟩
theorem eX3_go_28 : Dj mX3_go 28 (.if_icmp .le 10) (10) 31 38 := ⟨by decide +kernel, rfl, rfl⟩
theorem eX3_go_31 : Dn mX3_go 31 (.aload_n 0) 1 32 := ⟨by decide +kernel, rfl⟩
theorem eX3_go_32 : Dn mX3_go 32 (.ldc 105) 2 34 := ⟨by decide +kernel, rfl⟩
theorem eX3_go_34 : Dn mX3_go 34 (.invokevirtual 49) 3 37 := ⟨by decide +kernel, rfl⟩
theorem eX3_go_37 : Dn mX3_go 37 (.ireturn) 1 38 := ⟨by decide +kernel, rfl⟩
theorem eX3_go_38 : Dn mX3_go 38 (.aload_n 0) 1 39 := ⟨by decide +kernel, rfl⟩
theorem eX3_go_39 : Dn mX3_go 39 (.getfield 10) 3 42 := ⟨by decide +kernel, rfl⟩
theorem eX3_go_42 : Dn mX3_go 42 (.iload_n 1) 1 43 := ⟨by decide +kernel, rfl⟩
theorem eX3_go_43 : Dn mX3_go 43 (.invokevirtual 106) 3 46 := ⟨by decide +kernel, rfl⟩
theorem eX3_go_46 : Dn mX3_go 46 (.aload_n 0) 1 47 := ⟨by decide +kernel, rfl⟩
theorem eX3_go_47 : Dn mX3_go 47 (.getfield 10) 3 50 := ⟨by decide +kernel, rfl⟩
theorem eX3_go_50 : Dn mX3_go 50 (.iconst 3) 1 51 := ⟨by decide +kernel, rfl⟩
theorem eX3_go_51 : Dn mX3_go 51 (.invokevirtual 110) 3 54 := ⟨by decide +kernel, rfl⟩
theorem eX3_go_54 : Dn mX3_go 54 (.ireturn) 1 55 := ⟨by decide +kernel, rfl⟩
theorem eX3_now_0 : Dn mX3_now 0 (.iload_n 1) 1 1 := ⟨by decide +kernel, rfl⟩
theorem eX3_now_1 : Dn mX3_now 1 (.tableswitch 102 0 6 #[43, 51, 60, 69, 78, 86, 94]) 43 44 := ⟨by decide +kernel, rfl⟩
theorem eX3_now_44 : Dn mX3_now 44 (.aload_n 0) 1 45 := ⟨by decide +kernel, rfl⟩
theorem eX3_now_45 : Dn mX3_now 45 (.getfield 10) 3 48 := ⟨by decide +kernel, rfl⟩
theorem eX3_now_48 : Dn mX3_now 48 (.getfield 101) 3 51 := ⟨by decide +kernel, rfl⟩
theorem eX3_now_51 : Dn mX3_now 51 (.ireturn) 1 52 := ⟨by decide +kernel, rfl⟩
theorem eX3_now_52 : Dn mX3_now 52 (.aload_n 0) 1 53 := ⟨by decide +kernel, rfl⟩
theorem eX3_now_53 : Dn mX3_now 53 (.getfield 10) 3 56 := ⟨by decide +kernel, rfl⟩
theorem eX3_now_56 : Dn mX3_now 56 (.iconst 3) 1 57 := ⟨by decide +kernel, rfl⟩
theorem eX3_now_57 : Dn mX3_now 57 (.invokevirtual 110) 3 60 := ⟨by decide +kernel, rfl⟩
theorem eX3_now_60 : Dn mX3_now 60 (.ireturn) 1 61 := ⟨by decide +kernel, rfl⟩
theorem eX3_now_61 : Dn mX3_now 61 (.aload_n 0) 1 62 := ⟨by decide +kernel, rfl⟩
theorem eX3_now_62 : Dn mX3_now 62 (.getfield 10) 3 65 := ⟨by decide +kernel, rfl⟩
theorem eX3_now_65 : Dn mX3_now 65 (.iconst 5) 1 66 := ⟨by decide +kernel, rfl⟩
theorem eX3_now_66 : Dn mX3_now 66 (.invokevirtual 110) 3 69 := ⟨by decide +kernel, rfl⟩
theorem eX3_now_69 : Dn mX3_now 69 (.ireturn) 1 70 := ⟨by decide +kernel, rfl⟩
theorem eX3_now_70 : Dn mX3_now 70 (.aload_n 0) 1 71 := ⟨by decide +kernel, rfl⟩
theorem eX3_now_71 : Dn mX3_now 71 (.getfield 10) 3 74 := ⟨by decide +kernel, rfl⟩
theorem eX3_now_74 : Dn mX3_now 74 (.iconst 4) 1 75 := ⟨by decide +kernel, rfl⟩
theorem eX3_now_75 : Dn mX3_now 75 (.invokevirtual 110) 3 78 := ⟨by decide +kernel, rfl⟩
theorem eX3_now_78 : Dn mX3_now 78 (.ireturn) 1 79 := ⟨by decide +kernel, rfl⟩
theorem eX3_now_79 : Dn mX3_now 79 (.aload_n 0) 1 80 := ⟨by decide +kernel, rfl⟩
theorem eX3_now_80 : Dn mX3_now 80 (.getfield 10) 3 83 := ⟨by decide +kernel, rfl⟩
theorem eX3_now_83 : Dn mX3_now 83 (.invokevirtual 113) 3 86 := ⟨by decide +kernel, rfl⟩
theorem eX3_now_86 : Dn mX3_now 86 (.ireturn) 1 87 := ⟨by decide +kernel, rfl⟩
theorem eX3_now_87 : Dn mX3_now 87 (.aload_n 0) 1 88 := ⟨by decide +kernel, rfl⟩
theorem eX3_now_88 : Dn mX3_now 88 (.getfield 10) 3 91 := ⟨by decide +kernel, rfl⟩
theorem eX3_now_91 : Dn mX3_now 91 (.invokevirtual 117) 3 94 := ⟨by decide +kernel, rfl⟩
theorem eX3_now_94 : Dn mX3_now 94 (.ireturn) 1 95 := ⟨by decide +kernel, rfl⟩
theorem eX3_now_95 : Dn mX3_now 95 (.aload_n 0) 1 96 := ⟨by decide +kernel, rfl⟩
theorem eX3_now_96 : Dn mX3_now 96 (.getfield 10) 3 99 := ⟨by decide +kernel, rfl⟩
theorem eX3_now_99 : Dn mX3_now 99 (.invokevirtual 120) 3 102 := ⟨by decide +kernel, rfl⟩
theorem eX3_now_102 : Dn mX3_now 102 (.ireturn) 1 103 := ⟨by decide +kernel, rfl⟩
theorem eX3_now_103 : Dn mX3_now 103 (.aload_n 0) 1 104 := ⟨by decide +kernel, rfl⟩
theorem eX3_now_104 : Dn mX3_now 104 (.ldc 48) 2 106 := ⟨by decide +kernel, rfl⟩
theorem eX3_now_106 : Dn mX3_now 106 (.invokevirtual 49) 3 109 := ⟨by decide +kernel, rfl⟩
theorem eX3_now_109 : Dn mX3_now 109 (.ireturn) 1 110 := ⟨by decide +kernel, rfl⟩
theorem eX3_chain_0 : Dn mX3_chain 0 (.aload_n 0) 1 1 := ⟨by decide +kernel, rfl⟩
theorem eX3_chain_1 : Dn mX3_chain 1 (.getfield 10) 3 4 := ⟨by decide +kernel, rfl⟩
theorem eX3_chain_4 : Dn mX3_chain 4 (.iload_n 1) 1 5 := ⟨by decide +kernel, rfl⟩
theorem eX3_chain_5 : Dn mX3_chain 5 (.invokevirtual 68) 3 8 := ⟨by decide +kernel, rfl⟩
theorem eX3_chain_8 : Dj mX3_chain 8 (.ifCond .ne 10) (10) 11 18 := ⟨by decide +kernel, rfl, rfl⟩
theorem eX3_chain_11 : Dn mX3_chain 11 (.aload_n 0) 1 12 := ⟨by decide +kernel, rfl⟩
theorem eX3_chain_12 : Dn mX3_chain 12 (.ldc 48) 2 14 := ⟨by decide +kernel, rfl⟩
theorem eX3_chain_14 : Dn mX3_chain 14 (.invokevirtual 49) 3 17 := ⟨by decide +kernel, rfl⟩
theorem eX3_chain_17 : Dn mX3_chain 17 (.ireturn) 1 18 := ⟨by decide +kernel, rfl⟩
theorem eX3_chain_18 : Dn mX3_chain 18 (.aload_n 0) 1 19 := ⟨by decide +kernel, rfl⟩
theorem eX3_chain_19 : Dn mX3_chain 19 (.getfield 10) 3 22 := ⟨by decide +kernel, rfl⟩
theorem eX3_chain_22 : Dn mX3_chain 22 (.iload_n 1) 1 23 := ⟨by decide +kernel, rfl⟩
theorem eX3_chain_23 : Dn mX3_chain 23 (.invokevirtual 123) 3 26 := ⟨by decide +kernel, rfl⟩
theorem eX3_chain_26 : Dn mX3_chain 26 (.ireturn) 1 27 := ⟨by decide +kernel, rfl⟩
theorem eX3_ahead_0 : Dn mX3_ahead 0 (.iload_n 2) 1 1 := ⟨by decide +kernel, rfl⟩
theorem eX3_ahead_1 : Dn mX3_ahead 1 (.iconst 1) 1 2 := ⟨by decide +kernel, rfl⟩
theorem eX3_ahead_2 : Dj mX3_ahead 2 (.if_icmp .eq 18) (18) 5 20 := ⟨by decide +kernel, rfl, rfl⟩
theorem eX3_ahead_5 : Dn mX3_ahead 5 (.iload_n 2) 1 6 := ⟨by decide +kernel, rfl⟩
theorem eX3_ahead_6 : Dn mX3_ahead 6 (.iconst 3) 1 7 := ⟨by decide +kernel, rfl⟩
theorem eX3_ahead_7 : Dj mX3_ahead 7 (.if_icmp .eq 13) (13) 10 20 := ⟨by decide +kernel, rfl, rfl⟩
theorem eX3_ahead_10 : Dn mX3_ahead 10 (.iload_n 2) 1 11 := ⟨by decide +kernel, rfl⟩
theorem eX3_ahead_11 : Dn mX3_ahead 11 (.iconst 4) 1 12 := ⟨by decide +kernel, rfl⟩
theorem eX3_ahead_12 : Dj mX3_ahead 12 (.if_icmp .eq 8) (8) 15 20 := ⟨by decide +kernel, rfl, rfl⟩
theorem eX3_ahead_15 : Dn mX3_ahead 15 (.iload_n 2) 1 16 := ⟨by decide +kernel, rfl⟩
theorem eX3_ahead_16 : Dn mX3_ahead 16 (.iconst 5) 1 17 := ⟨by decide +kernel, rfl⟩
theorem eX3_ahead_17 : Dj mX3_ahead 17 (.if_icmp .ne 7) (7) 20 24 := ⟨by decide +kernel, rfl, rfl⟩
theorem eX3_ahead_20 : Dn mX3_ahead 20 (.iconst 1) 1 21 := ⟨by decide +kernel, rfl⟩
theorem eX3_ahead_21 : Dj mX3_ahead 21 (.goto 4) (4) 24 25 := ⟨by decide +kernel, rfl, rfl⟩
theorem eX3_ahead_24 : Dn mX3_ahead 24 (.iconst 0) 1 25 := ⟨by decide +kernel, rfl⟩
theorem eX3_ahead_25 : Dn mX3_ahead 25 (.istore 4) 2 27 := ⟨by decide +kernel, rfl⟩
theorem eX3_ahead_27 : Dn mX3_ahead 27 (.aload_n 0) 1 28 := ⟨by decide +kernel, rfl⟩
theorem eX3_ahead_28 : Dn mX3_ahead 28 (.getfield 10) 3 31 := ⟨by decide +kernel, rfl⟩
theorem eX3_ahead_31 : Dn mX3_ahead 31 (.iload_n 1) 1 32 := ⟨by decide +kernel, rfl⟩
theorem eX3_ahead_32 : Dn mX3_ahead 32 (.invokevirtual 68) 3 35 := ⟨by decide +kernel, rfl⟩
theorem eX3_ahead_35 : Dj mX3_ahead 35 (.ifCond .eq 18) (18) 38 53 := ⟨by decide +kernel, rfl, rfl⟩
theorem eX3_ahead_38 : Dn mX3_ahead 38 (.iload 4) 2 40 := ⟨by decide +kernel, rfl⟩
theorem eX3_ahead_40 : Dj mX3_ahead 40 (.ifCond .eq 13) (13) 43 53 := ⟨by decide +kernel, rfl, rfl⟩
theorem eX3_ahead_43 : Dn mX3_ahead 43 (.iload_n 3) 1 44 := ⟨by decide +kernel, rfl⟩
theorem eX3_ahead_44 : Dn mX3_ahead 44 (.iconst 0) 1 45 := ⟨by decide +kernel, rfl⟩
theorem eX3_ahead_45 : Dn mX3_ahead 45 (.bipush 60) 2 47 := ⟨by decide +kernel, rfl⟩
theorem eX3_ahead_47 : Dn mX3_ahead 47 (.invokestatic 44) 3 50 := ⟨by decide +kernel, rfl⟩
theorem eX3_ahead_50 : Dj mX3_ahead 50 (.ifCond .ne 10) (10) 53 60 := ⟨by decide +kernel, rfl, rfl⟩
theorem eX3_ahead_53 : Dn mX3_ahead 53 (.aload_n 0) 1 54 := ⟨by decide +kernel, rfl⟩
theorem eX3_ahead_54 : Dn mX3_ahead 54 (.ldc 48) 2 56 := ⟨by decide +kernel, rfl⟩
theorem eX3_ahead_56 : Dn mX3_ahead 56 (.invokevirtual 49) 3 59 := ⟨by decide +kernel, rfl⟩
theorem eX3_ahead_59 : Dn mX3_ahead 59 (.ireturn) 1 60 := ⟨by decide +kernel, rfl⟩
theorem eX3_ahead_60 : Dn mX3_ahead 60 (.aload_n 0) 1 61 := ⟨by decide +kernel, rfl⟩
theorem eX3_ahead_61 : Dn mX3_ahead 61 (.getfield 16) 3 64 := ⟨by decide +kernel, rfl⟩
theorem eX3_ahead_64 : Dn mX3_ahead 64 (.aload_n 0) 1 65 := ⟨by decide +kernel, rfl⟩
theorem eX3_ahead_65 : Dn mX3_ahead 65 (.getfield 10) 3 68 := ⟨by decide +kernel, rfl⟩
theorem eX3_ahead_68 : Dn mX3_ahead 68 (.invokevirtual 126) 3 71 := ⟨by decide +kernel, rfl⟩
theorem eX3_ahead_71 : Dn mX3_ahead 71 (.aload_n 0) 1 72 := ⟨by decide +kernel, rfl⟩
theorem eX3_ahead_72 : Dn mX3_ahead 72 (.getfield 16) 3 75 := ⟨by decide +kernel, rfl⟩
theorem eX3_ahead_75 : Dn mX3_ahead 75 (.iload_n 3) 1 76 := ⟨by decide +kernel, rfl⟩
theorem eX3_ahead_76 : Dn mX3_ahead 76 (.invokevirtual 106) 3 79 := ⟨by decide +kernel, rfl⟩
theorem eX3_ahead_79 : Dn mX3_ahead 79 (.aload_n 0) 1 80 := ⟨by decide +kernel, rfl⟩
theorem eX3_ahead_80 : Dn mX3_ahead 80 (.getfield 16) 3 83 := ⟨by decide +kernel, rfl⟩
theorem eX3_ahead_83 : Dn mX3_ahead 83 (.iload_n 1) 1 84 := ⟨by decide +kernel, rfl⟩
theorem eX3_ahead_84 : Dn mX3_ahead 84 (.iload_n 2) 1 85 := ⟨by decide +kernel, rfl⟩
theorem eX3_ahead_85 : Dn mX3_ahead 85 (.invokevirtual 81) 3 88 := ⟨by decide +kernel, rfl⟩
theorem eX3_ahead_88 : Dn mX3_ahead 88 (.ireturn) 1 89 := ⟨by decide +kernel, rfl⟩
theorem eX3_writes_0 : Dn mX3_writes 0 (.aload_n 0) 1 1 := ⟨by decide +kernel, rfl⟩
theorem eX3_writes_1 : Dn mX3_writes 1 (.getfield 10) 3 4 := ⟨by decide +kernel, rfl⟩
theorem eX3_writes_4 : Dn mX3_writes 4 (.iload_n 1) 1 5 := ⟨by decide +kernel, rfl⟩
theorem eX3_writes_5 : Dn mX3_writes 5 (.invokevirtual 68) 3 8 := ⟨by decide +kernel, rfl⟩
theorem eX3_writes_8 : Dj mX3_writes 8 (.ifCond .eq 23) (23) 11 31 := ⟨by decide +kernel, rfl, rfl⟩
theorem eX3_writes_11 : Dn mX3_writes 11 (.iload_n 2) 1 12 := ⟨by decide +kernel, rfl⟩
theorem eX3_writes_12 : Dn mX3_writes 12 (.iconst 0) 1 13 := ⟨by decide +kernel, rfl⟩
theorem eX3_writes_13 : Dn mX3_writes 13 (.bipush 7) 2 15 := ⟨by decide +kernel, rfl⟩
theorem eX3_writes_15 : Dn mX3_writes 15 (.invokestatic 44) 3 18 := ⟨by decide +kernel, rfl⟩
theorem eX3_writes_18 : Dj mX3_writes 18 (.ifCond .eq 13) (13) 21 31 := ⟨by decide +kernel, rfl, rfl⟩
theorem eX3_writes_21 : Dn mX3_writes 21 (.iload_n 3) 1 22 := ⟨by decide +kernel, rfl⟩
theorem eX3_writes_22 : Dn mX3_writes 22 (.iconst 0) 1 23 := ⟨by decide +kernel, rfl⟩
theorem eX3_writes_23 : Dn mX3_writes 23 (.bipush 60) 2 25 := ⟨by decide +kernel, rfl⟩
theorem eX3_writes_25 : Dn mX3_writes 25 (.invokestatic 44) 3 28 := ⟨by decide +kernel, rfl⟩
theorem eX3_writes_28 : Dj mX3_writes 28 (.ifCond .ne 10) (10) 31 38 := ⟨by decide +kernel, rfl, rfl⟩
theorem eX3_writes_31 : Dn mX3_writes 31 (.aload_n 0) 1 32 := ⟨by decide +kernel, rfl⟩
theorem eX3_writes_32 : Dn mX3_writes 32 (.ldc 48) 2 34 := ⟨by decide +kernel, rfl⟩
theorem eX3_writes_34 : Dn mX3_writes 34 (.invokevirtual 49) 3 37 := ⟨by decide +kernel, rfl⟩
theorem eX3_writes_37 : Dn mX3_writes 37 (.ireturn) 1 38 := ⟨by decide +kernel, rfl⟩
theorem eX3_writes_38 : Dn mX3_writes 38 (.aload_n 0) 1 39 := ⟨by decide +kernel, rfl⟩
theorem eX3_writes_39 : Dn mX3_writes 39 (.getfield 16) 3 42 := ⟨by decide +kernel, rfl⟩
theorem eX3_writes_42 : Dn mX3_writes 42 (.aload_n 0) 1 43 := ⟨by decide +kernel, rfl⟩
theorem eX3_writes_43 : Dn mX3_writes 43 (.getfield 10) 3 46 := ⟨by decide +kernel, rfl⟩
theorem eX3_writes_46 : Dn mX3_writes 46 (.invokevirtual 126) 3 49 := ⟨by decide +kernel, rfl⟩
theorem eX3_writes_49 : Dn mX3_writes 49 (.aload_n 0) 1 50 := ⟨by decide +kernel, rfl⟩
theorem eX3_writes_50 : Dn mX3_writes 50 (.getfield 16) 3 53 := ⟨by decide +kernel, rfl⟩
theorem eX3_writes_53 : Dn mX3_writes 53 (.iload_n 3) 1 54 := ⟨by decide +kernel, rfl⟩
theorem eX3_writes_54 : Dn mX3_writes 54 (.invokevirtual 106) 3 57 := ⟨by decide +kernel, rfl⟩
theorem eX3_writes_57 : Dn mX3_writes 57 (.aload_n 0) 1 58 := ⟨by decide +kernel, rfl⟩
theorem eX3_writes_58 : Dn mX3_writes 58 (.getfield 16) 3 61 := ⟨by decide +kernel, rfl⟩
theorem eX3_writes_61 : Dn mX3_writes 61 (.iload_n 1) 1 62 := ⟨by decide +kernel, rfl⟩
theorem eX3_writes_62 : Dn mX3_writes 62 (.iload_n 2) 1 63 := ⟨by decide +kernel, rfl⟩
theorem eX3_writes_63 : Dn mX3_writes 63 (.invokevirtual 91) 3 66 := ⟨by decide +kernel, rfl⟩
theorem eX3_writes_66 : Dn mX3_writes 66 (.ireturn) 1 67 := ⟨by decide +kernel, rfl⟩
theorem eX3_caught_0 : Dn mX3_caught 0 (.aload_n 0) 1 1 := ⟨by decide +kernel, rfl⟩
theorem eX3_caught_1 : Dn mX3_caught 1 (.getfield 10) 3 4 := ⟨by decide +kernel, rfl⟩
theorem eX3_caught_4 : Dn mX3_caught 4 (.iload_n 1) 1 5 := ⟨by decide +kernel, rfl⟩
theorem eX3_caught_5 : Dn mX3_caught 5 (.invokevirtual 68) 3 8 := ⟨by decide +kernel, rfl⟩
theorem eX3_caught_8 : Dj mX3_caught 8 (.ifCond .ne 10) (10) 11 18 := ⟨by decide +kernel, rfl, rfl⟩
theorem eX3_caught_11 : Dn mX3_caught 11 (.aload_n 0) 1 12 := ⟨by decide +kernel, rfl⟩
theorem eX3_caught_12 : Dn mX3_caught 12 (.ldc 48) 2 14 := ⟨by decide +kernel, rfl⟩
theorem eX3_caught_14 : Dn mX3_caught 14 (.invokevirtual 49) 3 17 := ⟨by decide +kernel, rfl⟩
theorem eX3_caught_17 : Dn mX3_caught 17 (.ireturn) 1 18 := ⟨by decide +kernel, rfl⟩
theorem eX3_caught_18 : Dn mX3_caught 18 (.aload_n 0) 1 19 := ⟨by decide +kernel, rfl⟩
theorem eX3_caught_19 : Dn mX3_caught 19 (.iload_n 1) 1 20 := ⟨by decide +kernel, rfl⟩
theorem eX3_caught_20 : Dn mX3_caught 20 (.iconst 5) 1 21 := ⟨by decide +kernel, rfl⟩
theorem eX3_caught_21 : Dn mX3_caught 21 (.aload_n 0) 1 22 := ⟨by decide +kernel, rfl⟩
theorem eX3_caught_22 : Dn mX3_caught 22 (.getfield 10) 3 25 := ⟨by decide +kernel, rfl⟩
theorem eX3_caught_25 : Dn mX3_caught 25 (.iload_n 1) 1 26 := ⟨by decide +kernel, rfl⟩
theorem eX3_caught_26 : Dn mX3_caught 26 (.iconst 5) 1 27 := ⟨by decide +kernel, rfl⟩
theorem eX3_caught_27 : Dn mX3_caught 27 (.invokevirtual 81) 3 30 := ⟨by decide +kernel, rfl⟩
theorem eX3_caught_30 : Dn mX3_caught 30 (.iconst 1) 1 31 := ⟨by decide +kernel, rfl⟩
theorem eX3_caught_31 : Dn mX3_caught 31 (.iadd) 1 32 := ⟨by decide +kernel, rfl⟩
theorem eX3_caught_32 : Dn mX3_caught 32 (.invokevirtual 130) 3 35 := ⟨by decide +kernel, rfl⟩
theorem eX3_caught_35 : Dn mX3_caught 35 (.istore_n 2) 1 36 := ⟨by decide +kernel, rfl⟩
theorem eX3_caught_36 : Dn mX3_caught 36 (.iload_n 2) 1 37 := ⟨by decide +kernel, rfl⟩
theorem eX3_caught_37 : Dn mX3_caught 37 (.ldc 133) 2 39 := ⟨by decide +kernel, rfl⟩
theorem eX3_caught_39 : Dj mX3_caught 39 (.if_icmp .ne 12) (12) 42 51 := ⟨by decide +kernel, rfl, rfl⟩
theorem eX3_caught_42 : Dn mX3_caught 42 (.aload_n 0) 1 43 := ⟨by decide +kernel, rfl⟩
theorem eX3_caught_43 : Dn mX3_caught 43 (.ldc 133) 2 45 := ⟨by decide +kernel, rfl⟩
theorem eX3_caught_45 : Dn mX3_caught 45 (.invokevirtual 49) 3 48 := ⟨by decide +kernel, rfl⟩
theorem eX3_caught_48 : Dj mX3_caught 48 (.goto 4) (4) 51 52 := ⟨by decide +kernel, rfl, rfl⟩
theorem eX3_caught_51 : Dn mX3_caught 51 (.iload_n 2) 1 52 := ⟨by decide +kernel, rfl⟩
theorem eX3_caught_52 : Dn mX3_caught 52 (.ireturn) 1 53 := ⟨by decide +kernel, rfl⟩
theorem eX3_when_0 : Dn mX3_when 0 (.aload_n 0) 1 1 := ⟨by decide +kernel, rfl⟩
theorem eX3_when_1 : Dn mX3_when 1 (.getfield 10) 3 4 := ⟨by decide +kernel, rfl⟩
theorem eX3_when_4 : Dn mX3_when 4 (.iload_n 1) 1 5 := ⟨by decide +kernel, rfl⟩
theorem eX3_when_5 : Dn mX3_when 5 (.invokevirtual 68) 3 8 := ⟨by decide +kernel, rfl⟩
theorem eX3_when_8 : Dj mX3_when 8 (.ifCond .eq 14) (14) 11 22 := ⟨by decide +kernel, rfl, rfl⟩
theorem eX3_when_11 : Dn mX3_when 11 (.iload_n 2) 1 12 := ⟨by decide +kernel, rfl⟩
theorem eX3_when_12 : Dn mX3_when 12 (.iconst 0) 1 13 := ⟨by decide +kernel, rfl⟩
theorem eX3_when_13 : Dn mX3_when 13 (.sipush 9999) 3 16 := ⟨by decide +kernel, rfl⟩
theorem eX3_when_16 : Dn mX3_when 16 (.invokestatic 44) 3 19 := ⟨by decide +kernel, rfl⟩
theorem eX3_when_19 : Dj mX3_when 19 (.ifCond .ne 10) (10) 22 29 := ⟨by decide +kernel, rfl, rfl⟩
theorem eX3_when_22 : Dn mX3_when 22 (.aload_n 0) 1 23 := ⟨by decide +kernel, rfl⟩
theorem eX3_when_23 : Dn mX3_when 23 (.ldc 48) 2 25 := ⟨by decide +kernel, rfl⟩
theorem eX3_when_25 : Dn mX3_when 25 (.invokevirtual 49) 3 28 := ⟨by decide +kernel, rfl⟩
theorem eX3_when_28 : Dn mX3_when 28 (.ireturn) 1 29 := ⟨by decide +kernel, rfl⟩
theorem eX3_when_29 : Dn mX3_when 29 (.aload_n 0) 1 30 := ⟨by decide +kernel, rfl⟩
theorem eX3_when_30 : Dn mX3_when 30 (.iload_n 1) 1 31 := ⟨by decide +kernel, rfl⟩
theorem eX3_when_31 : Dn mX3_when 31 (.iconst 3) 1 32 := ⟨by decide +kernel, rfl⟩
theorem eX3_when_32 : Dn mX3_when 32 (.iload_n 2) 1 33 := ⟨by decide +kernel, rfl⟩
theorem eX3_when_33 : Dn mX3_when 33 (.invokevirtual 130) 3 36 := ⟨by decide +kernel, rfl⟩
theorem eX3_when_36 : Dn mX3_when 36 (.istore_n 3) 1 37 := ⟨by decide +kernel, rfl⟩
theorem eX3_when_37 : Dn mX3_when 37 (.iload_n 3) 1 38 := ⟨by decide +kernel, rfl⟩
theorem eX3_when_38 : Dn mX3_when 38 (.ldc 133) 2 40 := ⟨by decide +kernel, rfl⟩
theorem eX3_when_40 : Dj mX3_when 40 (.if_icmp .ne 12) (12) 43 52 := ⟨by decide +kernel, rfl, rfl⟩
theorem eX3_when_43 : Dn mX3_when 43 (.aload_n 0) 1 44 := ⟨by decide +kernel, rfl⟩
theorem eX3_when_44 : Dn mX3_when 44 (.ldc 133) 2 46 := ⟨by decide +kernel, rfl⟩
theorem eX3_when_46 : Dn mX3_when 46 (.invokevirtual 49) 3 49 := ⟨by decide +kernel, rfl⟩
theorem eX3_when_49 : Dj mX3_when 49 (.goto 4) (4) 52 53 := ⟨by decide +kernel, rfl, rfl⟩
theorem eX3_when_52 : Dn mX3_when 52 (.iload_n 3) 1 53 := ⟨by decide +kernel, rfl⟩
theorem eX3_when_53 : Dn mX3_when 53 (.ireturn) 1 54 := ⟨by decide +kernel, rfl⟩
theorem eX3_copyFrom_0 : Dn mX3_copyFrom 0 (.aload_n 0) 1 1 := ⟨by decide +kernel, rfl⟩
theorem eX3_copyFrom_1 : Dn mX3_copyFrom 1 (.getfield 10) 3 4 := ⟨by decide +kernel, rfl⟩
theorem eX3_copyFrom_4 : Dn mX3_copyFrom 4 (.iload_n 1) 1 5 := ⟨by decide +kernel, rfl⟩
theorem eX3_copyFrom_5 : Dn mX3_copyFrom 5 (.invokevirtual 68) 3 8 := ⟨by decide +kernel, rfl⟩
theorem eX3_copyFrom_8 : Dj mX3_copyFrom 8 (.ifCond .eq 13) (13) 11 21 := ⟨by decide +kernel, rfl, rfl⟩
theorem eX3_copyFrom_11 : Dn mX3_copyFrom 11 (.iload_n 2) 1 12 := ⟨by decide +kernel, rfl⟩
theorem eX3_copyFrom_12 : Dn mX3_copyFrom 12 (.iconst 0) 1 13 := ⟨by decide +kernel, rfl⟩
theorem eX3_copyFrom_13 : Dn mX3_copyFrom 13 (.bipush 20) 2 15 := ⟨by decide +kernel, rfl⟩
theorem eX3_copyFrom_15 : Dn mX3_copyFrom 15 (.invokestatic 44) 3 18 := ⟨by decide +kernel, rfl⟩
theorem eX3_copyFrom_18 : Dj mX3_copyFrom 18 (.ifCond .ne 10) (10) 21 28 := ⟨by decide +kernel, rfl, rfl⟩
theorem eX3_copyFrom_21 : Dn mX3_copyFrom 21 (.aload_n 0) 1 22 := ⟨by decide +kernel, rfl⟩
theorem eX3_copyFrom_22 : Dn mX3_copyFrom 22 (.ldc 48) 2 24 := ⟨by decide +kernel, rfl⟩
theorem eX3_copyFrom_24 : Dn mX3_copyFrom 24 (.invokevirtual 49) 3 27 := ⟨by decide +kernel, rfl⟩
theorem eX3_copyFrom_27 : Dn mX3_copyFrom 27 (.ireturn) 1 28 := ⟨by decide +kernel, rfl⟩
theorem eX3_copyFrom_28 : Dn mX3_copyFrom 28 (.iconst (-1)) 1 29 := ⟨by decide +kernel, rfl⟩
theorem eX3_copyFrom_29 : Dn mX3_copyFrom 29 (.istore_n 3) 1 30 := ⟨by decide +kernel, rfl⟩
theorem eX3_copyFrom_30 : Dn mX3_copyFrom 30 (.iconst (-1)) 1 31 := ⟨by decide +kernel, rfl⟩
theorem eX3_copyFrom_31 : Dn mX3_copyFrom 31 (.istore 4) 2 33 := ⟨by decide +kernel, rfl⟩
theorem eX3_copyFrom_33 : Dn mX3_copyFrom 33 (.iconst 0) 1 34 := ⟨by decide +kernel, rfl⟩
theorem eX3_copyFrom_34 : Dn mX3_copyFrom 34 (.istore 5) 2 36 := ⟨by decide +kernel, rfl⟩
theorem eX3_copyFrom_36 : Dn mX3_copyFrom 36 (.iload 5) 2 38 := ⟨by decide +kernel, rfl⟩
theorem eX3_copyFrom_38 : Dn mX3_copyFrom 38 (.aload_n 0) 1 39 := ⟨by decide +kernel, rfl⟩
theorem eX3_copyFrom_39 : Dn mX3_copyFrom 39 (.getfield 10) 3 42 := ⟨by decide +kernel, rfl⟩
theorem eX3_copyFrom_42 : Dn mX3_copyFrom 42 (.getfield 60) 3 45 := ⟨by decide +kernel, rfl⟩
theorem eX3_copyFrom_45 : Dj mX3_copyFrom 45 (.if_icmp .ge 44) (44) 48 89 := ⟨by decide +kernel, rfl, rfl⟩
theorem eX3_copyFrom_48 : Dn mX3_copyFrom 48 (.iload 5) 2 50 := ⟨by decide +kernel, rfl⟩
theorem eX3_copyFrom_50 : Dn mX3_copyFrom 50 (.iload_n 1) 1 51 := ⟨by decide +kernel, rfl⟩
theorem eX3_copyFrom_51 : Dj mX3_copyFrom 51 (.if_icmp .ne 7) (7) 54 58 := ⟨by decide +kernel, rfl, rfl⟩
theorem eX3_copyFrom_54 : Dn mX3_copyFrom 54 (.iconst (-1)) 1 55 := ⟨by decide +kernel, rfl⟩
theorem eX3_copyFrom_55 : Dj mX3_copyFrom 55 (.goto 12) (12) 58 67 := ⟨by decide +kernel, rfl, rfl⟩
theorem eX3_copyFrom_58 : Dn mX3_copyFrom 58 (.aload_n 0) 1 59 := ⟨by decide +kernel, rfl⟩
theorem eX3_copyFrom_59 : Dn mX3_copyFrom 59 (.iload_n 1) 1 60 := ⟨by decide +kernel, rfl⟩
theorem eX3_copyFrom_60 : Dn mX3_copyFrom 60 (.iconst 2) 1 61 := ⟨by decide +kernel, rfl⟩
theorem eX3_copyFrom_61 : Dn mX3_copyFrom 61 (.iload 5) 2 63 := ⟨by decide +kernel, rfl⟩
theorem eX3_copyFrom_63 : Dn mX3_copyFrom 63 (.iload_n 2) 1 64 := ⟨by decide +kernel, rfl⟩
theorem eX3_copyFrom_64 : Dn mX3_copyFrom 64 (.invokevirtual 134) 3 67 := ⟨by decide +kernel, rfl⟩
theorem eX3_copyFrom_67 : Dn mX3_copyFrom 67 (.istore 6) 2 69 := ⟨by decide +kernel, rfl⟩
theorem eX3_copyFrom_69 : Dn mX3_copyFrom 69 (.iload 6) 2 71 := ⟨by decide +kernel, rfl⟩
theorem eX3_copyFrom_71 : Dn mX3_copyFrom 71 (.iload 4) 2 73 := ⟨by decide +kernel, rfl⟩
theorem eX3_copyFrom_73 : Dj mX3_copyFrom 73 (.if_icmp .le 10) (10) 76 83 := ⟨by decide +kernel, rfl, rfl⟩
theorem eX3_copyFrom_76 : Dn mX3_copyFrom 76 (.iload 6) 2 78 := ⟨by decide +kernel, rfl⟩
theorem eX3_copyFrom_78 : Dn mX3_copyFrom 78 (.istore 4) 2 80 := ⟨by decide +kernel, rfl⟩
theorem eX3_copyFrom_80 : Dn mX3_copyFrom 80 (.iload 5) 2 82 := ⟨by decide +kernel, rfl⟩
theorem eX3_copyFrom_82 : Dn mX3_copyFrom 82 (.istore_n 3) 1 83 := ⟨by decide +kernel, rfl⟩
theorem eX3_copyFrom_83 : Dn mX3_copyFrom 83 (.iinc 5 1) 3 86 := ⟨by decide +kernel, rfl⟩
theorem eX3_copyFrom_86 : Dj mX3_copyFrom 86 (.goto (-50)) (-50) 89 36 := ⟨by decide +kernel, rfl, rfl⟩
theorem eX3_copyFrom_89 : Dn mX3_copyFrom 89 (.aload_n 0) 1 90 := ⟨by decide +kernel, rfl⟩
theorem eX3_copyFrom_90 : Dn mX3_copyFrom 90 (.iload_n 1) 1 91 := ⟨by decide +kernel, rfl⟩
theorem eX3_copyFrom_91 : Dn mX3_copyFrom 91 (.iconst 2) 1 92 := ⟨by decide +kernel, rfl⟩
theorem eX3_copyFrom_92 : Dn mX3_copyFrom 92 (.iconst (-1)) 1 93 := ⟨by decide +kernel, rfl⟩
theorem eX3_copyFrom_93 : Dn mX3_copyFrom 93 (.iload_n 2) 1 94 := ⟨by decide +kernel, rfl⟩
theorem eX3_copyFrom_94 : Dn mX3_copyFrom 94 (.invokevirtual 134) 3 97 := ⟨by decide +kernel, rfl⟩
theorem eX3_copyFrom_97 : Dn mX3_copyFrom 97 (.iload 4) 2 99 := ⟨by decide +kernel, rfl⟩
theorem eX3_copyFrom_99 : Dj mX3_copyFrom 99 (.if_icmp .le 7) (7) 102 106 := ⟨by decide +kernel, rfl, rfl⟩
theorem eX3_copyFrom_102 : Dn mX3_copyFrom 102 (.iconst (-1)) 1 103 := ⟨by decide +kernel, rfl⟩
theorem eX3_copyFrom_103 : Dj mX3_copyFrom 103 (.goto 4) (4) 106 107 := ⟨by decide +kernel, rfl, rfl⟩
theorem eX3_copyFrom_106 : Dn mX3_copyFrom 106 (.iload_n 3) 1 107 := ⟨by decide +kernel, rfl⟩
theorem eX3_copyFrom_107 : Dn mX3_copyFrom 107 (.ireturn) 1 108 := ⟨by decide +kernel, rfl⟩
theorem eX3_kindFor_0 : Dn mX3_kindFor 0 (.aload_n 0) 1 1 := ⟨by decide +kernel, rfl⟩
theorem eX3_kindFor_1 : Dn mX3_kindFor 1 (.getfield 10) 3 4 := ⟨by decide +kernel, rfl⟩
theorem eX3_kindFor_4 : Dn mX3_kindFor 4 (.iload_n 1) 1 5 := ⟨by decide +kernel, rfl⟩
theorem eX3_kindFor_5 : Dn mX3_kindFor 5 (.invokevirtual 68) 3 8 := ⟨by decide +kernel, rfl⟩
theorem eX3_kindFor_8 : Dj mX3_kindFor 8 (.ifCond .eq 13) (13) 11 21 := ⟨by decide +kernel, rfl, rfl⟩
theorem eX3_kindFor_11 : Dn mX3_kindFor 11 (.iload_n 2) 1 12 := ⟨by decide +kernel, rfl⟩
theorem eX3_kindFor_12 : Dn mX3_kindFor 12 (.iconst 0) 1 13 := ⟨by decide +kernel, rfl⟩
theorem eX3_kindFor_13 : Dn mX3_kindFor 13 (.bipush 20) 2 15 := ⟨by decide +kernel, rfl⟩
theorem eX3_kindFor_15 : Dn mX3_kindFor 15 (.invokestatic 44) 3 18 := ⟨by decide +kernel, rfl⟩
theorem eX3_kindFor_18 : Dj mX3_kindFor 18 (.ifCond .ne 10) (10) 21 28 := ⟨by decide +kernel, rfl, rfl⟩
theorem eX3_kindFor_21 : Dn mX3_kindFor 21 (.aload_n 0) 1 22 := ⟨by decide +kernel, rfl⟩
theorem eX3_kindFor_22 : Dn mX3_kindFor 22 (.ldc 48) 2 24 := ⟨by decide +kernel, rfl⟩
theorem eX3_kindFor_24 : Dn mX3_kindFor 24 (.invokevirtual 49) 3 27 := ⟨by decide +kernel, rfl⟩
theorem eX3_kindFor_27 : Dn mX3_kindFor 27 (.ireturn) 1 28 := ⟨by decide +kernel, rfl⟩
theorem eX3_kindFor_28 : Dn mX3_kindFor 28 (.iconst 0) 1 29 := ⟨by decide +kernel, rfl⟩
theorem eX3_kindFor_29 : Dn mX3_kindFor 29 (.istore_n 3) 1 30 := ⟨by decide +kernel, rfl⟩
theorem eX3_kindFor_30 : Dn mX3_kindFor 30 (.iconst (-1)) 1 31 := ⟨by decide +kernel, rfl⟩
theorem eX3_kindFor_31 : Dn mX3_kindFor 31 (.istore 4) 2 33 := ⟨by decide +kernel, rfl⟩
theorem eX3_kindFor_33 : Dn mX3_kindFor 33 (.iconst 0) 1 34 := ⟨by decide +kernel, rfl⟩
theorem eX3_kindFor_34 : Dn mX3_kindFor 34 (.istore 5) 2 36 := ⟨by decide +kernel, rfl⟩
theorem eX3_kindFor_36 : Dn mX3_kindFor 36 (.iload 5) 2 38 := ⟨by decide +kernel, rfl⟩
theorem eX3_kindFor_38 : Dn mX3_kindFor 38 (.bipush 7) 2 40 := ⟨by decide +kernel, rfl⟩
theorem eX3_kindFor_40 : Dj mX3_kindFor 40 (.if_icmp .ge 34) (34) 43 74 := ⟨by decide +kernel, rfl, rfl⟩
theorem eX3_kindFor_43 : Dn mX3_kindFor 43 (.aload_n 0) 1 44 := ⟨by decide +kernel, rfl⟩
theorem eX3_kindFor_44 : Dn mX3_kindFor 44 (.iload_n 1) 1 45 := ⟨by decide +kernel, rfl⟩
theorem eX3_kindFor_45 : Dn mX3_kindFor 45 (.iconst 0) 1 46 := ⟨by decide +kernel, rfl⟩
theorem eX3_kindFor_46 : Dn mX3_kindFor 46 (.iload 5) 2 48 := ⟨by decide +kernel, rfl⟩
theorem eX3_kindFor_48 : Dn mX3_kindFor 48 (.iload_n 2) 1 49 := ⟨by decide +kernel, rfl⟩
theorem eX3_kindFor_49 : Dn mX3_kindFor 49 (.invokevirtual 134) 3 52 := ⟨by decide +kernel, rfl⟩
theorem eX3_kindFor_52 : Dn mX3_kindFor 52 (.istore 6) 2 54 := ⟨by decide +kernel, rfl⟩
theorem eX3_kindFor_54 : Dn mX3_kindFor 54 (.iload 6) 2 56 := ⟨by decide +kernel, rfl⟩
theorem eX3_kindFor_56 : Dn mX3_kindFor 56 (.iload 4) 2 58 := ⟨by decide +kernel, rfl⟩
theorem eX3_kindFor_58 : Dj mX3_kindFor 58 (.if_icmp .le 10) (10) 61 68 := ⟨by decide +kernel, rfl, rfl⟩
theorem eX3_kindFor_61 : Dn mX3_kindFor 61 (.iload 6) 2 63 := ⟨by decide +kernel, rfl⟩
theorem eX3_kindFor_63 : Dn mX3_kindFor 63 (.istore 4) 2 65 := ⟨by decide +kernel, rfl⟩
theorem eX3_kindFor_65 : Dn mX3_kindFor 65 (.iload 5) 2 67 := ⟨by decide +kernel, rfl⟩
theorem eX3_kindFor_67 : Dn mX3_kindFor 67 (.istore_n 3) 1 68 := ⟨by decide +kernel, rfl⟩
theorem eX3_kindFor_68 : Dn mX3_kindFor 68 (.iinc 5 1) 3 71 := ⟨by decide +kernel, rfl⟩
theorem eX3_kindFor_71 : Dj mX3_kindFor 71 (.goto (-35)) (-35) 74 36 := ⟨by decide +kernel, rfl, rfl⟩
theorem eX3_kindFor_74 : Dn mX3_kindFor 74 (.iload_n 3) 1 75 := ⟨by decide +kernel, rfl⟩
theorem eX3_kindFor_75 : Dn mX3_kindFor 75 (.ireturn) 1 76 := ⟨by decide +kernel, rfl⟩
theorem eX3_learn_0 : Dn mX3_learn 0 (.aload_n 0) 1 1 := ⟨by decide +kernel, rfl⟩
theorem eX3_learn_1 : Dn mX3_learn 1 (.getfield 10) 3 4 := ⟨by decide +kernel, rfl⟩
theorem eX3_learn_4 : Dn mX3_learn 4 (.iload_n 1) 1 5 := ⟨by decide +kernel, rfl⟩
theorem eX3_learn_5 : Dn mX3_learn 5 (.invokevirtual 68) 3 8 := ⟨by decide +kernel, rfl⟩
theorem eX3_learn_8 : Dj mX3_learn 8 (.ifCond .eq 13) (13) 11 21 := ⟨by decide +kernel, rfl, rfl⟩
theorem eX3_learn_11 : Dn mX3_learn 11 (.iload_n 2) 1 12 := ⟨by decide +kernel, rfl⟩
theorem eX3_learn_12 : Dn mX3_learn 12 (.iconst 0) 1 13 := ⟨by decide +kernel, rfl⟩
theorem eX3_learn_13 : Dn mX3_learn 13 (.bipush 20) 2 15 := ⟨by decide +kernel, rfl⟩
theorem eX3_learn_15 : Dn mX3_learn 15 (.invokestatic 44) 3 18 := ⟨by decide +kernel, rfl⟩
theorem eX3_learn_18 : Dj mX3_learn 18 (.ifCond .ne 10) (10) 21 28 := ⟨by decide +kernel, rfl, rfl⟩
theorem eX3_learn_21 : Dn mX3_learn 21 (.aload_n 0) 1 22 := ⟨by decide +kernel, rfl⟩
theorem eX3_learn_22 : Dn mX3_learn 22 (.ldc 48) 2 24 := ⟨by decide +kernel, rfl⟩
theorem eX3_learn_24 : Dn mX3_learn 24 (.invokevirtual 49) 3 27 := ⟨by decide +kernel, rfl⟩
theorem eX3_learn_27 : Dn mX3_learn 27 (.ireturn) 1 28 := ⟨by decide +kernel, rfl⟩
theorem eX3_learn_28 : Dn mX3_learn 28 (.aload_n 0) 1 29 := ⟨by decide +kernel, rfl⟩
theorem eX3_learn_29 : Dn mX3_learn 29 (.getfield 10) 3 32 := ⟨by decide +kernel, rfl⟩
theorem eX3_learn_32 : Dn mX3_learn 32 (.iload_n 1) 1 33 := ⟨by decide +kernel, rfl⟩
theorem eX3_learn_33 : Dn mX3_learn 33 (.iconst 1) 1 34 := ⟨by decide +kernel, rfl⟩
theorem eX3_learn_34 : Dn mX3_learn 34 (.invokevirtual 81) 3 37 := ⟨by decide +kernel, rfl⟩
theorem eX3_learn_37 : Dn mX3_learn 37 (.istore_n 3) 1 38 := ⟨by decide +kernel, rfl⟩
theorem eX3_learn_38 : Dn mX3_learn 38 (.iconst 0) 1 39 := ⟨by decide +kernel, rfl⟩
theorem eX3_learn_39 : Dn mX3_learn 39 (.istore 4) 2 41 := ⟨by decide +kernel, rfl⟩
theorem eX3_learn_41 : Dn mX3_learn 41 (.iconst (-1)) 1 42 := ⟨by decide +kernel, rfl⟩
theorem eX3_learn_42 : Dn mX3_learn 42 (.istore 5) 2 44 := ⟨by decide +kernel, rfl⟩
theorem eX3_learn_44 : Dn mX3_learn 44 (.iconst 0) 1 45 := ⟨by decide +kernel, rfl⟩
theorem eX3_learn_45 : Dn mX3_learn 45 (.istore 6) 2 47 := ⟨by decide +kernel, rfl⟩
theorem eX3_learn_47 : Dn mX3_learn 47 (.iload 6) 2 49 := ⟨by decide +kernel, rfl⟩
theorem eX3_learn_49 : Dn mX3_learn 49 (.bipush 8) 2 51 := ⟨by decide +kernel, rfl⟩
theorem eX3_learn_51 : Dj mX3_learn 51 (.if_icmp .ge 39) (39) 54 90 := ⟨by decide +kernel, rfl, rfl⟩
theorem eX3_learn_54 : Dn mX3_learn 54 (.aload_n 0) 1 55 := ⟨by decide +kernel, rfl⟩
theorem eX3_learn_55 : Dn mX3_learn 55 (.iload_n 1) 1 56 := ⟨by decide +kernel, rfl⟩
theorem eX3_learn_56 : Dn mX3_learn 56 (.iconst 1) 1 57 := ⟨by decide +kernel, rfl⟩
theorem eX3_learn_57 : Dn mX3_learn 57 (.iload_n 3) 1 58 := ⟨by decide +kernel, rfl⟩
theorem eX3_learn_58 : Dn mX3_learn 58 (.iconst 1) 1 59 := ⟨by decide +kernel, rfl⟩
theorem eX3_learn_59 : Dn mX3_learn 59 (.iload 6) 2 61 := ⟨by decide +kernel, rfl⟩
theorem eX3_learn_61 : Dn mX3_learn 61 (.ishl) 1 62 := ⟨by decide +kernel, rfl⟩
theorem eX3_learn_62 : Dn mX3_learn 62 (.ior) 1 63 := ⟨by decide +kernel, rfl⟩
theorem eX3_learn_63 : Dn mX3_learn 63 (.iload_n 2) 1 64 := ⟨by decide +kernel, rfl⟩
theorem eX3_learn_64 : Dn mX3_learn 64 (.invokevirtual 134) 3 67 := ⟨by decide +kernel, rfl⟩
theorem eX3_learn_67 : Dn mX3_learn 67 (.istore 7) 2 69 := ⟨by decide +kernel, rfl⟩
theorem eX3_learn_69 : Dn mX3_learn 69 (.iload 7) 2 71 := ⟨by decide +kernel, rfl⟩
theorem eX3_learn_71 : Dn mX3_learn 71 (.iload 5) 2 73 := ⟨by decide +kernel, rfl⟩
theorem eX3_learn_73 : Dj mX3_learn 73 (.if_icmp .le 11) (11) 76 84 := ⟨by decide +kernel, rfl, rfl⟩
theorem eX3_learn_76 : Dn mX3_learn 76 (.iload 7) 2 78 := ⟨by decide +kernel, rfl⟩
theorem eX3_learn_78 : Dn mX3_learn 78 (.istore 5) 2 80 := ⟨by decide +kernel, rfl⟩
theorem eX3_learn_80 : Dn mX3_learn 80 (.iload 6) 2 82 := ⟨by decide +kernel, rfl⟩
theorem eX3_learn_82 : Dn mX3_learn 82 (.istore 4) 2 84 := ⟨by decide +kernel, rfl⟩
theorem eX3_learn_84 : Dn mX3_learn 84 (.iinc 6 1) 3 87 := ⟨by decide +kernel, rfl⟩
theorem eX3_learn_87 : Dj mX3_learn 87 (.goto (-40)) (-40) 90 47 := ⟨by decide +kernel, rfl, rfl⟩
theorem eX3_learn_90 : Dn mX3_learn 90 (.iload 4) 2 92 := ⟨by decide +kernel, rfl⟩
theorem eX3_learn_92 : Dn mX3_learn 92 (.ireturn) 1 93 := ⟨by decide +kernel, rfl⟩
theorem eX3_limitFor_0 : Dn mX3_limitFor 0 (.iload_n 1) 1 1 := ⟨by decide +kernel, rfl⟩
theorem eX3_limitFor_1 : Dn mX3_limitFor 1 (.iconst 0) 1 2 := ⟨by decide +kernel, rfl⟩
theorem eX3_limitFor_2 : Dn mX3_limitFor 2 (.bipush 20) 2 4 := ⟨by decide +kernel, rfl⟩
theorem eX3_limitFor_4 : Dn mX3_limitFor 4 (.invokestatic 44) 3 7 := ⟨by decide +kernel, rfl⟩
theorem eX3_limitFor_7 : Dj mX3_limitFor 7 (.ifCond .ne 10) (10) 10 17 := ⟨by decide +kernel, rfl, rfl⟩
theorem eX3_limitFor_10 : Dn mX3_limitFor 10 (.aload_n 0) 1 11 := ⟨by decide +kernel, rfl⟩
theorem eX3_limitFor_11 : Dn mX3_limitFor 11 (.ldc 48) 2 13 := ⟨by decide +kernel, rfl⟩
theorem eX3_limitFor_13 : Dn mX3_limitFor 13 (.invokevirtual 49) 3 16 := ⟨by decide +kernel, rfl⟩
theorem eX3_limitFor_16 : Dn mX3_limitFor 16 (.ireturn) 1 17 := ⟨by decide +kernel, rfl⟩
theorem eX3_limitFor_17 : Dn mX3_limitFor 17 (.iconst 1) 1 18 := ⟨by decide +kernel, rfl⟩
theorem eX3_limitFor_18 : Dn mX3_limitFor 18 (.istore_n 2) 1 19 := ⟨by decide +kernel, rfl⟩
theorem eX3_limitFor_19 : Dn mX3_limitFor 19 (.iload_n 2) 1 20 := ⟨by decide +kernel, rfl⟩
theorem eX3_limitFor_20 : Dn mX3_limitFor 20 (.bipush 9) 2 22 := ⟨by decide +kernel, rfl⟩
theorem eX3_limitFor_22 : Dj mX3_limitFor 22 (.if_icmp .gt 38) (38) 25 60 := ⟨by decide +kernel, rfl, rfl⟩
theorem eX3_limitFor_25 : Dn mX3_limitFor 25 (.aload_n 0) 1 26 := ⟨by decide +kernel, rfl⟩
theorem eX3_limitFor_26 : Dn mX3_limitFor 26 (.getfield 16) 3 29 := ⟨by decide +kernel, rfl⟩
theorem eX3_limitFor_29 : Dn mX3_limitFor 29 (.aload_n 0) 1 30 := ⟨by decide +kernel, rfl⟩
theorem eX3_limitFor_30 : Dn mX3_limitFor 30 (.getfield 10) 3 33 := ⟨by decide +kernel, rfl⟩
theorem eX3_limitFor_33 : Dn mX3_limitFor 33 (.invokevirtual 126) 3 36 := ⟨by decide +kernel, rfl⟩
theorem eX3_limitFor_36 : Dn mX3_limitFor 36 (.aload_n 0) 1 37 := ⟨by decide +kernel, rfl⟩
theorem eX3_limitFor_37 : Dn mX3_limitFor 37 (.getfield 16) 3 40 := ⟨by decide +kernel, rfl⟩
theorem eX3_limitFor_40 : Dn mX3_limitFor 40 (.iload_n 2) 1 41 := ⟨by decide +kernel, rfl⟩
theorem eX3_limitFor_41 : Dn mX3_limitFor 41 (.putfield 56) 3 44 := ⟨by decide +kernel, rfl⟩
theorem eX3_limitFor_44 : Dn mX3_limitFor 44 (.aload_n 0) 1 45 := ⟨by decide +kernel, rfl⟩
theorem eX3_limitFor_45 : Dn mX3_limitFor 45 (.iload_n 1) 1 46 := ⟨by decide +kernel, rfl⟩
theorem eX3_limitFor_46 : Dn mX3_limitFor 46 (.invokevirtual 138) 3 49 := ⟨by decide +kernel, rfl⟩
theorem eX3_limitFor_49 : Dj mX3_limitFor 49 (.ifCond .eq 5) (5) 52 54 := ⟨by decide +kernel, rfl, rfl⟩
theorem eX3_limitFor_52 : Dn mX3_limitFor 52 (.iload_n 2) 1 53 := ⟨by decide +kernel, rfl⟩
theorem eX3_limitFor_53 : Dn mX3_limitFor 53 (.ireturn) 1 54 := ⟨by decide +kernel, rfl⟩
theorem eX3_limitFor_54 : Dn mX3_limitFor 54 (.iinc 2 1) 3 57 := ⟨by decide +kernel, rfl⟩
theorem eX3_limitFor_57 : Dj mX3_limitFor 57 (.goto (-38)) (-38) 60 19 := ⟨by decide +kernel, rfl, rfl⟩
theorem eX3_limitFor_60 : Dn mX3_limitFor 60 (.aload_n 0) 1 61 := ⟨by decide +kernel, rfl⟩
theorem eX3_limitFor_61 : Dn mX3_limitFor 61 (.ldc 133) 2 63 := ⟨by decide +kernel, rfl⟩
theorem eX3_limitFor_63 : Dn mX3_limitFor 63 (.invokevirtual 49) 3 66 := ⟨by decide +kernel, rfl⟩
theorem eX3_limitFor_66 : Dn mX3_limitFor 66 (.ireturn) 1 67 := ⟨by decide +kernel, rfl⟩
theorem eX3_forbid_0 : Dn mX3_forbid 0 (.iload_n 1) 1 1 := ⟨by decide +kernel, rfl⟩
theorem eX3_forbid_1 : Dn mX3_forbid 1 (.iconst 0) 1 2 := ⟨by decide +kernel, rfl⟩
theorem eX3_forbid_2 : Dn mX3_forbid 2 (.bipush 12) 2 4 := ⟨by decide +kernel, rfl⟩
theorem eX3_forbid_4 : Dn mX3_forbid 4 (.invokestatic 44) 3 7 := ⟨by decide +kernel, rfl⟩
theorem eX3_forbid_7 : Dj mX3_forbid 7 (.ifCond .ne 10) (10) 10 17 := ⟨by decide +kernel, rfl, rfl⟩
theorem eX3_forbid_10 : Dn mX3_forbid 10 (.aload_n 0) 1 11 := ⟨by decide +kernel, rfl⟩
theorem eX3_forbid_11 : Dn mX3_forbid 11 (.ldc 48) 2 13 := ⟨by decide +kernel, rfl⟩
theorem eX3_forbid_13 : Dn mX3_forbid 13 (.invokevirtual 49) 3 16 := ⟨by decide +kernel, rfl⟩
theorem eX3_forbid_16 : Dn mX3_forbid 16 (.ireturn) 1 17 := ⟨by decide +kernel, rfl⟩
theorem eX3_forbid_17 : Dn mX3_forbid 17 (.aload_n 0) 1 18 := ⟨by decide +kernel, rfl⟩
theorem eX3_forbid_18 : Dn mX3_forbid 18 (.getfield 10) 3 21 := ⟨by decide +kernel, rfl⟩
theorem eX3_forbid_21 : Dn mX3_forbid 21 (.invokevirtual 113) 3 24 := ⟨by decide +kernel, rfl⟩
theorem eX3_forbid_24 : Dn mX3_forbid 24 (.istore_n 2) 1 25 := ⟨by decide +kernel, rfl⟩
theorem eX3_forbid_25 : Dn mX3_forbid 25 (.iconst 0) 1 26 := ⟨by decide +kernel, rfl⟩
theorem eX3_forbid_26 : Dn mX3_forbid 26 (.istore_n 3) 1 27 := ⟨by decide +kernel, rfl⟩
theorem eX3_forbid_27 : Dn mX3_forbid 27 (.iload_n 3) 1 28 := ⟨by decide +kernel, rfl⟩
theorem eX3_forbid_28 : Dn mX3_forbid 28 (.bipush 8) 2 30 := ⟨by decide +kernel, rfl⟩
theorem eX3_forbid_30 : Dj mX3_forbid 30 (.if_icmp .ge 59) (59) 33 89 := ⟨by decide +kernel, rfl, rfl⟩
theorem eX3_forbid_33 : Dn mX3_forbid 33 (.iconst 0) 1 34 := ⟨by decide +kernel, rfl⟩
theorem eX3_forbid_34 : Dn mX3_forbid 34 (.istore 4) 2 36 := ⟨by decide +kernel, rfl⟩
theorem eX3_forbid_36 : Dn mX3_forbid 36 (.iload 4) 2 38 := ⟨by decide +kernel, rfl⟩
theorem eX3_forbid_38 : Dn mX3_forbid 38 (.iload_n 2) 1 39 := ⟨by decide +kernel, rfl⟩
theorem eX3_forbid_39 : Dj mX3_forbid 39 (.if_icmp .gt 44) (44) 42 83 := ⟨by decide +kernel, rfl, rfl⟩
theorem eX3_forbid_42 : Dn mX3_forbid 42 (.iload 4) 2 44 := ⟨by decide +kernel, rfl⟩
theorem eX3_forbid_44 : Dn mX3_forbid 44 (.iload_n 2) 1 45 := ⟨by decide +kernel, rfl⟩
theorem eX3_forbid_45 : Dn mX3_forbid 45 (.iconst (-1)) 1 46 := ⟨by decide +kernel, rfl⟩
theorem eX3_forbid_46 : Dn mX3_forbid 46 (.ixor) 1 47 := ⟨by decide +kernel, rfl⟩
theorem eX3_forbid_47 : Dn mX3_forbid 47 (.iand) 1 48 := ⟨by decide +kernel, rfl⟩
theorem eX3_forbid_48 : Dj mX3_forbid 48 (.ifCond .ne 29) (29) 51 77 := ⟨by decide +kernel, rfl, rfl⟩
theorem eX3_forbid_51 : Dn mX3_forbid 51 (.iload 4) 2 53 := ⟨by decide +kernel, rfl⟩
theorem eX3_forbid_53 : Dn mX3_forbid 53 (.invokestatic 141) 3 56 := ⟨by decide +kernel, rfl⟩
theorem eX3_forbid_56 : Dn mX3_forbid 56 (.iload_n 3) 1 57 := ⟨by decide +kernel, rfl⟩
theorem eX3_forbid_57 : Dj mX3_forbid 57 (.if_icmp .ne 20) (20) 60 77 := ⟨by decide +kernel, rfl, rfl⟩
theorem eX3_forbid_60 : Dn mX3_forbid 60 (.aload_n 0) 1 61 := ⟨by decide +kernel, rfl⟩
theorem eX3_forbid_61 : Dn mX3_forbid 61 (.iload 4) 2 63 := ⟨by decide +kernel, rfl⟩
theorem eX3_forbid_63 : Dn mX3_forbid 63 (.invokevirtual 146) 3 66 := ⟨by decide +kernel, rfl⟩
theorem eX3_forbid_66 : Dn mX3_forbid 66 (.aload_n 0) 1 67 := ⟨by decide +kernel, rfl⟩
theorem eX3_forbid_67 : Dn mX3_forbid 67 (.iload_n 1) 1 68 := ⟨by decide +kernel, rfl⟩
theorem eX3_forbid_68 : Dn mX3_forbid 68 (.invokevirtual 138) 3 71 := ⟨by decide +kernel, rfl⟩
theorem eX3_forbid_71 : Dj mX3_forbid 71 (.ifCond .eq 6) (6) 74 77 := ⟨by decide +kernel, rfl, rfl⟩
theorem eX3_forbid_74 : Dn mX3_forbid 74 (.iload 4) 2 76 := ⟨by decide +kernel, rfl⟩
theorem eX3_forbid_76 : Dn mX3_forbid 76 (.ireturn) 1 77 := ⟨by decide +kernel, rfl⟩
theorem eX3_forbid_77 : Dn mX3_forbid 77 (.iinc 4 1) 3 80 := ⟨by decide +kernel, rfl⟩
theorem eX3_forbid_80 : Dj mX3_forbid 80 (.goto (-44)) (-44) 83 36 := ⟨by decide +kernel, rfl, rfl⟩
theorem eX3_forbid_83 : Dn mX3_forbid 83 (.iinc 3 1) 3 86 := ⟨by decide +kernel, rfl⟩
theorem eX3_forbid_86 : Dj mX3_forbid 86 (.goto (-59)) (-59) 89 27 := ⟨by decide +kernel, rfl, rfl⟩
theorem eX3_forbid_89 : Dn mX3_forbid 89 (.iload_n 2) 1 90 := ⟨by decide +kernel, rfl⟩
theorem eX3_forbid_90 : Dn mX3_forbid 90 (.ireturn) 1 91 := ⟨by decide +kernel, rfl⟩
theorem eX3_biscuitsFor_0 : Dn mX3_biscuitsFor 0 (.aload_n 0) 1 1 := ⟨by decide +kernel, rfl⟩
theorem eX3_biscuitsFor_1 : Dn mX3_biscuitsFor 1 (.getfield 10) 3 4 := ⟨by decide +kernel, rfl⟩
theorem eX3_biscuitsFor_4 : Dn mX3_biscuitsFor 4 (.iload_n 1) 1 5 := ⟨by decide +kernel, rfl⟩
theorem eX3_biscuitsFor_5 : Dn mX3_biscuitsFor 5 (.invokevirtual 68) 3 8 := ⟨by decide +kernel, rfl⟩
theorem eX3_biscuitsFor_8 : Dj mX3_biscuitsFor 8 (.ifCond .eq 13) (13) 11 21 := ⟨by decide +kernel, rfl, rfl⟩
theorem eX3_biscuitsFor_11 : Dn mX3_biscuitsFor 11 (.iload_n 2) 1 12 := ⟨by decide +kernel, rfl⟩
theorem eX3_biscuitsFor_12 : Dn mX3_biscuitsFor 12 (.iconst 0) 1 13 := ⟨by decide +kernel, rfl⟩
theorem eX3_biscuitsFor_13 : Dn mX3_biscuitsFor 13 (.bipush 20) 2 15 := ⟨by decide +kernel, rfl⟩
theorem eX3_biscuitsFor_15 : Dn mX3_biscuitsFor 15 (.invokestatic 44) 3 18 := ⟨by decide +kernel, rfl⟩
theorem eX3_biscuitsFor_18 : Dj mX3_biscuitsFor 18 (.ifCond .ne 10) (10) 21 28 := ⟨by decide +kernel, rfl, rfl⟩
theorem eX3_biscuitsFor_21 : Dn mX3_biscuitsFor 21 (.aload_n 0) 1 22 := ⟨by decide +kernel, rfl⟩
theorem eX3_biscuitsFor_22 : Dn mX3_biscuitsFor 22 (.ldc 48) 2 24 := ⟨by decide +kernel, rfl⟩
theorem eX3_biscuitsFor_24 : Dn mX3_biscuitsFor 24 (.invokevirtual 49) 3 27 := ⟨by decide +kernel, rfl⟩
theorem eX3_biscuitsFor_27 : Dn mX3_biscuitsFor 27 (.ireturn) 1 28 := ⟨by decide +kernel, rfl⟩
theorem eX3_biscuitsFor_28 : Dn mX3_biscuitsFor 28 (.aload_n 0) 1 29 := ⟨by decide +kernel, rfl⟩
theorem eX3_biscuitsFor_29 : Dn mX3_biscuitsFor 29 (.iload_n 1) 1 30 := ⟨by decide +kernel, rfl⟩
theorem eX3_biscuitsFor_30 : Dn mX3_biscuitsFor 30 (.iconst 4) 1 31 := ⟨by decide +kernel, rfl⟩
theorem eX3_biscuitsFor_31 : Dn mX3_biscuitsFor 31 (.bipush 99) 2 33 := ⟨by decide +kernel, rfl⟩
theorem eX3_biscuitsFor_33 : Dn mX3_biscuitsFor 33 (.iload_n 2) 1 34 := ⟨by decide +kernel, rfl⟩
theorem eX3_biscuitsFor_34 : Dn mX3_biscuitsFor 34 (.invokevirtual 134) 3 37 := ⟨by decide +kernel, rfl⟩
theorem eX3_biscuitsFor_37 : Dn mX3_biscuitsFor 37 (.istore_n 3) 1 38 := ⟨by decide +kernel, rfl⟩
theorem eX3_biscuitsFor_38 : Dn mX3_biscuitsFor 38 (.iconst 0) 1 39 := ⟨by decide +kernel, rfl⟩
theorem eX3_biscuitsFor_39 : Dn mX3_biscuitsFor 39 (.istore 4) 2 41 := ⟨by decide +kernel, rfl⟩
theorem eX3_biscuitsFor_41 : Dn mX3_biscuitsFor 41 (.iload 4) 2 43 := ⟨by decide +kernel, rfl⟩
theorem eX3_biscuitsFor_43 : Dn mX3_biscuitsFor 43 (.bipush 99) 2 45 := ⟨by decide +kernel, rfl⟩
theorem eX3_biscuitsFor_45 : Dj mX3_biscuitsFor 45 (.if_icmp .ge 25) (25) 48 70 := ⟨by decide +kernel, rfl, rfl⟩
theorem eX3_biscuitsFor_48 : Dn mX3_biscuitsFor 48 (.aload_n 0) 1 49 := ⟨by decide +kernel, rfl⟩
theorem eX3_biscuitsFor_49 : Dn mX3_biscuitsFor 49 (.iload_n 1) 1 50 := ⟨by decide +kernel, rfl⟩
theorem eX3_biscuitsFor_50 : Dn mX3_biscuitsFor 50 (.iconst 4) 1 51 := ⟨by decide +kernel, rfl⟩
theorem eX3_biscuitsFor_51 : Dn mX3_biscuitsFor 51 (.iload 4) 2 53 := ⟨by decide +kernel, rfl⟩
theorem eX3_biscuitsFor_53 : Dn mX3_biscuitsFor 53 (.iload_n 2) 1 54 := ⟨by decide +kernel, rfl⟩
theorem eX3_biscuitsFor_54 : Dn mX3_biscuitsFor 54 (.invokevirtual 134) 3 57 := ⟨by decide +kernel, rfl⟩
theorem eX3_biscuitsFor_57 : Dn mX3_biscuitsFor 57 (.iload_n 3) 1 58 := ⟨by decide +kernel, rfl⟩
theorem eX3_biscuitsFor_58 : Dj mX3_biscuitsFor 58 (.if_icmp .ne 6) (6) 61 64 := ⟨by decide +kernel, rfl, rfl⟩
theorem eX3_biscuitsFor_61 : Dn mX3_biscuitsFor 61 (.iload 4) 2 63 := ⟨by decide +kernel, rfl⟩
theorem eX3_biscuitsFor_63 : Dn mX3_biscuitsFor 63 (.ireturn) 1 64 := ⟨by decide +kernel, rfl⟩
theorem eX3_biscuitsFor_64 : Dn mX3_biscuitsFor 64 (.iinc 4 1) 3 67 := ⟨by decide +kernel, rfl⟩
theorem eX3_biscuitsFor_67 : Dj mX3_biscuitsFor 67 (.goto (-26)) (-26) 70 41 := ⟨by decide +kernel, rfl, rfl⟩
theorem eX3_biscuitsFor_70 : Dn mX3_biscuitsFor 70 (.bipush 99) 2 72 := ⟨by decide +kernel, rfl⟩
theorem eX3_biscuitsFor_72 : Dn mX3_biscuitsFor 72 (.ireturn) 1 73 := ⟨by decide +kernel, rfl⟩
theorem eX3_sources_0 : Dn mX3_sources 0 (.aload_n 0) 1 1 := ⟨by decide +kernel, rfl⟩
theorem eX3_sources_1 : Dn mX3_sources 1 (.iload_n 1) 1 2 := ⟨by decide +kernel, rfl⟩
theorem eX3_sources_2 : Dn mX3_sources 2 (.iload_n 2) 1 3 := ⟨by decide +kernel, rfl⟩
theorem eX3_sources_3 : Dn mX3_sources 3 (.invokevirtual 149) 3 6 := ⟨by decide +kernel, rfl⟩
theorem eX3_sources_6 : Dn mX3_sources 6 (.istore_n 3) 1 7 := ⟨by decide +kernel, rfl⟩
theorem eX3_sources_7 : Dn mX3_sources 7 (.iload_n 3) 1 8 := ⟨by decide +kernel, rfl⟩
theorem eX3_sources_8 : Dj mX3_sources 8 (.ifCond .eq 9) (9) 11 17 := ⟨by decide +kernel, rfl, rfl⟩
theorem eX3_sources_11 : Dn mX3_sources 11 (.aload_n 0) 1 12 := ⟨by decide +kernel, rfl⟩
theorem eX3_sources_12 : Dn mX3_sources 12 (.iload_n 3) 1 13 := ⟨by decide +kernel, rfl⟩
theorem eX3_sources_13 : Dn mX3_sources 13 (.invokevirtual 49) 3 16 := ⟨by decide +kernel, rfl⟩
theorem eX3_sources_16 : Dn mX3_sources 16 (.ireturn) 1 17 := ⟨by decide +kernel, rfl⟩
theorem eX3_sources_17 : Dn mX3_sources 17 (.iconst 0) 1 18 := ⟨by decide +kernel, rfl⟩
theorem eX3_sources_18 : Dn mX3_sources 18 (.istore 4) 2 20 := ⟨by decide +kernel, rfl⟩
theorem eX3_sources_20 : Dn mX3_sources 20 (.iconst 0) 1 21 := ⟨by decide +kernel, rfl⟩
theorem eX3_sources_21 : Dn mX3_sources 21 (.istore 5) 2 23 := ⟨by decide +kernel, rfl⟩
theorem eX3_sources_23 : Dn mX3_sources 23 (.iload 5) 2 25 := ⟨by decide +kernel, rfl⟩
theorem eX3_sources_25 : Dn mX3_sources 25 (.aload_n 0) 1 26 := ⟨by decide +kernel, rfl⟩
theorem eX3_sources_26 : Dn mX3_sources 26 (.getfield 10) 3 29 := ⟨by decide +kernel, rfl⟩
theorem eX3_sources_29 : Dn mX3_sources 29 (.getfield 60) 3 32 := ⟨by decide +kernel, rfl⟩
theorem eX3_sources_32 : Dj mX3_sources 32 (.if_icmp .ge 41) (41) 35 73 := ⟨by decide +kernel, rfl, rfl⟩
theorem eX3_sources_35 : Dn mX3_sources 35 (.iload 5) 2 37 := ⟨by decide +kernel, rfl⟩
theorem eX3_sources_37 : Dn mX3_sources 37 (.iload_n 2) 1 38 := ⟨by decide +kernel, rfl⟩
theorem eX3_sources_38 : Dj mX3_sources 38 (.if_icmp .eq 29) (29) 41 67 := ⟨by decide +kernel, rfl, rfl⟩
theorem eX3_sources_41 : Dn mX3_sources 41 (.aload_n 0) 1 42 := ⟨by decide +kernel, rfl⟩
theorem eX3_sources_42 : Dn mX3_sources 42 (.aload_n 0) 1 43 := ⟨by decide +kernel, rfl⟩
theorem eX3_sources_43 : Dn mX3_sources 43 (.getfield 35) 3 46 := ⟨by decide +kernel, rfl⟩
theorem eX3_sources_46 : Dn mX3_sources 46 (.iload_n 1) 1 47 := ⟨by decide +kernel, rfl⟩
theorem eX3_sources_47 : Dn mX3_sources 47 (.aaload) 1 48 := ⟨by decide +kernel, rfl⟩
theorem eX3_sources_48 : Dn mX3_sources 48 (.iload_n 2) 1 49 := ⟨by decide +kernel, rfl⟩
theorem eX3_sources_49 : Dn mX3_sources 49 (.iconst 2) 1 50 := ⟨by decide +kernel, rfl⟩
theorem eX3_sources_50 : Dn mX3_sources 50 (.iload 5) 2 52 := ⟨by decide +kernel, rfl⟩
theorem eX3_sources_52 : Dn mX3_sources 52 (.invokevirtual 152) 3 55 := ⟨by decide +kernel, rfl⟩
theorem eX3_sources_55 : Dj mX3_sources 55 (.ifCond .eq 12) (12) 58 67 := ⟨by decide +kernel, rfl, rfl⟩
theorem eX3_sources_58 : Dn mX3_sources 58 (.iload 4) 2 60 := ⟨by decide +kernel, rfl⟩
theorem eX3_sources_60 : Dn mX3_sources 60 (.iconst 1) 1 61 := ⟨by decide +kernel, rfl⟩
theorem eX3_sources_61 : Dn mX3_sources 61 (.iload 5) 2 63 := ⟨by decide +kernel, rfl⟩
theorem eX3_sources_63 : Dn mX3_sources 63 (.ishl) 1 64 := ⟨by decide +kernel, rfl⟩
theorem eX3_sources_64 : Dn mX3_sources 64 (.ior) 1 65 := ⟨by decide +kernel, rfl⟩
theorem eX3_sources_65 : Dn mX3_sources 65 (.istore 4) 2 67 := ⟨by decide +kernel, rfl⟩
theorem eX3_sources_67 : Dn mX3_sources 67 (.iinc 5 1) 3 70 := ⟨by decide +kernel, rfl⟩
theorem eX3_sources_70 : Dj mX3_sources 70 (.goto (-47)) (-47) 73 23 := ⟨by decide +kernel, rfl, rfl⟩
theorem eX3_sources_73 : Dn mX3_sources 73 (.iload 4) 2 75 := ⟨by decide +kernel, rfl⟩
theorem eX3_sources_75 : Dn mX3_sources 75 (.ireturn) 1 76 := ⟨by decide +kernel, rfl⟩
theorem eX3_fits_0 : Dn mX3_fits 0 (.aload_n 0) 1 1 := ⟨by decide +kernel, rfl⟩
theorem eX3_fits_1 : Dn mX3_fits 1 (.iload_n 1) 1 2 := ⟨by decide +kernel, rfl⟩
theorem eX3_fits_2 : Dn mX3_fits 2 (.iload_n 2) 1 3 := ⟨by decide +kernel, rfl⟩
theorem eX3_fits_3 : Dn mX3_fits 3 (.invokevirtual 149) 3 6 := ⟨by decide +kernel, rfl⟩
theorem eX3_fits_6 : Dn mX3_fits 6 (.istore_n 3) 1 7 := ⟨by decide +kernel, rfl⟩
theorem eX3_fits_7 : Dn mX3_fits 7 (.iload_n 3) 1 8 := ⟨by decide +kernel, rfl⟩
theorem eX3_fits_8 : Dj mX3_fits 8 (.ifCond .eq 9) (9) 11 17 := ⟨by decide +kernel, rfl, rfl⟩
theorem eX3_fits_11 : Dn mX3_fits 11 (.aload_n 0) 1 12 := ⟨by decide +kernel, rfl⟩
theorem eX3_fits_12 : Dn mX3_fits 12 (.iload_n 3) 1 13 := ⟨by decide +kernel, rfl⟩
theorem eX3_fits_13 : Dn mX3_fits 13 (.invokevirtual 49) 3 16 := ⟨by decide +kernel, rfl⟩
theorem eX3_fits_16 : Dn mX3_fits 16 (.ireturn) 1 17 := ⟨by decide +kernel, rfl⟩
theorem eX3_fits_17 : Dn mX3_fits 17 (.aload_n 0) 1 18 := ⟨by decide +kernel, rfl⟩
theorem eX3_fits_18 : Dn mX3_fits 18 (.iload_n 2) 1 19 := ⟨by decide +kernel, rfl⟩
theorem eX3_fits_19 : Dn mX3_fits 19 (.invokevirtual 156) 3 22 := ⟨by decide +kernel, rfl⟩
theorem eX3_fits_22 : Dn mX3_fits 22 (.iconst 1) 1 23 := ⟨by decide +kernel, rfl⟩
theorem eX3_fits_23 : Dn mX3_fits 23 (.istore 4) 2 25 := ⟨by decide +kernel, rfl⟩
theorem eX3_fits_25 : Dn mX3_fits 25 (.iconst 0) 1 26 := ⟨by decide +kernel, rfl⟩
theorem eX3_fits_26 : Dn mX3_fits 26 (.istore 5) 2 28 := ⟨by decide +kernel, rfl⟩
theorem eX3_fits_28 : Dn mX3_fits 28 (.iload 5) 2 30 := ⟨by decide +kernel, rfl⟩
theorem eX3_fits_30 : Dn mX3_fits 30 (.bipush 8) 2 32 := ⟨by decide +kernel, rfl⟩
theorem eX3_fits_32 : Dj mX3_fits 32 (.if_icmp .ge 56) (56) 35 88 := ⟨by decide +kernel, rfl, rfl⟩
theorem eX3_fits_35 : Dn mX3_fits 35 (.iconst 0) 1 36 := ⟨by decide +kernel, rfl⟩
theorem eX3_fits_36 : Dn mX3_fits 36 (.istore 6) 2 38 := ⟨by decide +kernel, rfl⟩
theorem eX3_fits_38 : Dn mX3_fits 38 (.aload_n 0) 1 39 := ⟨by decide +kernel, rfl⟩
theorem eX3_fits_39 : Dn mX3_fits 39 (.aload_n 0) 1 40 := ⟨by decide +kernel, rfl⟩
theorem eX3_fits_40 : Dn mX3_fits 40 (.getfield 35) 3 43 := ⟨by decide +kernel, rfl⟩
theorem eX3_fits_43 : Dn mX3_fits 43 (.iload_n 1) 1 44 := ⟨by decide +kernel, rfl⟩
theorem eX3_fits_44 : Dn mX3_fits 44 (.aaload) 1 45 := ⟨by decide +kernel, rfl⟩
theorem eX3_fits_45 : Dn mX3_fits 45 (.iload_n 2) 1 46 := ⟨by decide +kernel, rfl⟩
theorem eX3_fits_46 : Dn mX3_fits 46 (.iload 5) 2 48 := ⟨by decide +kernel, rfl⟩
theorem eX3_fits_48 : Dn mX3_fits 48 (.invokevirtual 159) 3 51 := ⟨by decide +kernel, rfl⟩
theorem eX3_fits_51 : Dj mX3_fits 51 (.ifCond .eq 6) (6) 54 57 := ⟨by decide +kernel, rfl, rfl⟩
theorem eX3_fits_54 : Dn mX3_fits 54 (.iinc 6 1) 3 57 := ⟨by decide +kernel, rfl⟩
theorem eX3_fits_57 : Dn mX3_fits 57 (.aload_n 0) 1 58 := ⟨by decide +kernel, rfl⟩
theorem eX3_fits_58 : Dn mX3_fits 58 (.aload_n 0) 1 59 := ⟨by decide +kernel, rfl⟩
theorem eX3_fits_59 : Dn mX3_fits 59 (.getfield 35) 3 62 := ⟨by decide +kernel, rfl⟩
theorem eX3_fits_62 : Dn mX3_fits 62 (.iload_n 1) 1 63 := ⟨by decide +kernel, rfl⟩
theorem eX3_fits_63 : Dn mX3_fits 63 (.aaload) 1 64 := ⟨by decide +kernel, rfl⟩
theorem eX3_fits_64 : Dn mX3_fits 64 (.iload 5) 2 66 := ⟨by decide +kernel, rfl⟩
theorem eX3_fits_66 : Dn mX3_fits 66 (.invokevirtual 163) 3 69 := ⟨by decide +kernel, rfl⟩
theorem eX3_fits_69 : Dj mX3_fits 69 (.ifCond .eq 6) (6) 72 75 := ⟨by decide +kernel, rfl, rfl⟩
theorem eX3_fits_72 : Dn mX3_fits 72 (.iinc 6 1) 3 75 := ⟨by decide +kernel, rfl⟩
theorem eX3_fits_75 : Dn mX3_fits 75 (.iload 4) 2 77 := ⟨by decide +kernel, rfl⟩
theorem eX3_fits_77 : Dn mX3_fits 77 (.iload 6) 2 79 := ⟨by decide +kernel, rfl⟩
theorem eX3_fits_79 : Dn mX3_fits 79 (.imul) 1 80 := ⟨by decide +kernel, rfl⟩
theorem eX3_fits_80 : Dn mX3_fits 80 (.istore 4) 2 82 := ⟨by decide +kernel, rfl⟩
theorem eX3_fits_82 : Dn mX3_fits 82 (.iinc 5 1) 3 85 := ⟨by decide +kernel, rfl⟩
theorem eX3_fits_85 : Dj mX3_fits 85 (.goto (-57)) (-57) 88 28 := ⟨by decide +kernel, rfl, rfl⟩
theorem eX3_fits_88 : Dn mX3_fits 88 (.iload 4) 2 90 := ⟨by decide +kernel, rfl⟩
theorem eX3_fits_90 : Dn mX3_fits 90 (.ireturn) 1 91 := ⟨by decide +kernel, rfl⟩
theorem eX3_knew_0 : Dn mX3_knew 0 (.aload_n 0) 1 1 := ⟨by decide +kernel, rfl⟩
theorem eX3_knew_1 : Dn mX3_knew 1 (.iload_n 1) 1 2 := ⟨by decide +kernel, rfl⟩
theorem eX3_knew_2 : Dn mX3_knew 2 (.iload_n 2) 1 3 := ⟨by decide +kernel, rfl⟩
theorem eX3_knew_3 : Dn mX3_knew 3 (.invokevirtual 149) 3 6 := ⟨by decide +kernel, rfl⟩
theorem eX3_knew_6 : Dn mX3_knew 6 (.istore_n 3) 1 7 := ⟨by decide +kernel, rfl⟩
theorem eX3_knew_7 : Dn mX3_knew 7 (.iload_n 3) 1 8 := ⟨by decide +kernel, rfl⟩
theorem eX3_knew_8 : Dj mX3_knew 8 (.ifCond .eq 9) (9) 11 17 := ⟨by decide +kernel, rfl, rfl⟩
theorem eX3_knew_11 : Dn mX3_knew 11 (.aload_n 0) 1 12 := ⟨by decide +kernel, rfl⟩
theorem eX3_knew_12 : Dn mX3_knew 12 (.iload_n 3) 1 13 := ⟨by decide +kernel, rfl⟩
theorem eX3_knew_13 : Dn mX3_knew 13 (.invokevirtual 49) 3 16 := ⟨by decide +kernel, rfl⟩
theorem eX3_knew_16 : Dn mX3_knew 16 (.ireturn) 1 17 := ⟨by decide +kernel, rfl⟩
theorem eX3_knew_17 : Dn mX3_knew 17 (.aload_n 0) 1 18 := ⟨by decide +kernel, rfl⟩
theorem eX3_knew_18 : Dn mX3_knew 18 (.iload_n 2) 1 19 := ⟨by decide +kernel, rfl⟩
theorem eX3_knew_19 : Dn mX3_knew 19 (.invokevirtual 156) 3 22 := ⟨by decide +kernel, rfl⟩
theorem eX3_knew_22 : Dn mX3_knew 22 (.iconst 0) 1 23 := ⟨by decide +kernel, rfl⟩
theorem eX3_knew_23 : Dn mX3_knew 23 (.istore 4) 2 25 := ⟨by decide +kernel, rfl⟩
theorem eX3_knew_25 : Dn mX3_knew 25 (.iconst 0) 1 26 := ⟨by decide +kernel, rfl⟩
theorem eX3_knew_26 : Dn mX3_knew 26 (.istore 5) 2 28 := ⟨by decide +kernel, rfl⟩
theorem eX3_knew_28 : Dn mX3_knew 28 (.iload 5) 2 30 := ⟨by decide +kernel, rfl⟩
theorem eX3_knew_30 : Dn mX3_knew 30 (.bipush 8) 2 32 := ⟨by decide +kernel, rfl⟩
theorem eX3_knew_32 : Dj mX3_knew 32 (.if_icmp .ge 56) (56) 35 88 := ⟨by decide +kernel, rfl, rfl⟩
theorem eX3_knew_35 : Dn mX3_knew 35 (.aload_n 0) 1 36 := ⟨by decide +kernel, rfl⟩
theorem eX3_knew_36 : Dn mX3_knew 36 (.aload_n 0) 1 37 := ⟨by decide +kernel, rfl⟩
theorem eX3_knew_37 : Dn mX3_knew 37 (.getfield 35) 3 40 := ⟨by decide +kernel, rfl⟩
theorem eX3_knew_40 : Dn mX3_knew 40 (.iload_n 1) 1 41 := ⟨by decide +kernel, rfl⟩
theorem eX3_knew_41 : Dn mX3_knew 41 (.aaload) 1 42 := ⟨by decide +kernel, rfl⟩
theorem eX3_knew_42 : Dn mX3_knew 42 (.iload_n 2) 1 43 := ⟨by decide +kernel, rfl⟩
theorem eX3_knew_43 : Dn mX3_knew 43 (.iload 5) 2 45 := ⟨by decide +kernel, rfl⟩
theorem eX3_knew_45 : Dn mX3_knew 45 (.invokevirtual 159) 3 48 := ⟨by decide +kernel, rfl⟩
theorem eX3_knew_48 : Dj mX3_knew 48 (.ifCond .ne 34) (34) 51 82 := ⟨by decide +kernel, rfl, rfl⟩
theorem eX3_knew_51 : Dn mX3_knew 51 (.aload_n 0) 1 52 := ⟨by decide +kernel, rfl⟩
theorem eX3_knew_52 : Dn mX3_knew 52 (.aload_n 0) 1 53 := ⟨by decide +kernel, rfl⟩
theorem eX3_knew_53 : Dn mX3_knew 53 (.getfield 35) 3 56 := ⟨by decide +kernel, rfl⟩
theorem eX3_knew_56 : Dn mX3_knew 56 (.iload_n 1) 1 57 := ⟨by decide +kernel, rfl⟩
theorem eX3_knew_57 : Dn mX3_knew 57 (.aaload) 1 58 := ⟨by decide +kernel, rfl⟩
theorem eX3_knew_58 : Dn mX3_knew 58 (.iload 5) 2 60 := ⟨by decide +kernel, rfl⟩
theorem eX3_knew_60 : Dn mX3_knew 60 (.invokevirtual 163) 3 63 := ⟨by decide +kernel, rfl⟩
theorem eX3_knew_63 : Dj mX3_knew 63 (.ifCond .ne 10) (10) 66 73 := ⟨by decide +kernel, rfl, rfl⟩
theorem eX3_knew_66 : Dn mX3_knew 66 (.aload_n 0) 1 67 := ⟨by decide +kernel, rfl⟩
theorem eX3_knew_67 : Dn mX3_knew 67 (.ldc 133) 2 69 := ⟨by decide +kernel, rfl⟩
theorem eX3_knew_69 : Dn mX3_knew 69 (.invokevirtual 49) 3 72 := ⟨by decide +kernel, rfl⟩
theorem eX3_knew_72 : Dn mX3_knew 72 (.ireturn) 1 73 := ⟨by decide +kernel, rfl⟩
theorem eX3_knew_73 : Dn mX3_knew 73 (.iload 4) 2 75 := ⟨by decide +kernel, rfl⟩
theorem eX3_knew_75 : Dn mX3_knew 75 (.iconst 1) 1 76 := ⟨by decide +kernel, rfl⟩
theorem eX3_knew_76 : Dn mX3_knew 76 (.iload 5) 2 78 := ⟨by decide +kernel, rfl⟩
theorem eX3_knew_78 : Dn mX3_knew 78 (.ishl) 1 79 := ⟨by decide +kernel, rfl⟩
theorem eX3_knew_79 : Dn mX3_knew 79 (.ior) 1 80 := ⟨by decide +kernel, rfl⟩
theorem eX3_knew_80 : Dn mX3_knew 80 (.istore 4) 2 82 := ⟨by decide +kernel, rfl⟩
theorem eX3_knew_82 : Dn mX3_knew 82 (.iinc 5 1) 3 85 := ⟨by decide +kernel, rfl⟩
theorem eX3_knew_85 : Dj mX3_knew 85 (.goto (-57)) (-57) 88 28 := ⟨by decide +kernel, rfl, rfl⟩
theorem eX3_knew_88 : Dn mX3_knew 88 (.iload 4) 2 90 := ⟨by decide +kernel, rfl⟩
theorem eX3_knew_90 : Dn mX3_knew 90 (.ireturn) 1 91 := ⟨by decide +kernel, rfl⟩
theorem eX3_kinds_0 : Dn mX3_kinds 0 (.aload_n 0) 1 1 := ⟨by decide +kernel, rfl⟩
theorem eX3_kinds_1 : Dn mX3_kinds 1 (.iload_n 1) 1 2 := ⟨by decide +kernel, rfl⟩
theorem eX3_kinds_2 : Dn mX3_kinds 2 (.iload_n 2) 1 3 := ⟨by decide +kernel, rfl⟩
theorem eX3_kinds_3 : Dn mX3_kinds 3 (.invokevirtual 149) 3 6 := ⟨by decide +kernel, rfl⟩
theorem eX3_kinds_6 : Dn mX3_kinds 6 (.istore_n 3) 1 7 := ⟨by decide +kernel, rfl⟩
theorem eX3_kinds_7 : Dn mX3_kinds 7 (.iload_n 3) 1 8 := ⟨by decide +kernel, rfl⟩
theorem eX3_kinds_8 : Dj mX3_kinds 8 (.ifCond .eq 9) (9) 11 17 := ⟨by decide +kernel, rfl, rfl⟩
theorem eX3_kinds_11 : Dn mX3_kinds 11 (.aload_n 0) 1 12 := ⟨by decide +kernel, rfl⟩
theorem eX3_kinds_12 : Dn mX3_kinds 12 (.iload_n 3) 1 13 := ⟨by decide +kernel, rfl⟩
theorem eX3_kinds_13 : Dn mX3_kinds 13 (.invokevirtual 49) 3 16 := ⟨by decide +kernel, rfl⟩
theorem eX3_kinds_16 : Dn mX3_kinds 16 (.ireturn) 1 17 := ⟨by decide +kernel, rfl⟩
theorem eX3_kinds_17 : Dn mX3_kinds 17 (.iconst 0) 1 18 := ⟨by decide +kernel, rfl⟩
theorem eX3_kinds_18 : Dn mX3_kinds 18 (.istore 4) 2 20 := ⟨by decide +kernel, rfl⟩
theorem eX3_kinds_20 : Dn mX3_kinds 20 (.iconst 0) 1 21 := ⟨by decide +kernel, rfl⟩
theorem eX3_kinds_21 : Dn mX3_kinds 21 (.istore 5) 2 23 := ⟨by decide +kernel, rfl⟩
theorem eX3_kinds_23 : Dn mX3_kinds 23 (.iload 5) 2 25 := ⟨by decide +kernel, rfl⟩
theorem eX3_kinds_25 : Dn mX3_kinds 25 (.bipush 7) 2 27 := ⟨by decide +kernel, rfl⟩
theorem eX3_kinds_27 : Dj mX3_kinds 27 (.if_icmp .ge 35) (35) 30 62 := ⟨by decide +kernel, rfl, rfl⟩
theorem eX3_kinds_30 : Dn mX3_kinds 30 (.aload_n 0) 1 31 := ⟨by decide +kernel, rfl⟩
theorem eX3_kinds_31 : Dn mX3_kinds 31 (.aload_n 0) 1 32 := ⟨by decide +kernel, rfl⟩
theorem eX3_kinds_32 : Dn mX3_kinds 32 (.getfield 35) 3 35 := ⟨by decide +kernel, rfl⟩
theorem eX3_kinds_35 : Dn mX3_kinds 35 (.iload_n 1) 1 36 := ⟨by decide +kernel, rfl⟩
theorem eX3_kinds_36 : Dn mX3_kinds 36 (.aaload) 1 37 := ⟨by decide +kernel, rfl⟩
theorem eX3_kinds_37 : Dn mX3_kinds 37 (.iload_n 2) 1 38 := ⟨by decide +kernel, rfl⟩
theorem eX3_kinds_38 : Dn mX3_kinds 38 (.iconst 0) 1 39 := ⟨by decide +kernel, rfl⟩
theorem eX3_kinds_39 : Dn mX3_kinds 39 (.iload 5) 2 41 := ⟨by decide +kernel, rfl⟩
theorem eX3_kinds_41 : Dn mX3_kinds 41 (.invokevirtual 152) 3 44 := ⟨by decide +kernel, rfl⟩
theorem eX3_kinds_44 : Dj mX3_kinds 44 (.ifCond .eq 12) (12) 47 56 := ⟨by decide +kernel, rfl, rfl⟩
theorem eX3_kinds_47 : Dn mX3_kinds 47 (.iload 4) 2 49 := ⟨by decide +kernel, rfl⟩
theorem eX3_kinds_49 : Dn mX3_kinds 49 (.iconst 1) 1 50 := ⟨by decide +kernel, rfl⟩
theorem eX3_kinds_50 : Dn mX3_kinds 50 (.iload 5) 2 52 := ⟨by decide +kernel, rfl⟩
theorem eX3_kinds_52 : Dn mX3_kinds 52 (.ishl) 1 53 := ⟨by decide +kernel, rfl⟩
theorem eX3_kinds_53 : Dn mX3_kinds 53 (.ior) 1 54 := ⟨by decide +kernel, rfl⟩
theorem eX3_kinds_54 : Dn mX3_kinds 54 (.istore 4) 2 56 := ⟨by decide +kernel, rfl⟩
theorem eX3_kinds_56 : Dn mX3_kinds 56 (.iinc 5 1) 3 59 := ⟨by decide +kernel, rfl⟩
theorem eX3_kinds_59 : Dj mX3_kinds 59 (.goto (-36)) (-36) 62 23 := ⟨by decide +kernel, rfl, rfl⟩
theorem eX3_kinds_62 : Dn mX3_kinds 62 (.iload 4) 2 64 := ⟨by decide +kernel, rfl⟩
theorem eX3_kinds_64 : Dn mX3_kinds 64 (.ireturn) 1 65 := ⟨by decide +kernel, rfl⟩
theorem eX3_seats_0 : Dn mX3_seats 0 (.iload_n 1) 1 1 := ⟨by decide +kernel, rfl⟩
theorem eX3_seats_1 : Dn mX3_seats 1 (.iconst 1) 1 2 := ⟨by decide +kernel, rfl⟩
theorem eX3_seats_2 : Dn mX3_seats 2 (.bipush 20) 2 4 := ⟨by decide +kernel, rfl⟩
theorem eX3_seats_4 : Dn mX3_seats 4 (.invokestatic 44) 3 7 := ⟨by decide +kernel, rfl⟩
theorem eX3_seats_7 : Dj mX3_seats 7 (.ifCond .ne 10) (10) 10 17 := ⟨by decide +kernel, rfl, rfl⟩
theorem eX3_seats_10 : Dn mX3_seats 10 (.aload_n 0) 1 11 := ⟨by decide +kernel, rfl⟩
theorem eX3_seats_11 : Dn mX3_seats 11 (.ldc 48) 2 13 := ⟨by decide +kernel, rfl⟩
theorem eX3_seats_13 : Dn mX3_seats 13 (.invokevirtual 49) 3 16 := ⟨by decide +kernel, rfl⟩
theorem eX3_seats_16 : Dn mX3_seats 16 (.ireturn) 1 17 := ⟨by decide +kernel, rfl⟩
theorem eX3_seats_17 : Dn mX3_seats 17 (.aload_n 0) 1 18 := ⟨by decide +kernel, rfl⟩
theorem eX3_seats_18 : Dn mX3_seats 18 (.getfield 10) 3 21 := ⟨by decide +kernel, rfl⟩
theorem eX3_seats_21 : Dn mX3_seats 21 (.getfield 101) 3 24 := ⟨by decide +kernel, rfl⟩
theorem eX3_seats_24 : Dn mX3_seats 24 (.iload_n 1) 1 25 := ⟨by decide +kernel, rfl⟩
theorem eX3_seats_25 : Dn mX3_seats 25 (.iadd) 1 26 := ⟨by decide +kernel, rfl⟩
theorem eX3_seats_26 : Dn mX3_seats 26 (.ldc 104) 2 28 := ⟨by decide +kernel, rfl⟩
theorem eX3_seats_28 : Dj mX3_seats 28 (.if_icmp .le 10) (10) 31 38 := ⟨by decide +kernel, rfl, rfl⟩
theorem eX3_seats_31 : Dn mX3_seats 31 (.aload_n 0) 1 32 := ⟨by decide +kernel, rfl⟩
theorem eX3_seats_32 : Dn mX3_seats 32 (.ldc 105) 2 34 := ⟨by decide +kernel, rfl⟩
theorem eX3_seats_34 : Dn mX3_seats 34 (.invokevirtual 49) 3 37 := ⟨by decide +kernel, rfl⟩
theorem eX3_seats_37 : Dn mX3_seats 37 (.ireturn) 1 38 := ⟨by decide +kernel, rfl⟩
theorem eX3_seats_38 : Dn mX3_seats 38 (.iconst 0) 1 39 := ⟨by decide +kernel, rfl⟩
theorem eX3_seats_39 : Dn mX3_seats 39 (.istore_n 2) 1 40 := ⟨by decide +kernel, rfl⟩
theorem eX3_seats_40 : Dn mX3_seats 40 (.iload_n 2) 1 41 := ⟨by decide +kernel, rfl⟩
theorem eX3_seats_41 : Dn mX3_seats 41 (.iload_n 1) 1 42 := ⟨by decide +kernel, rfl⟩
theorem eX3_seats_42 : Dj mX3_seats 42 (.if_icmp .ge 80) (80) 45 122 := ⟨by decide +kernel, rfl, rfl⟩
theorem eX3_seats_45 : Dn mX3_seats 45 (.aload_n 0) 1 46 := ⟨by decide +kernel, rfl⟩
theorem eX3_seats_46 : Dn mX3_seats 46 (.getfield 10) 3 49 := ⟨by decide +kernel, rfl⟩
theorem eX3_seats_49 : Dn mX3_seats 49 (.invokevirtual 167) 3 52 := ⟨by decide +kernel, rfl⟩
theorem eX3_seats_52 : Dn mX3_seats 52 (.bipush 8) 2 54 := ⟨by decide +kernel, rfl⟩
theorem eX3_seats_54 : Dn mX3_seats 54 (.irem) 1 55 := ⟨by decide +kernel, rfl⟩
theorem eX3_seats_55 : Dn mX3_seats 55 (.istore_n 3) 1 56 := ⟨by decide +kernel, rfl⟩
theorem eX3_seats_56 : Dn mX3_seats 56 (.aload_n 0) 1 57 := ⟨by decide +kernel, rfl⟩
theorem eX3_seats_57 : Dn mX3_seats 57 (.getfield 10) 3 60 := ⟨by decide +kernel, rfl⟩
theorem eX3_seats_60 : Dn mX3_seats 60 (.invokevirtual 167) 3 63 := ⟨by decide +kernel, rfl⟩
theorem eX3_seats_63 : Dn mX3_seats 63 (.bipush 8) 2 65 := ⟨by decide +kernel, rfl⟩
theorem eX3_seats_65 : Dn mX3_seats 65 (.irem) 1 66 := ⟨by decide +kernel, rfl⟩
theorem eX3_seats_66 : Dn mX3_seats 66 (.istore 4) 2 68 := ⟨by decide +kernel, rfl⟩
theorem eX3_seats_68 : Dn mX3_seats 68 (.aload_n 0) 1 69 := ⟨by decide +kernel, rfl⟩
theorem eX3_seats_69 : Dn mX3_seats 69 (.getfield 10) 3 72 := ⟨by decide +kernel, rfl⟩
theorem eX3_seats_72 : Dn mX3_seats 72 (.iload_n 3) 1 73 := ⟨by decide +kernel, rfl⟩
theorem eX3_seats_73 : Dn mX3_seats 73 (.invokevirtual 68) 3 76 := ⟨by decide +kernel, rfl⟩
theorem eX3_seats_76 : Dj mX3_seats 76 (.ifCond .eq 32) (32) 79 108 := ⟨by decide +kernel, rfl, rfl⟩
theorem eX3_seats_79 : Dn mX3_seats 79 (.aload_n 0) 1 80 := ⟨by decide +kernel, rfl⟩
theorem eX3_seats_80 : Dn mX3_seats 80 (.getfield 10) 3 83 := ⟨by decide +kernel, rfl⟩
theorem eX3_seats_83 : Dn mX3_seats 83 (.iload 4) 2 85 := ⟨by decide +kernel, rfl⟩
theorem eX3_seats_85 : Dn mX3_seats 85 (.invokevirtual 68) 3 88 := ⟨by decide +kernel, rfl⟩
theorem eX3_seats_88 : Dj mX3_seats 88 (.ifCond .eq 20) (20) 91 108 := ⟨by decide +kernel, rfl, rfl⟩
theorem eX3_seats_91 : Dn mX3_seats 91 (.iload_n 3) 1 92 := ⟨by decide +kernel, rfl⟩
theorem eX3_seats_92 : Dn mX3_seats 92 (.iload 4) 2 94 := ⟨by decide +kernel, rfl⟩
theorem eX3_seats_94 : Dj mX3_seats 94 (.if_icmp .eq 14) (14) 97 108 := ⟨by decide +kernel, rfl, rfl⟩
theorem eX3_seats_97 : Dn mX3_seats 97 (.aload_n 0) 1 98 := ⟨by decide +kernel, rfl⟩
theorem eX3_seats_98 : Dn mX3_seats 98 (.getfield 10) 3 101 := ⟨by decide +kernel, rfl⟩
theorem eX3_seats_101 : Dn mX3_seats 101 (.iload_n 3) 1 102 := ⟨by decide +kernel, rfl⟩
theorem eX3_seats_102 : Dn mX3_seats 102 (.iconst 2) 1 103 := ⟨by decide +kernel, rfl⟩
theorem eX3_seats_103 : Dn mX3_seats 103 (.iload 4) 2 105 := ⟨by decide +kernel, rfl⟩
theorem eX3_seats_105 : Dn mX3_seats 105 (.invokevirtual 87) 3 108 := ⟨by decide +kernel, rfl⟩
theorem eX3_seats_108 : Dn mX3_seats 108 (.aload_n 0) 1 109 := ⟨by decide +kernel, rfl⟩
theorem eX3_seats_109 : Dn mX3_seats 109 (.getfield 10) 3 112 := ⟨by decide +kernel, rfl⟩
theorem eX3_seats_112 : Dn mX3_seats 112 (.iconst 1) 1 113 := ⟨by decide +kernel, rfl⟩
theorem eX3_seats_113 : Dn mX3_seats 113 (.invokevirtual 106) 3 116 := ⟨by decide +kernel, rfl⟩
theorem eX3_seats_116 : Dn mX3_seats 116 (.iinc 2 1) 3 119 := ⟨by decide +kernel, rfl⟩
theorem eX3_seats_119 : Dj mX3_seats 119 (.goto (-79)) (-79) 122 40 := ⟨by decide +kernel, rfl, rfl⟩
theorem eX3_seats_122 : Dn mX3_seats 122 (.aload_n 0) 1 123 := ⟨by decide +kernel, rfl⟩
theorem eX3_seats_123 : Dn mX3_seats 123 (.getfield 10) 3 126 := ⟨by decide +kernel, rfl⟩
theorem eX3_seats_126 : Dn mX3_seats 126 (.iconst 3) 1 127 := ⟨by decide +kernel, rfl⟩
theorem eX3_seats_127 : Dn mX3_seats 127 (.invokevirtual 110) 3 130 := ⟨by decide +kernel, rfl⟩
theorem eX3_seats_130 : Dn mX3_seats 130 (.ireturn) 1 131 := ⟨by decide +kernel, rfl⟩
theorem eX3_odds_0 : Dn mX3_odds 0 (.aload_n 0) 1 1 := ⟨by decide +kernel, rfl⟩
theorem eX3_odds_1 : Dn mX3_odds 1 (.getfield 10) 3 4 := ⟨by decide +kernel, rfl⟩
theorem eX3_odds_4 : Dn mX3_odds 4 (.iload_n 1) 1 5 := ⟨by decide +kernel, rfl⟩
theorem eX3_odds_5 : Dn mX3_odds 5 (.invokevirtual 68) 3 8 := ⟨by decide +kernel, rfl⟩
theorem eX3_odds_8 : Dj mX3_odds 8 (.ifCond .eq 22) (22) 11 30 := ⟨by decide +kernel, rfl, rfl⟩
theorem eX3_odds_11 : Dn mX3_odds 11 (.iload_n 2) 1 12 := ⟨by decide +kernel, rfl⟩
theorem eX3_odds_12 : Dn mX3_odds 12 (.iconst 0) 1 13 := ⟨by decide +kernel, rfl⟩
theorem eX3_odds_13 : Dn mX3_odds 13 (.bipush 20) 2 15 := ⟨by decide +kernel, rfl⟩
theorem eX3_odds_15 : Dn mX3_odds 15 (.invokestatic 44) 3 18 := ⟨by decide +kernel, rfl⟩
theorem eX3_odds_18 : Dj mX3_odds 18 (.ifCond .eq 12) (12) 21 30 := ⟨by decide +kernel, rfl, rfl⟩
theorem eX3_odds_21 : Dn mX3_odds 21 (.iload_n 3) 1 22 := ⟨by decide +kernel, rfl⟩
theorem eX3_odds_22 : Dn mX3_odds 22 (.iconst 0) 1 23 := ⟨by decide +kernel, rfl⟩
theorem eX3_odds_23 : Dn mX3_odds 23 (.iconst 1) 1 24 := ⟨by decide +kernel, rfl⟩
theorem eX3_odds_24 : Dn mX3_odds 24 (.invokestatic 44) 3 27 := ⟨by decide +kernel, rfl⟩
theorem eX3_odds_27 : Dj mX3_odds 27 (.ifCond .ne 11) (11) 30 38 := ⟨by decide +kernel, rfl, rfl⟩
theorem eX3_odds_30 : Dn mX3_odds 30 (.aload_n 0) 1 31 := ⟨by decide +kernel, rfl⟩
theorem eX3_odds_31 : Dn mX3_odds 31 (.ldc 48) 2 33 := ⟨by decide +kernel, rfl⟩
theorem eX3_odds_33 : Dn mX3_odds 33 (.invokevirtual 49) 3 36 := ⟨by decide +kernel, rfl⟩
theorem eX3_odds_36 : Dn mX3_odds 36 (.i2l) 1 37 := ⟨by decide +kernel, rfl⟩
theorem eX3_odds_37 : Dn mX3_odds 37 (.lreturn) 1 38 := ⟨by decide +kernel, rfl⟩
theorem eX3_odds_38 : Dn mX3_odds 38 (.aload_n 0) 1 39 := ⟨by decide +kernel, rfl⟩
theorem eX3_odds_39 : Dn mX3_odds 39 (.getfield 10) 3 42 := ⟨by decide +kernel, rfl⟩
theorem eX3_odds_42 : Dn mX3_odds 42 (.iload_n 1) 1 43 := ⟨by decide +kernel, rfl⟩
theorem eX3_odds_43 : Dn mX3_odds 43 (.iconst 1) 1 44 := ⟨by decide +kernel, rfl⟩
theorem eX3_odds_44 : Dn mX3_odds 44 (.invokevirtual 81) 3 47 := ⟨by decide +kernel, rfl⟩
theorem eX3_odds_47 : Dn mX3_odds 47 (.invokestatic 141) 3 50 := ⟨by decide +kernel, rfl⟩
theorem eX3_odds_50 : Dn mX3_odds 50 (.istore 4) 2 52 := ⟨by decide +kernel, rfl⟩
theorem eX3_odds_52 : Dn mX3_odds 52 (.bipush 8) 2 54 := ⟨by decide +kernel, rfl⟩
theorem eX3_odds_54 : Dn mX3_odds 54 (.istore 5) 2 56 := ⟨by decide +kernel, rfl⟩
theorem eX3_odds_56 : Dn mX3_odds 56 (.iload 5) 2 58 := ⟨by decide +kernel, rfl⟩
theorem eX3_odds_58 : Dn mX3_odds 58 (.iconst 1) 1 59 := ⟨by decide +kernel, rfl⟩
theorem eX3_odds_59 : Dj mX3_odds 59 (.if_icmp .le 25) (25) 62 84 := ⟨by decide +kernel, rfl, rfl⟩
theorem eX3_odds_62 : Dn mX3_odds 62 (.iload 4) 2 64 := ⟨by decide +kernel, rfl⟩
theorem eX3_odds_64 : Dn mX3_odds 64 (.iconst 2) 1 65 := ⟨by decide +kernel, rfl⟩
theorem eX3_odds_65 : Dn mX3_odds 65 (.irem) 1 66 := ⟨by decide +kernel, rfl⟩
theorem eX3_odds_66 : Dj mX3_odds 66 (.ifCond .ne 18) (18) 69 84 := ⟨by decide +kernel, rfl, rfl⟩
theorem eX3_odds_69 : Dn mX3_odds 69 (.iload 4) 2 71 := ⟨by decide +kernel, rfl⟩
theorem eX3_odds_71 : Dn mX3_odds 71 (.iconst 2) 1 72 := ⟨by decide +kernel, rfl⟩
theorem eX3_odds_72 : Dn mX3_odds 72 (.idiv) 1 73 := ⟨by decide +kernel, rfl⟩
theorem eX3_odds_73 : Dn mX3_odds 73 (.istore 4) 2 75 := ⟨by decide +kernel, rfl⟩
theorem eX3_odds_75 : Dn mX3_odds 75 (.iload 5) 2 77 := ⟨by decide +kernel, rfl⟩
theorem eX3_odds_77 : Dn mX3_odds 77 (.iconst 2) 1 78 := ⟨by decide +kernel, rfl⟩
theorem eX3_odds_78 : Dn mX3_odds 78 (.idiv) 1 79 := ⟨by decide +kernel, rfl⟩
theorem eX3_odds_79 : Dn mX3_odds 79 (.istore 5) 2 81 := ⟨by decide +kernel, rfl⟩
theorem eX3_odds_81 : Dj mX3_odds 81 (.goto (-25)) (-25) 84 56 := ⟨by decide +kernel, rfl, rfl⟩
theorem eX3_odds_84 : Dn mX3_odds 84 (.iload_n 3) 1 85 := ⟨by decide +kernel, rfl⟩
theorem eX3_odds_85 : Dj mX3_odds 85 (.ifCond .ne 8) (8) 88 93 := ⟨by decide +kernel, rfl, rfl⟩
theorem eX3_odds_88 : Dn mX3_odds 88 (.iload 4) 2 90 := ⟨by decide +kernel, rfl⟩
theorem eX3_odds_90 : Dj mX3_odds 90 (.goto 5) (5) 93 95 := ⟨by decide +kernel, rfl, rfl⟩
theorem eX3_odds_93 : Dn mX3_odds 93 (.iload 5) 2 95 := ⟨by decide +kernel, rfl⟩
theorem eX3_odds_95 : Dn mX3_odds 95 (.iload_n 2) 1 96 := ⟨by decide +kernel, rfl⟩
theorem eX3_odds_96 : Dn mX3_odds 96 (.invokestatic 170) 3 99 := ⟨by decide +kernel, rfl⟩
theorem eX3_odds_99 : Dn mX3_odds 99 (.lreturn) 1 100 := ⟨by decide +kernel, rfl⟩
theorem eX3_seed_0 : Dn mX3_seed 0 (.aload_n 0) 1 1 := ⟨by decide +kernel, rfl⟩
theorem eX3_seed_1 : Dn mX3_seed 1 (.getfield 10) 3 4 := ⟨by decide +kernel, rfl⟩
theorem eX3_seed_4 : Dn mX3_seed 4 (.getfield 174) 3 7 := ⟨by decide +kernel, rfl⟩
theorem eX3_seed_7 : Dn mX3_seed 7 (.istore_n 2) 1 8 := ⟨by decide +kernel, rfl⟩
theorem eX3_seed_8 : Dn mX3_seed 8 (.aload_n 0) 1 9 := ⟨by decide +kernel, rfl⟩
theorem eX3_seed_9 : Dn mX3_seed 9 (.getfield 10) 3 12 := ⟨by decide +kernel, rfl⟩
theorem eX3_seed_12 : Dn mX3_seed 12 (.iload_n 1) 1 13 := ⟨by decide +kernel, rfl⟩
theorem eX3_seed_13 : Dn mX3_seed 13 (.putfield 174) 3 16 := ⟨by decide +kernel, rfl⟩
theorem eX3_seed_16 : Dn mX3_seed 16 (.iload_n 2) 1 17 := ⟨by decide +kernel, rfl⟩
theorem eX3_seed_17 : Dn mX3_seed 17 (.ireturn) 1 18 := ⟨by decide +kernel, rfl⟩
theorem eX3_feed_0 : Dn mX3_feed 0 (.iload_n 2) 1 1 := ⟨by decide +kernel, rfl⟩
theorem eX3_feed_1 : Dn mX3_feed 1 (.iconst 1) 1 2 := ⟨by decide +kernel, rfl⟩
theorem eX3_feed_2 : Dn mX3_feed 2 (.iconst 4) 1 3 := ⟨by decide +kernel, rfl⟩
theorem eX3_feed_3 : Dn mX3_feed 3 (.invokestatic 44) 3 6 := ⟨by decide +kernel, rfl⟩
theorem eX3_feed_6 : Dj mX3_feed 6 (.ifCond .ne 10) (10) 9 16 := ⟨by decide +kernel, rfl, rfl⟩
theorem eX3_feed_9 : Dn mX3_feed 9 (.aload_n 0) 1 10 := ⟨by decide +kernel, rfl⟩
theorem eX3_feed_10 : Dn mX3_feed 10 (.ldc 48) 2 12 := ⟨by decide +kernel, rfl⟩
theorem eX3_feed_12 : Dn mX3_feed 12 (.invokevirtual 49) 3 15 := ⟨by decide +kernel, rfl⟩
theorem eX3_feed_15 : Dn mX3_feed 15 (.ireturn) 1 16 := ⟨by decide +kernel, rfl⟩
theorem eX3_feed_16 : Dn mX3_feed 16 (.aload_n 0) 1 17 := ⟨by decide +kernel, rfl⟩
theorem eX3_feed_17 : Dn mX3_feed 17 (.getfield 29) 3 20 := ⟨by decide +kernel, rfl⟩
theorem eX3_feed_20 : Dn mX3_feed 20 (.getfield 177) 3 23 := ⟨by decide +kernel, rfl⟩
theorem eX3_feed_23 : Dn mX3_feed 23 (.iload_n 2) 1 24 := ⟨by decide +kernel, rfl⟩
theorem eX3_feed_24 : Dn mX3_feed 24 (.iadd) 1 25 := ⟨by decide +kernel, rfl⟩
theorem eX3_feed_25 : Dn mX3_feed 25 (.bipush 120) 2 27 := ⟨by decide +kernel, rfl⟩
theorem eX3_feed_27 : Dj mX3_feed 27 (.if_icmp .le 10) (10) 30 37 := ⟨by decide +kernel, rfl, rfl⟩
theorem eX3_feed_30 : Dn mX3_feed 30 (.aload_n 0) 1 31 := ⟨by decide +kernel, rfl⟩
theorem eX3_feed_31 : Dn mX3_feed 31 (.ldc 63) 2 33 := ⟨by decide +kernel, rfl⟩
theorem eX3_feed_33 : Dn mX3_feed 33 (.invokevirtual 49) 3 36 := ⟨by decide +kernel, rfl⟩
theorem eX3_feed_36 : Dn mX3_feed 36 (.ireturn) 1 37 := ⟨by decide +kernel, rfl⟩
theorem eX3_feed_37 : Dn mX3_feed 37 (.iload_n 2) 1 38 := ⟨by decide +kernel, rfl⟩
theorem eX3_feed_38 : Dn mX3_feed 38 (.iconst 1) 1 39 := ⟨by decide +kernel, rfl⟩
theorem eX3_feed_39 : Dn mX3_feed 39 (.isub) 1 40 := ⟨by decide +kernel, rfl⟩
theorem eX3_feed_40 : Dn mX3_feed 40 (.istore_n 3) 1 41 := ⟨by decide +kernel, rfl⟩
theorem eX3_feed_41 : Dn mX3_feed 41 (.iload_n 3) 1 42 := ⟨by decide +kernel, rfl⟩
theorem eX3_feed_42 : Dj mX3_feed 42 (.ifCond .lt 22) (22) 45 64 := ⟨by decide +kernel, rfl, rfl⟩
theorem eX3_feed_45 : Dn mX3_feed 45 (.aload_n 0) 1 46 := ⟨by decide +kernel, rfl⟩
theorem eX3_feed_46 : Dn mX3_feed 46 (.getfield 29) 3 49 := ⟨by decide +kernel, rfl⟩
theorem eX3_feed_49 : Dn mX3_feed 49 (.iload_n 1) 1 50 := ⟨by decide +kernel, rfl⟩
theorem eX3_feed_50 : Dn mX3_feed 50 (.bipush 8) 2 52 := ⟨by decide +kernel, rfl⟩
theorem eX3_feed_52 : Dn mX3_feed 52 (.iload_n 3) 1 53 := ⟨by decide +kernel, rfl⟩
theorem eX3_feed_53 : Dn mX3_feed 53 (.imul) 1 54 := ⟨by decide +kernel, rfl⟩
theorem eX3_feed_54 : Dn mX3_feed 54 (.ishr) 1 55 := ⟨by decide +kernel, rfl⟩
theorem eX3_feed_55 : Dn mX3_feed 55 (.invokevirtual 180) 3 58 := ⟨by decide +kernel, rfl⟩
theorem eX3_feed_58 : Dn mX3_feed 58 (.iinc 3 (-1)) 3 61 := ⟨by decide +kernel, rfl⟩
theorem eX3_feed_61 : Dj mX3_feed 61 (.goto (-20)) (-20) 64 41 := ⟨by decide +kernel, rfl, rfl⟩
theorem eX3_feed_64 : Dn mX3_feed 64 (.aload_n 0) 1 65 := ⟨by decide +kernel, rfl⟩
theorem eX3_feed_65 : Dn mX3_feed 65 (.getfield 29) 3 68 := ⟨by decide +kernel, rfl⟩
theorem eX3_feed_68 : Dn mX3_feed 68 (.getfield 177) 3 71 := ⟨by decide +kernel, rfl⟩
theorem eX3_feed_71 : Dn mX3_feed 71 (.ireturn) 1 72 := ⟨by decide +kernel, rfl⟩
theorem eX3_wipe_0 : Dn mX3_wipe 0 (.aload_n 0) 1 1 := ⟨by decide +kernel, rfl⟩
theorem eX3_wipe_1 : Dn mX3_wipe 1 (.getfield 29) 3 4 := ⟨by decide +kernel, rfl⟩
theorem eX3_wipe_4 : Dn mX3_wipe 4 (.getfield 177) 3 7 := ⟨by decide +kernel, rfl⟩
theorem eX3_wipe_7 : Dn mX3_wipe 7 (.istore_n 1) 1 8 := ⟨by decide +kernel, rfl⟩
theorem eX3_wipe_8 : Dn mX3_wipe 8 (.aload_n 0) 1 9 := ⟨by decide +kernel, rfl⟩
theorem eX3_wipe_9 : Dn mX3_wipe 9 (.getfield 29) 3 12 := ⟨by decide +kernel, rfl⟩
theorem eX3_wipe_12 : Dn mX3_wipe 12 (.iconst 0) 1 13 := ⟨by decide +kernel, rfl⟩
theorem eX3_wipe_13 : Dn mX3_wipe 13 (.putfield 177) 3 16 := ⟨by decide +kernel, rfl⟩
theorem eX3_wipe_16 : Dn mX3_wipe 16 (.iload_n 1) 1 17 := ⟨by decide +kernel, rfl⟩
theorem eX3_wipe_17 : Dn mX3_wipe 17 (.ireturn) 1 18 := ⟨by decide +kernel, rfl⟩
theorem eX3_text_0 : Dn mX3_text 0 (.aload_n 0) 1 1 := ⟨by decide +kernel, rfl⟩
theorem eX3_text_1 : Dn mX3_text 1 (.getfield 16) 3 4 := ⟨by decide +kernel, rfl⟩
theorem eX3_text_4 : Dn mX3_text 4 (.aload_n 0) 1 5 := ⟨by decide +kernel, rfl⟩
theorem eX3_text_5 : Dn mX3_text 5 (.getfield 10) 3 8 := ⟨by decide +kernel, rfl⟩
theorem eX3_text_8 : Dn mX3_text 8 (.invokevirtual 126) 3 11 := ⟨by decide +kernel, rfl⟩
theorem eX3_text_11 : Dn mX3_text 11 (.aload_n 0) 1 12 := ⟨by decide +kernel, rfl⟩
theorem eX3_text_12 : Dn mX3_text 12 (.getfield 29) 3 15 := ⟨by decide +kernel, rfl⟩
theorem eX3_text_15 : Dn mX3_text 15 (.aload_n 0) 1 16 := ⟨by decide +kernel, rfl⟩
theorem eX3_text_16 : Dn mX3_text 16 (.getfield 16) 3 19 := ⟨by decide +kernel, rfl⟩
theorem eX3_text_19 : Dn mX3_text 19 (.invokevirtual 183) 3 22 := ⟨by decide +kernel, rfl⟩
theorem eX3_text_22 : Dn mX3_text 22 (.istore_n 1) 1 23 := ⟨by decide +kernel, rfl⟩
theorem eX3_text_23 : Dn mX3_text 23 (.iload_n 1) 1 24 := ⟨by decide +kernel, rfl⟩
theorem eX3_text_24 : Dj mX3_text 24 (.ifCond .lt 14) (14) 27 38 := ⟨by decide +kernel, rfl, rfl⟩
theorem eX3_text_27 : Dn mX3_text 27 (.aload_n 0) 1 28 := ⟨by decide +kernel, rfl⟩
theorem eX3_text_28 : Dn mX3_text 28 (.getfield 10) 3 31 := ⟨by decide +kernel, rfl⟩
theorem eX3_text_31 : Dn mX3_text 31 (.aload_n 0) 1 32 := ⟨by decide +kernel, rfl⟩
theorem eX3_text_32 : Dn mX3_text 32 (.getfield 16) 3 35 := ⟨by decide +kernel, rfl⟩
theorem eX3_text_35 : Dn mX3_text 35 (.invokevirtual 126) 3 38 := ⟨by decide +kernel, rfl⟩
theorem eX3_text_38 : Dn mX3_text 38 (.aload_n 0) 1 39 := ⟨by decide +kernel, rfl⟩
theorem eX3_text_39 : Dn mX3_text 39 (.getfield 29) 3 42 := ⟨by decide +kernel, rfl⟩
theorem eX3_text_42 : Dn mX3_text 42 (.iconst 0) 1 43 := ⟨by decide +kernel, rfl⟩
theorem eX3_text_43 : Dn mX3_text 43 (.putfield 177) 3 46 := ⟨by decide +kernel, rfl⟩
theorem eX3_text_46 : Dn mX3_text 46 (.iload_n 1) 1 47 := ⟨by decide +kernel, rfl⟩
theorem eX3_text_47 : Dn mX3_text 47 (.ireturn) 1 48 := ⟨by decide +kernel, rfl⟩
theorem eX3_hold_0 : Dn mX3_hold 0 (.iload_n 1) 1 1 := ⟨by decide +kernel, rfl⟩
theorem eX3_hold_1 : Dn mX3_hold 1 (.iconst 0) 1 2 := ⟨by decide +kernel, rfl⟩
theorem eX3_hold_2 : Dn mX3_hold 2 (.bipush 9) 2 4 := ⟨by decide +kernel, rfl⟩
theorem eX3_hold_4 : Dn mX3_hold 4 (.invokestatic 44) 3 7 := ⟨by decide +kernel, rfl⟩
theorem eX3_hold_7 : Dj mX3_hold 7 (.ifCond .eq 19) (19) 10 26 := ⟨by decide +kernel, rfl, rfl⟩
theorem eX3_hold_10 : Dn mX3_hold 10 (.iload_n 2) 1 11 := ⟨by decide +kernel, rfl⟩
theorem eX3_hold_11 : Dn mX3_hold 11 (.iconst (-1)) 1 12 := ⟨by decide +kernel, rfl⟩
theorem eX3_hold_12 : Dj mX3_hold 12 (.if_icmp .eq 21) (21) 15 33 := ⟨by decide +kernel, rfl, rfl⟩
theorem eX3_hold_15 : Dn mX3_hold 15 (.aload_n 0) 1 16 := ⟨by decide +kernel, rfl⟩
theorem eX3_hold_16 : Dn mX3_hold 16 (.getfield 10) 3 19 := ⟨by decide +kernel, rfl⟩
theorem eX3_hold_19 : Dn mX3_hold 19 (.iload_n 2) 1 20 := ⟨by decide +kernel, rfl⟩
theorem eX3_hold_20 : Dn mX3_hold 20 (.invokevirtual 68) 3 23 := ⟨by decide +kernel, rfl⟩
theorem eX3_hold_23 : Dj mX3_hold 23 (.ifCond .ne 10) (10) 26 33 := ⟨by decide +kernel, rfl, rfl⟩
theorem eX3_hold_26 : Dn mX3_hold 26 (.aload_n 0) 1 27 := ⟨by decide +kernel, rfl⟩
theorem eX3_hold_27 : Dn mX3_hold 27 (.ldc 48) 2 29 := ⟨by decide +kernel, rfl⟩
theorem eX3_hold_29 : Dn mX3_hold 29 (.invokevirtual 49) 3 32 := ⟨by decide +kernel, rfl⟩
theorem eX3_hold_32 : Dn mX3_hold 32 (.ireturn) 1 33 := ⟨by decide +kernel, rfl⟩
theorem eX3_hold_33 : Dn mX3_hold 33 (.aload_n 0) 1 34 := ⟨by decide +kernel, rfl⟩
theorem eX3_hold_34 : Dn mX3_hold 34 (.getfield 10) 3 37 := ⟨by decide +kernel, rfl⟩
theorem eX3_hold_37 : Dn mX3_hold 37 (.getfield 187) 3 40 := ⟨by decide +kernel, rfl⟩
theorem eX3_hold_40 : Dn mX3_hold 40 (.iload_n 1) 1 41 := ⟨by decide +kernel, rfl⟩
theorem eX3_hold_41 : Dn mX3_hold 41 (.iload_n 2) 1 42 := ⟨by decide +kernel, rfl⟩
theorem eX3_hold_42 : Dn mX3_hold 42 (.iastore) 1 43 := ⟨by decide +kernel, rfl⟩
theorem eX3_hold_43 : Dn mX3_hold 43 (.iconst 1) 1 44 := ⟨by decide +kernel, rfl⟩
theorem eX3_hold_44 : Dn mX3_hold 44 (.ireturn) 1 45 := ⟨by decide +kernel, rfl⟩
theorem eX3_as_0 : Dn mX3_as 0 (.iload_n 1) 1 1 := ⟨by decide +kernel, rfl⟩
theorem eX3_as_1 : Dn mX3_as 1 (.iconst 0) 1 2 := ⟨by decide +kernel, rfl⟩
theorem eX3_as_2 : Dn mX3_as 2 (.bipush 9) 2 4 := ⟨by decide +kernel, rfl⟩
theorem eX3_as_4 : Dn mX3_as 4 (.invokestatic 44) 3 7 := ⟨by decide +kernel, rfl⟩
theorem eX3_as_7 : Dj mX3_as 7 (.ifCond .eq 13) (13) 10 20 := ⟨by decide +kernel, rfl, rfl⟩
theorem eX3_as_10 : Dn mX3_as 10 (.iload_n 2) 1 11 := ⟨by decide +kernel, rfl⟩
theorem eX3_as_11 : Dn mX3_as 11 (.iconst 0) 1 12 := ⟨by decide +kernel, rfl⟩
theorem eX3_as_12 : Dn mX3_as 12 (.bipush 6) 2 14 := ⟨by decide +kernel, rfl⟩
theorem eX3_as_14 : Dn mX3_as 14 (.invokestatic 44) 3 17 := ⟨by decide +kernel, rfl⟩
theorem eX3_as_17 : Dj mX3_as 17 (.ifCond .ne 10) (10) 20 27 := ⟨by decide +kernel, rfl, rfl⟩
theorem eX3_as_20 : Dn mX3_as 20 (.aload_n 0) 1 21 := ⟨by decide +kernel, rfl⟩
theorem eX3_as_21 : Dn mX3_as 21 (.ldc 48) 2 23 := ⟨by decide +kernel, rfl⟩
theorem eX3_as_23 : Dn mX3_as 23 (.invokevirtual 49) 3 26 := ⟨by decide +kernel, rfl⟩
theorem eX3_as_26 : Dn mX3_as 26 (.ireturn) 1 27 := ⟨by decide +kernel, rfl⟩
theorem eX3_as_27 : Dn mX3_as 27 (.aload_n 0) 1 28 := ⟨by decide +kernel, rfl⟩
theorem eX3_as_28 : Dn mX3_as 28 (.getfield 10) 3 31 := ⟨by decide +kernel, rfl⟩
theorem eX3_as_31 : Dn mX3_as 31 (.getfield 187) 3 34 := ⟨by decide +kernel, rfl⟩
theorem eX3_as_34 : Dn mX3_as 34 (.iload_n 1) 1 35 := ⟨by decide +kernel, rfl⟩
theorem eX3_as_35 : Dn mX3_as 35 (.iaload) 1 36 := ⟨by decide +kernel, rfl⟩
theorem eX3_as_36 : Dn mX3_as 36 (.istore_n 3) 1 37 := ⟨by decide +kernel, rfl⟩
theorem eX3_as_37 : Dn mX3_as 37 (.aload_n 0) 1 38 := ⟨by decide +kernel, rfl⟩
theorem eX3_as_38 : Dn mX3_as 38 (.getfield 10) 3 41 := ⟨by decide +kernel, rfl⟩
theorem eX3_as_41 : Dn mX3_as 41 (.iload_n 3) 1 42 := ⟨by decide +kernel, rfl⟩
theorem eX3_as_42 : Dn mX3_as 42 (.invokevirtual 68) 3 45 := ⟨by decide +kernel, rfl⟩
theorem eX3_as_45 : Dj mX3_as 45 (.ifCond .ne 10) (10) 48 55 := ⟨by decide +kernel, rfl, rfl⟩
theorem eX3_as_48 : Dn mX3_as 48 (.aload_n 0) 1 49 := ⟨by decide +kernel, rfl⟩
theorem eX3_as_49 : Dn mX3_as 49 (.ldc 190) 2 51 := ⟨by decide +kernel, rfl⟩
theorem eX3_as_51 : Dn mX3_as 51 (.invokevirtual 49) 3 54 := ⟨by decide +kernel, rfl⟩
theorem eX3_as_54 : Dn mX3_as 54 (.ireturn) 1 55 := ⟨by decide +kernel, rfl⟩
theorem eX3_as_55 : Dn mX3_as 55 (.aload_n 0) 1 56 := ⟨by decide +kernel, rfl⟩
theorem eX3_as_56 : Dn mX3_as 56 (.getfield 10) 3 59 := ⟨by decide +kernel, rfl⟩
theorem eX3_as_59 : Dn mX3_as 59 (.iload_n 3) 1 60 := ⟨by decide +kernel, rfl⟩
theorem eX3_as_60 : Dn mX3_as 60 (.iconst 0) 1 61 := ⟨by decide +kernel, rfl⟩
theorem eX3_as_61 : Dn mX3_as 61 (.invokevirtual 81) 3 64 := ⟨by decide +kernel, rfl⟩
theorem eX3_as_64 : Dn mX3_as 64 (.iload_n 2) 1 65 := ⟨by decide +kernel, rfl⟩
theorem eX3_as_65 : Dn mX3_as 65 (.invokestatic 191) 3 68 := ⟨by decide +kernel, rfl⟩
theorem eX3_as_68 : Dj mX3_as 68 (.ifCond .ne 10) (10) 71 78 := ⟨by decide +kernel, rfl, rfl⟩
theorem eX3_as_71 : Dn mX3_as 71 (.aload_n 0) 1 72 := ⟨by decide +kernel, rfl⟩
theorem eX3_as_72 : Dn mX3_as 72 (.ldc 195) 2 74 := ⟨by decide +kernel, rfl⟩
theorem eX3_as_74 : Dn mX3_as 74 (.invokevirtual 49) 3 77 := ⟨by decide +kernel, rfl⟩
theorem eX3_as_77 : Dn mX3_as 77 (.ireturn) 1 78 := ⟨by decide +kernel, rfl⟩
theorem eX3_as_78 : Dn mX3_as 78 (.iload_n 3) 1 79 := ⟨by decide +kernel, rfl⟩
theorem eX3_as_79 : Dn mX3_as 79 (.ireturn) 1 80 := ⟨by decide +kernel, rfl⟩
theorem eX3_sheet_0 : Dn mX3_sheet 0 (.iload_n 2) 1 1 := ⟨by decide +kernel, rfl⟩
theorem eX3_sheet_1 : Dj mX3_sheet 1 (.ifCond .eq 21) (21) 4 22 := ⟨by decide +kernel, rfl, rfl⟩
theorem eX3_sheet_4 : Dn mX3_sheet 4 (.iload_n 2) 1 5 := ⟨by decide +kernel, rfl⟩
theorem eX3_sheet_5 : Dn mX3_sheet 5 (.bipush 8) 2 7 := ⟨by decide +kernel, rfl⟩
theorem eX3_sheet_7 : Dj mX3_sheet 7 (.if_icmp .eq 15) (15) 10 22 := ⟨by decide +kernel, rfl, rfl⟩
theorem eX3_sheet_10 : Dn mX3_sheet 10 (.iload_n 2) 1 11 := ⟨by decide +kernel, rfl⟩
theorem eX3_sheet_11 : Dn mX3_sheet 11 (.bipush 16) 2 13 := ⟨by decide +kernel, rfl⟩
theorem eX3_sheet_13 : Dj mX3_sheet 13 (.if_icmp .eq 9) (9) 16 22 := ⟨by decide +kernel, rfl, rfl⟩
theorem eX3_sheet_16 : Dn mX3_sheet 16 (.iload_n 2) 1 17 := ⟨by decide +kernel, rfl⟩
theorem eX3_sheet_17 : Dn mX3_sheet 17 (.bipush 32) 2 19 := ⟨by decide +kernel, rfl⟩
theorem eX3_sheet_19 : Dj mX3_sheet 19 (.if_icmp .ne 7) (7) 22 26 := ⟨by decide +kernel, rfl, rfl⟩
theorem eX3_sheet_22 : Dn mX3_sheet 22 (.iconst 1) 1 23 := ⟨by decide +kernel, rfl⟩
theorem eX3_sheet_23 : Dj mX3_sheet 23 (.goto 4) (4) 26 27 := ⟨by decide +kernel, rfl, rfl⟩
theorem eX3_sheet_26 : Dn mX3_sheet 26 (.iconst 0) 1 27 := ⟨by decide +kernel, rfl⟩
theorem eX3_sheet_27 : Dn mX3_sheet 27 (.istore 4) 2 29 := ⟨by decide +kernel, rfl⟩
theorem eX3_sheet_29 : Dn mX3_sheet 29 (.iload_n 1) 1 30 := ⟨by decide +kernel, rfl⟩
theorem eX3_sheet_30 : Dn mX3_sheet 30 (.iconst 0) 1 31 := ⟨by decide +kernel, rfl⟩
theorem eX3_sheet_31 : Dn mX3_sheet 31 (.iconst 3) 1 32 := ⟨by decide +kernel, rfl⟩
theorem eX3_sheet_32 : Dn mX3_sheet 32 (.invokestatic 44) 3 35 := ⟨by decide +kernel, rfl⟩
theorem eX3_sheet_35 : Dj mX3_sheet 35 (.ifCond .eq 8) (8) 38 43 := ⟨by decide +kernel, rfl, rfl⟩
theorem eX3_sheet_38 : Dn mX3_sheet 38 (.iload 4) 2 40 := ⟨by decide +kernel, rfl⟩
theorem eX3_sheet_40 : Dj mX3_sheet 40 (.ifCond .ne 10) (10) 43 50 := ⟨by decide +kernel, rfl, rfl⟩
theorem eX3_sheet_43 : Dn mX3_sheet 43 (.aload_n 0) 1 44 := ⟨by decide +kernel, rfl⟩
theorem eX3_sheet_44 : Dn mX3_sheet 44 (.ldc 48) 2 46 := ⟨by decide +kernel, rfl⟩
theorem eX3_sheet_46 : Dn mX3_sheet 46 (.invokevirtual 49) 3 49 := ⟨by decide +kernel, rfl⟩
theorem eX3_sheet_49 : Dn mX3_sheet 49 (.ireturn) 1 50 := ⟨by decide +kernel, rfl⟩
theorem eX3_sheet_50 : Dn mX3_sheet 50 (.iload_n 3) 1 51 := ⟨by decide +kernel, rfl⟩
theorem eX3_sheet_51 : Dj mX3_sheet 51 (.ifCond .ge 10) (10) 54 61 := ⟨by decide +kernel, rfl, rfl⟩
theorem eX3_sheet_54 : Dn mX3_sheet 54 (.aload_n 0) 1 55 := ⟨by decide +kernel, rfl⟩
theorem eX3_sheet_55 : Dn mX3_sheet 55 (.ldc 196) 2 57 := ⟨by decide +kernel, rfl⟩
theorem eX3_sheet_57 : Dn mX3_sheet 57 (.invokevirtual 49) 3 60 := ⟨by decide +kernel, rfl⟩
theorem eX3_sheet_60 : Dn mX3_sheet 60 (.ireturn) 1 61 := ⟨by decide +kernel, rfl⟩
theorem eX3_sheet_61 : Dn mX3_sheet 61 (.iload_n 3) 1 62 := ⟨by decide +kernel, rfl⟩
theorem eX3_sheet_62 : Dn mX3_sheet 62 (.bipush 40) 2 64 := ⟨by decide +kernel, rfl⟩
theorem eX3_sheet_64 : Dj mX3_sheet 64 (.if_icmp .le 10) (10) 67 74 := ⟨by decide +kernel, rfl, rfl⟩
theorem eX3_sheet_67 : Dn mX3_sheet 67 (.aload_n 0) 1 68 := ⟨by decide +kernel, rfl⟩
theorem eX3_sheet_68 : Dn mX3_sheet 68 (.ldc 48) 2 70 := ⟨by decide +kernel, rfl⟩
theorem eX3_sheet_70 : Dn mX3_sheet 70 (.invokevirtual 49) 3 73 := ⟨by decide +kernel, rfl⟩
theorem eX3_sheet_73 : Dn mX3_sheet 73 (.ireturn) 1 74 := ⟨by decide +kernel, rfl⟩
theorem eX3_sheet_74 : Dn mX3_sheet 74 (.aload_n 0) 1 75 := ⟨by decide +kernel, rfl⟩
theorem eX3_sheet_75 : Dn mX3_sheet 75 (.getfield 35) 3 78 := ⟨by decide +kernel, rfl⟩
theorem eX3_sheet_78 : Dn mX3_sheet 78 (.iload_n 1) 1 79 := ⟨by decide +kernel, rfl⟩
theorem eX3_sheet_79 : Dn mX3_sheet 79 (.aaload) 1 80 := ⟨by decide +kernel, rfl⟩
theorem eX3_sheet_80 : Dn mX3_sheet 80 (.iload_n 2) 1 81 := ⟨by decide +kernel, rfl⟩
theorem eX3_sheet_81 : Dn mX3_sheet 81 (.iload_n 2) 1 82 := ⟨by decide +kernel, rfl⟩
theorem eX3_sheet_82 : Dj mX3_sheet 82 (.ifCond .ne 7) (7) 85 89 := ⟨by decide +kernel, rfl, rfl⟩
theorem eX3_sheet_85 : Dn mX3_sheet 85 (.iconst 0) 1 86 := ⟨by decide +kernel, rfl⟩
theorem eX3_sheet_86 : Dj mX3_sheet 86 (.goto 4) (4) 89 90 := ⟨by decide +kernel, rfl, rfl⟩
theorem eX3_sheet_89 : Dn mX3_sheet 89 (.iload_n 3) 1 90 := ⟨by decide +kernel, rfl⟩
theorem eX3_sheet_90 : Dn mX3_sheet 90 (.invokevirtual 197) 3 93 := ⟨by decide +kernel, rfl⟩
theorem eX3_sheet_93 : Dn mX3_sheet 93 (.aload_n 0) 1 94 := ⟨by decide +kernel, rfl⟩
theorem eX3_sheet_94 : Dn mX3_sheet 94 (.getfield 35) 3 97 := ⟨by decide +kernel, rfl⟩
theorem eX3_sheet_97 : Dn mX3_sheet 97 (.iload_n 1) 1 98 := ⟨by decide +kernel, rfl⟩
theorem eX3_sheet_98 : Dn mX3_sheet 98 (.aaload) 1 99 := ⟨by decide +kernel, rfl⟩
theorem eX3_sheet_99 : Dn mX3_sheet 99 (.getfield 201) 3 102 := ⟨by decide +kernel, rfl⟩
theorem eX3_sheet_102 : Dn mX3_sheet 102 (.ireturn) 1 103 := ⟨by decide +kernel, rfl⟩
theorem eX3_write_0 : Dn mX3_write 0 (.aload_n 0) 1 1 := ⟨by decide +kernel, rfl⟩
theorem eX3_write_1 : Dn mX3_write 1 (.iload_n 1) 1 2 := ⟨by decide +kernel, rfl⟩
theorem eX3_write_2 : Dn mX3_write 2 (.invokevirtual 202) 3 5 := ⟨by decide +kernel, rfl⟩
theorem eX3_write_5 : Dn mX3_write 5 (.istore 4) 2 7 := ⟨by decide +kernel, rfl⟩
theorem eX3_write_7 : Dn mX3_write 7 (.iload 4) 2 9 := ⟨by decide +kernel, rfl⟩
theorem eX3_write_9 : Dj mX3_write 9 (.ifCond .eq 10) (10) 12 19 := ⟨by decide +kernel, rfl, rfl⟩
theorem eX3_write_12 : Dn mX3_write 12 (.aload_n 0) 1 13 := ⟨by decide +kernel, rfl⟩
theorem eX3_write_13 : Dn mX3_write 13 (.iload 4) 2 15 := ⟨by decide +kernel, rfl⟩
theorem eX3_write_15 : Dn mX3_write 15 (.invokevirtual 49) 3 18 := ⟨by decide +kernel, rfl⟩
theorem eX3_write_18 : Dn mX3_write 18 (.ireturn) 1 19 := ⟨by decide +kernel, rfl⟩
theorem eX3_write_19 : Dn mX3_write 19 (.iload_n 2) 1 20 := ⟨by decide +kernel, rfl⟩
theorem eX3_write_20 : Dn mX3_write 20 (.iconst 0) 1 21 := ⟨by decide +kernel, rfl⟩
theorem eX3_write_21 : Dn mX3_write 21 (.aload_n 0) 1 22 := ⟨by decide +kernel, rfl⟩
theorem eX3_write_22 : Dn mX3_write 22 (.getfield 35) 3 25 := ⟨by decide +kernel, rfl⟩
theorem eX3_write_25 : Dn mX3_write 25 (.iload_n 1) 1 26 := ⟨by decide +kernel, rfl⟩
theorem eX3_write_26 : Dn mX3_write 26 (.aaload) 1 27 := ⟨by decide +kernel, rfl⟩
theorem eX3_write_27 : Dn mX3_write 27 (.getfield 201) 3 30 := ⟨by decide +kernel, rfl⟩
theorem eX3_write_30 : Dn mX3_write 30 (.iconst 1) 1 31 := ⟨by decide +kernel, rfl⟩
theorem eX3_write_31 : Dn mX3_write 31 (.isub) 1 32 := ⟨by decide +kernel, rfl⟩
theorem eX3_write_32 : Dn mX3_write 32 (.invokestatic 44) 3 35 := ⟨by decide +kernel, rfl⟩
theorem eX3_write_35 : Dj mX3_write 35 (.ifCond .ne 10) (10) 38 45 := ⟨by decide +kernel, rfl, rfl⟩
theorem eX3_write_38 : Dn mX3_write 38 (.aload_n 0) 1 39 := ⟨by decide +kernel, rfl⟩
theorem eX3_write_39 : Dn mX3_write 39 (.ldc 48) 2 41 := ⟨by decide +kernel, rfl⟩
theorem eX3_write_41 : Dn mX3_write 41 (.invokevirtual 49) 3 44 := ⟨by decide +kernel, rfl⟩
theorem eX3_write_44 : Dn mX3_write 44 (.ireturn) 1 45 := ⟨by decide +kernel, rfl⟩
theorem eX3_write_45 : Dn mX3_write 45 (.aload_n 0) 1 46 := ⟨by decide +kernel, rfl⟩
theorem eX3_write_46 : Dn mX3_write 46 (.getfield 35) 3 49 := ⟨by decide +kernel, rfl⟩
theorem eX3_write_49 : Dn mX3_write 49 (.iload_n 1) 1 50 := ⟨by decide +kernel, rfl⟩
theorem eX3_write_50 : Dn mX3_write 50 (.aaload) 1 51 := ⟨by decide +kernel, rfl⟩
theorem eX3_write_51 : Dn mX3_write 51 (.iload_n 2) 1 52 := ⟨by decide +kernel, rfl⟩
theorem eX3_write_52 : Dn mX3_write 52 (.iload_n 3) 1 53 := ⟨by decide +kernel, rfl⟩
theorem eX3_write_53 : Dn mX3_write 53 (.invokevirtual 205) 3 56 := ⟨by decide +kernel, rfl⟩
theorem eX3_write_56 : Dn mX3_write 56 (.iconst 1) 1 57 := ⟨by decide +kernel, rfl⟩
theorem eX3_write_57 : Dn mX3_write 57 (.ireturn) 1 58 := ⟨by decide +kernel, rfl⟩
theorem eX3_copy_0 : Dn mX3_copy 0 (.iload_n 1) 1 1 := ⟨by decide +kernel, rfl⟩
theorem eX3_copy_1 : Dn mX3_copy 1 (.iconst 0) 1 2 := ⟨by decide +kernel, rfl⟩
theorem eX3_copy_2 : Dn mX3_copy 2 (.iconst 3) 1 3 := ⟨by decide +kernel, rfl⟩
theorem eX3_copy_3 : Dn mX3_copy 3 (.invokestatic 44) 3 6 := ⟨by decide +kernel, rfl⟩
theorem eX3_copy_6 : Dj mX3_copy 6 (.ifCond .eq 12) (12) 9 18 := ⟨by decide +kernel, rfl, rfl⟩
theorem eX3_copy_9 : Dn mX3_copy 9 (.iload_n 3) 1 10 := ⟨by decide +kernel, rfl⟩
theorem eX3_copy_10 : Dn mX3_copy 10 (.iconst 0) 1 11 := ⟨by decide +kernel, rfl⟩
theorem eX3_copy_11 : Dn mX3_copy 11 (.iconst 3) 1 12 := ⟨by decide +kernel, rfl⟩
theorem eX3_copy_12 : Dn mX3_copy 12 (.invokestatic 44) 3 15 := ⟨by decide +kernel, rfl⟩
theorem eX3_copy_15 : Dj mX3_copy 15 (.ifCond .ne 10) (10) 18 25 := ⟨by decide +kernel, rfl, rfl⟩
theorem eX3_copy_18 : Dn mX3_copy 18 (.aload_n 0) 1 19 := ⟨by decide +kernel, rfl⟩
theorem eX3_copy_19 : Dn mX3_copy 19 (.ldc 48) 2 21 := ⟨by decide +kernel, rfl⟩
theorem eX3_copy_21 : Dn mX3_copy 21 (.invokevirtual 49) 3 24 := ⟨by decide +kernel, rfl⟩
theorem eX3_copy_24 : Dn mX3_copy 24 (.ireturn) 1 25 := ⟨by decide +kernel, rfl⟩
theorem eX3_copy_25 : Dn mX3_copy 25 (.aload_n 0) 1 26 := ⟨by decide +kernel, rfl⟩
theorem eX3_copy_26 : Dn mX3_copy 26 (.getfield 35) 3 29 := ⟨by decide +kernel, rfl⟩
theorem eX3_copy_29 : Dn mX3_copy 29 (.iload_n 1) 1 30 := ⟨by decide +kernel, rfl⟩
theorem eX3_copy_30 : Dn mX3_copy 30 (.aaload) 1 31 := ⟨by decide +kernel, rfl⟩
theorem eX3_copy_31 : Dn mX3_copy 31 (.astore 6) 2 33 := ⟨by decide +kernel, rfl⟩
theorem eX3_copy_33 : Dn mX3_copy 33 (.aload_n 0) 1 34 := ⟨by decide +kernel, rfl⟩
theorem eX3_copy_34 : Dn mX3_copy 34 (.getfield 35) 3 37 := ⟨by decide +kernel, rfl⟩
theorem eX3_copy_37 : Dn mX3_copy 37 (.iload_n 3) 1 38 := ⟨by decide +kernel, rfl⟩
theorem eX3_copy_38 : Dn mX3_copy 38 (.aaload) 1 39 := ⟨by decide +kernel, rfl⟩
theorem eX3_copy_39 : Dn mX3_copy 39 (.astore 7) 2 41 := ⟨by decide +kernel, rfl⟩
theorem eX3_copy_41 : Dn mX3_copy 41 (.aload 6) 2 43 := ⟨by decide +kernel, rfl⟩
theorem eX3_copy_43 : Dn mX3_copy 43 (.invokevirtual 208) 3 46 := ⟨by decide +kernel, rfl⟩
theorem eX3_copy_46 : Dj mX3_copy 46 (.ifCond .ne 11) (11) 49 57 := ⟨by decide +kernel, rfl, rfl⟩
theorem eX3_copy_49 : Dn mX3_copy 49 (.aload 7) 2 51 := ⟨by decide +kernel, rfl⟩
theorem eX3_copy_51 : Dn mX3_copy 51 (.invokevirtual 208) 3 54 := ⟨by decide +kernel, rfl⟩
theorem eX3_copy_54 : Dj mX3_copy 54 (.ifCond .eq 10) (10) 57 64 := ⟨by decide +kernel, rfl, rfl⟩
theorem eX3_copy_57 : Dn mX3_copy 57 (.aload_n 0) 1 58 := ⟨by decide +kernel, rfl⟩
theorem eX3_copy_58 : Dn mX3_copy 58 (.ldc 190) 2 60 := ⟨by decide +kernel, rfl⟩
theorem eX3_copy_60 : Dn mX3_copy 60 (.invokevirtual 49) 3 63 := ⟨by decide +kernel, rfl⟩
theorem eX3_copy_63 : Dn mX3_copy 63 (.ireturn) 1 64 := ⟨by decide +kernel, rfl⟩
theorem eX3_copy_64 : Dn mX3_copy 64 (.aload 6) 2 66 := ⟨by decide +kernel, rfl⟩
theorem eX3_copy_66 : Dn mX3_copy 66 (.getfield 212) 3 69 := ⟨by decide +kernel, rfl⟩
theorem eX3_copy_69 : Dn mX3_copy 69 (.aload 7) 2 71 := ⟨by decide +kernel, rfl⟩
theorem eX3_copy_71 : Dn mX3_copy 71 (.getfield 212) 3 74 := ⟨by decide +kernel, rfl⟩
theorem eX3_copy_74 : Dj mX3_copy 74 (.if_icmp .eq 10) (10) 77 84 := ⟨by decide +kernel, rfl, rfl⟩
theorem eX3_copy_77 : Dn mX3_copy 77 (.aload_n 0) 1 78 := ⟨by decide +kernel, rfl⟩
theorem eX3_copy_78 : Dn mX3_copy 78 (.ldc 195) 2 80 := ⟨by decide +kernel, rfl⟩
theorem eX3_copy_80 : Dn mX3_copy 80 (.invokevirtual 49) 3 83 := ⟨by decide +kernel, rfl⟩
theorem eX3_copy_83 : Dn mX3_copy 83 (.ireturn) 1 84 := ⟨by decide +kernel, rfl⟩
theorem eX3_copy_84 : Dn mX3_copy 84 (.aload 6) 2 86 := ⟨by decide +kernel, rfl⟩
theorem eX3_copy_86 : Dn mX3_copy 86 (.iload_n 2) 1 87 := ⟨by decide +kernel, rfl⟩
theorem eX3_copy_87 : Dn mX3_copy 87 (.iload 5) 2 89 := ⟨by decide +kernel, rfl⟩
theorem eX3_copy_89 : Dn mX3_copy 89 (.invokevirtual 215) 3 92 := ⟨by decide +kernel, rfl⟩
theorem eX3_copy_92 : Dj mX3_copy 92 (.ifCond .eq 15) (15) 95 107 := ⟨by decide +kernel, rfl, rfl⟩
theorem eX3_copy_95 : Dn mX3_copy 95 (.aload 7) 2 97 := ⟨by decide +kernel, rfl⟩
theorem eX3_copy_97 : Dn mX3_copy 97 (.iload 4) 2 99 := ⟨by decide +kernel, rfl⟩
theorem eX3_copy_99 : Dn mX3_copy 99 (.iload 5) 2 101 := ⟨by decide +kernel, rfl⟩
theorem eX3_copy_101 : Dn mX3_copy 101 (.invokevirtual 215) 3 104 := ⟨by decide +kernel, rfl⟩
theorem eX3_copy_104 : Dj mX3_copy 104 (.ifCond .ne 10) (10) 107 114 := ⟨by decide +kernel, rfl, rfl⟩
theorem eX3_copy_107 : Dn mX3_copy 107 (.aload_n 0) 1 108 := ⟨by decide +kernel, rfl⟩
theorem eX3_copy_108 : Dn mX3_copy 108 (.ldc 48) 2 110 := ⟨by decide +kernel, rfl⟩
theorem eX3_copy_110 : Dn mX3_copy 110 (.invokevirtual 49) 3 113 := ⟨by decide +kernel, rfl⟩
theorem eX3_copy_113 : Dn mX3_copy 113 (.ireturn) 1 114 := ⟨by decide +kernel, rfl⟩
theorem eX3_copy_114 : Dn mX3_copy 114 (.aload 6) 2 116 := ⟨by decide +kernel, rfl⟩
theorem eX3_copy_116 : Dn mX3_copy 116 (.getfield 218) 3 119 := ⟨by decide +kernel, rfl⟩
theorem eX3_copy_119 : Dn mX3_copy 119 (.iload_n 2) 1 120 := ⟨by decide +kernel, rfl⟩
theorem eX3_copy_120 : Dn mX3_copy 120 (.aload 7) 2 122 := ⟨by decide +kernel, rfl⟩
theorem eX3_copy_122 : Dn mX3_copy 122 (.getfield 218) 3 125 := ⟨by decide +kernel, rfl⟩
theorem eX3_copy_125 : Dn mX3_copy 125 (.iload 4) 2 127 := ⟨by decide +kernel, rfl⟩
theorem eX3_copy_127 : Dn mX3_copy 127 (.iload 5) 2 129 := ⟨by decide +kernel, rfl⟩
theorem eX3_copy_129 : Dn mX3_copy 129 (.invokestatic 221) 3 132 := ⟨by decide +kernel, rfl⟩
theorem eX3_copy_132 : Dn mX3_copy 132 (.iload 5) 2 134 := ⟨by decide +kernel, rfl⟩
theorem eX3_copy_134 : Dn mX3_copy 134 (.ireturn) 1 135 := ⟨by decide +kernel, rfl⟩
theorem eX3_load_0 : Dn mX3_load 0 (.aload_n 0) 1 1 := ⟨by decide +kernel, rfl⟩
theorem eX3_load_1 : Dn mX3_load 1 (.iload_n 1) 1 2 := ⟨by decide +kernel, rfl⟩
theorem eX3_load_2 : Dn mX3_load 2 (.invokevirtual 202) 3 5 := ⟨by decide +kernel, rfl⟩
theorem eX3_load_5 : Dn mX3_load 5 (.istore_n 2) 1 6 := ⟨by decide +kernel, rfl⟩
theorem eX3_load_6 : Dn mX3_load 6 (.iload_n 2) 1 7 := ⟨by decide +kernel, rfl⟩
theorem eX3_load_7 : Dj mX3_load 7 (.ifCond .eq 9) (9) 10 16 := ⟨by decide +kernel, rfl, rfl⟩
theorem eX3_load_10 : Dn mX3_load 10 (.aload_n 0) 1 11 := ⟨by decide +kernel, rfl⟩
theorem eX3_load_11 : Dn mX3_load 11 (.iload_n 2) 1 12 := ⟨by decide +kernel, rfl⟩
theorem eX3_load_12 : Dn mX3_load 12 (.invokevirtual 49) 3 15 := ⟨by decide +kernel, rfl⟩
theorem eX3_load_15 : Dn mX3_load 15 (.ireturn) 1 16 := ⟨by decide +kernel, rfl⟩
theorem eX3_load_16 : Dn mX3_load 16 (.iconst 0) 1 17 := ⟨by decide +kernel, rfl⟩
theorem eX3_load_17 : Dn mX3_load 17 (.istore_n 3) 1 18 := ⟨by decide +kernel, rfl⟩
theorem eX3_load_18 : Dn mX3_load 18 (.iload_n 3) 1 19 := ⟨by decide +kernel, rfl⟩
theorem eX3_load_19 : Dn mX3_load 19 (.bipush 8) 2 21 := ⟨by decide +kernel, rfl⟩
theorem eX3_load_21 : Dj mX3_load 21 (.if_icmp .ge 62) (62) 24 83 := ⟨by decide +kernel, rfl, rfl⟩
theorem eX3_load_24 : Dn mX3_load 24 (.iload_n 3) 1 25 := ⟨by decide +kernel, rfl⟩
theorem eX3_load_25 : Dn mX3_load 25 (.aload_n 0) 1 26 := ⟨by decide +kernel, rfl⟩
theorem eX3_load_26 : Dn mX3_load 26 (.getfield 35) 3 29 := ⟨by decide +kernel, rfl⟩
theorem eX3_load_29 : Dn mX3_load 29 (.iload_n 1) 1 30 := ⟨by decide +kernel, rfl⟩
theorem eX3_load_30 : Dn mX3_load 30 (.aaload) 1 31 := ⟨by decide +kernel, rfl⟩
theorem eX3_load_31 : Dn mX3_load 31 (.getfield 201) 3 34 := ⟨by decide +kernel, rfl⟩
theorem eX3_load_34 : Dj mX3_load 34 (.if_icmp .ge 49) (49) 37 83 := ⟨by decide +kernel, rfl, rfl⟩
theorem eX3_load_37 : Dn mX3_load 37 (.aload_n 0) 1 38 := ⟨by decide +kernel, rfl⟩
theorem eX3_load_38 : Dn mX3_load 38 (.getfield 35) 3 41 := ⟨by decide +kernel, rfl⟩
theorem eX3_load_41 : Dn mX3_load 41 (.iload_n 1) 1 42 := ⟨by decide +kernel, rfl⟩
theorem eX3_load_42 : Dn mX3_load 42 (.aaload) 1 43 := ⟨by decide +kernel, rfl⟩
theorem eX3_load_43 : Dn mX3_load 43 (.getfield 218) 3 46 := ⟨by decide +kernel, rfl⟩
theorem eX3_load_46 : Dn mX3_load 46 (.iload_n 3) 1 47 := ⟨by decide +kernel, rfl⟩
theorem eX3_load_47 : Dn mX3_load 47 (.iaload) 1 48 := ⟨by decide +kernel, rfl⟩
theorem eX3_load_48 : Dn mX3_load 48 (.iconst 0) 1 49 := ⟨by decide +kernel, rfl⟩
theorem eX3_load_49 : Dn mX3_load 49 (.bipush 99) 2 51 := ⟨by decide +kernel, rfl⟩
theorem eX3_load_51 : Dn mX3_load 51 (.invokestatic 44) 3 54 := ⟨by decide +kernel, rfl⟩
theorem eX3_load_54 : Dj mX3_load 54 (.ifCond .eq 29) (29) 57 83 := ⟨by decide +kernel, rfl, rfl⟩
theorem eX3_load_57 : Dn mX3_load 57 (.aload_n 0) 1 58 := ⟨by decide +kernel, rfl⟩
theorem eX3_load_58 : Dn mX3_load 58 (.getfield 10) 3 61 := ⟨by decide +kernel, rfl⟩
theorem eX3_load_61 : Dn mX3_load 61 (.getfield 53) 3 64 := ⟨by decide +kernel, rfl⟩
theorem eX3_load_64 : Dn mX3_load 64 (.iload_n 3) 1 65 := ⟨by decide +kernel, rfl⟩
theorem eX3_load_65 : Dn mX3_load 65 (.aload_n 0) 1 66 := ⟨by decide +kernel, rfl⟩
theorem eX3_load_66 : Dn mX3_load 66 (.getfield 35) 3 69 := ⟨by decide +kernel, rfl⟩
theorem eX3_load_69 : Dn mX3_load 69 (.iload_n 1) 1 70 := ⟨by decide +kernel, rfl⟩
theorem eX3_load_70 : Dn mX3_load 70 (.aaload) 1 71 := ⟨by decide +kernel, rfl⟩
theorem eX3_load_71 : Dn mX3_load 71 (.getfield 218) 3 74 := ⟨by decide +kernel, rfl⟩
theorem eX3_load_74 : Dn mX3_load 74 (.iload_n 3) 1 75 := ⟨by decide +kernel, rfl⟩
theorem eX3_load_75 : Dn mX3_load 75 (.iaload) 1 76 := ⟨by decide +kernel, rfl⟩
theorem eX3_load_76 : Dn mX3_load 76 (.iastore) 1 77 := ⟨by decide +kernel, rfl⟩
theorem eX3_load_77 : Dn mX3_load 77 (.iinc 3 1) 3 80 := ⟨by decide +kernel, rfl⟩
theorem eX3_load_80 : Dj mX3_load 80 (.goto (-62)) (-62) 83 18 := ⟨by decide +kernel, rfl, rfl⟩
theorem eX3_load_83 : Dn mX3_load 83 (.iload_n 3) 1 84 := ⟨by decide +kernel, rfl⟩
theorem eX3_load_84 : Dn mX3_load 84 (.ireturn) 1 85 := ⟨by decide +kernel, rfl⟩
theorem eX3_judge_0 : Dn mX3_judge 0 (.aload_n 0) 1 1 := ⟨by decide +kernel, rfl⟩
theorem eX3_judge_1 : Dn mX3_judge 1 (.iload_n 1) 1 2 := ⟨by decide +kernel, rfl⟩
theorem eX3_judge_2 : Dn mX3_judge 2 (.invokevirtual 202) 3 5 := ⟨by decide +kernel, rfl⟩
theorem eX3_judge_5 : Dn mX3_judge 5 (.istore_n 2) 1 6 := ⟨by decide +kernel, rfl⟩
theorem eX3_judge_6 : Dn mX3_judge 6 (.iload_n 2) 1 7 := ⟨by decide +kernel, rfl⟩
theorem eX3_judge_7 : Dj mX3_judge 7 (.ifCond .eq 9) (9) 10 16 := ⟨by decide +kernel, rfl, rfl⟩
theorem eX3_judge_10 : Dn mX3_judge 10 (.aload_n 0) 1 11 := ⟨by decide +kernel, rfl⟩
theorem eX3_judge_11 : Dn mX3_judge 11 (.iload_n 2) 1 12 := ⟨by decide +kernel, rfl⟩
theorem eX3_judge_12 : Dn mX3_judge 12 (.invokevirtual 49) 3 15 := ⟨by decide +kernel, rfl⟩
theorem eX3_judge_15 : Dn mX3_judge 15 (.ireturn) 1 16 := ⟨by decide +kernel, rfl⟩
theorem eX3_judge_16 : Dn mX3_judge 16 (.iconst 0) 1 17 := ⟨by decide +kernel, rfl⟩
theorem eX3_judge_17 : Dn mX3_judge 17 (.istore_n 3) 1 18 := ⟨by decide +kernel, rfl⟩
theorem eX3_judge_18 : Dn mX3_judge 18 (.iload_n 3) 1 19 := ⟨by decide +kernel, rfl⟩
theorem eX3_judge_19 : Dn mX3_judge 19 (.aload_n 0) 1 20 := ⟨by decide +kernel, rfl⟩
theorem eX3_judge_20 : Dn mX3_judge 20 (.getfield 35) 3 23 := ⟨by decide +kernel, rfl⟩
theorem eX3_judge_23 : Dn mX3_judge 23 (.iload_n 1) 1 24 := ⟨by decide +kernel, rfl⟩
theorem eX3_judge_24 : Dn mX3_judge 24 (.aaload) 1 25 := ⟨by decide +kernel, rfl⟩
theorem eX3_judge_25 : Dn mX3_judge 25 (.getfield 201) 3 28 := ⟨by decide +kernel, rfl⟩
theorem eX3_judge_28 : Dj mX3_judge 28 (.if_icmp .ge 47) (47) 31 75 := ⟨by decide +kernel, rfl, rfl⟩
theorem eX3_judge_31 : Dn mX3_judge 31 (.aload_n 0) 1 32 := ⟨by decide +kernel, rfl⟩
theorem eX3_judge_32 : Dn mX3_judge 32 (.getfield 10) 3 35 := ⟨by decide +kernel, rfl⟩
theorem eX3_judge_35 : Dn mX3_judge 35 (.iload_n 3) 1 36 := ⟨by decide +kernel, rfl⟩
theorem eX3_judge_36 : Dn mX3_judge 36 (.invokevirtual 68) 3 39 := ⟨by decide +kernel, rfl⟩
theorem eX3_judge_39 : Dj mX3_judge 39 (.ifCond .eq 26) (26) 42 65 := ⟨by decide +kernel, rfl, rfl⟩
theorem eX3_judge_42 : Dn mX3_judge 42 (.aload_n 0) 1 43 := ⟨by decide +kernel, rfl⟩
theorem eX3_judge_43 : Dn mX3_judge 43 (.getfield 10) 3 46 := ⟨by decide +kernel, rfl⟩
theorem eX3_judge_46 : Dn mX3_judge 46 (.iload_n 3) 1 47 := ⟨by decide +kernel, rfl⟩
theorem eX3_judge_47 : Dn mX3_judge 47 (.iconst 3) 1 48 := ⟨by decide +kernel, rfl⟩
theorem eX3_judge_48 : Dn mX3_judge 48 (.invokevirtual 81) 3 51 := ⟨by decide +kernel, rfl⟩
theorem eX3_judge_51 : Dn mX3_judge 51 (.aload_n 0) 1 52 := ⟨by decide +kernel, rfl⟩
theorem eX3_judge_52 : Dn mX3_judge 52 (.getfield 35) 3 55 := ⟨by decide +kernel, rfl⟩
theorem eX3_judge_55 : Dn mX3_judge 55 (.iload_n 1) 1 56 := ⟨by decide +kernel, rfl⟩
theorem eX3_judge_56 : Dn mX3_judge 56 (.aaload) 1 57 := ⟨by decide +kernel, rfl⟩
theorem eX3_judge_57 : Dn mX3_judge 57 (.getfield 218) 3 60 := ⟨by decide +kernel, rfl⟩
theorem eX3_judge_60 : Dn mX3_judge 60 (.iload_n 3) 1 61 := ⟨by decide +kernel, rfl⟩
theorem eX3_judge_61 : Dn mX3_judge 61 (.iaload) 1 62 := ⟨by decide +kernel, rfl⟩
theorem eX3_judge_62 : Dj mX3_judge 62 (.if_icmp .eq 7) (7) 65 69 := ⟨by decide +kernel, rfl, rfl⟩
theorem eX3_judge_65 : Dn mX3_judge 65 (.iconst 1) 1 66 := ⟨by decide +kernel, rfl⟩
theorem eX3_judge_66 : Dn mX3_judge 66 (.iload_n 3) 1 67 := ⟨by decide +kernel, rfl⟩
theorem eX3_judge_67 : Dn mX3_judge 67 (.iadd) 1 68 := ⟨by decide +kernel, rfl⟩
theorem eX3_judge_68 : Dn mX3_judge 68 (.ireturn) 1 69 := ⟨by decide +kernel, rfl⟩
theorem eX3_judge_69 : Dn mX3_judge 69 (.iinc 3 1) 3 72 := ⟨by decide +kernel, rfl⟩
theorem eX3_judge_72 : Dj mX3_judge 72 (.goto (-54)) (-54) 75 18 := ⟨by decide +kernel, rfl, rfl⟩
theorem eX3_judge_75 : Dn mX3_judge 75 (.iconst 0) 1 76 := ⟨by decide +kernel, rfl⟩
theorem eX3_judge_76 : Dn mX3_judge 76 (.ireturn) 1 77 := ⟨by decide +kernel, rfl⟩
theorem eX3_image_0 : Dn mX3_image 0 (.aload_n 0) 1 1 := ⟨by decide +kernel, rfl⟩
theorem eX3_image_1 : Dn mX3_image 1 (.getfield 19) 3 4 := ⟨by decide +kernel, rfl⟩
theorem eX3_image_4 : Dn mX3_image 4 (.aload_n 0) 1 5 := ⟨by decide +kernel, rfl⟩
theorem eX3_image_5 : Dn mX3_image 5 (.getfield 10) 3 8 := ⟨by decide +kernel, rfl⟩
theorem eX3_image_8 : Dn mX3_image 8 (.invokevirtual 126) 3 11 := ⟨by decide +kernel, rfl⟩
theorem eX3_image_11 : Dn mX3_image 11 (.aload_n 0) 1 12 := ⟨by decide +kernel, rfl⟩
theorem eX3_image_12 : Dn mX3_image 12 (.iconst 1) 1 13 := ⟨by decide +kernel, rfl⟩
theorem eX3_image_13 : Dn mX3_image 13 (.putfield 22) 3 16 := ⟨by decide +kernel, rfl⟩
theorem eX3_image_16 : Dn mX3_image 16 (.iconst 1) 1 17 := ⟨by decide +kernel, rfl⟩
theorem eX3_image_17 : Dn mX3_image 17 (.ireturn) 1 18 := ⟨by decide +kernel, rfl⟩
theorem eX3_undo_0 : Dn mX3_undo 0 (.aload_n 0) 1 1 := ⟨by decide +kernel, rfl⟩
theorem eX3_undo_1 : Dn mX3_undo 1 (.getfield 22) 3 4 := ⟨by decide +kernel, rfl⟩
theorem eX3_undo_4 : Dj mX3_undo 4 (.ifCond .ne 10) (10) 7 14 := ⟨by decide +kernel, rfl, rfl⟩
theorem eX3_undo_7 : Dn mX3_undo 7 (.aload_n 0) 1 8 := ⟨by decide +kernel, rfl⟩
theorem eX3_undo_8 : Dn mX3_undo 8 (.ldc 133) 2 10 := ⟨by decide +kernel, rfl⟩
theorem eX3_undo_10 : Dn mX3_undo 10 (.invokevirtual 49) 3 13 := ⟨by decide +kernel, rfl⟩
theorem eX3_undo_13 : Dn mX3_undo 13 (.ireturn) 1 14 := ⟨by decide +kernel, rfl⟩
theorem eX3_undo_14 : Dn mX3_undo 14 (.aload_n 0) 1 15 := ⟨by decide +kernel, rfl⟩
theorem eX3_undo_15 : Dn mX3_undo 15 (.getfield 10) 3 18 := ⟨by decide +kernel, rfl⟩
theorem eX3_undo_18 : Dn mX3_undo 18 (.aload_n 0) 1 19 := ⟨by decide +kernel, rfl⟩
theorem eX3_undo_19 : Dn mX3_undo 19 (.getfield 19) 3 22 := ⟨by decide +kernel, rfl⟩
theorem eX3_undo_22 : Dn mX3_undo 22 (.invokevirtual 126) 3 25 := ⟨by decide +kernel, rfl⟩
theorem eX3_undo_25 : Dn mX3_undo 25 (.aload_n 0) 1 26 := ⟨by decide +kernel, rfl⟩
theorem eX3_undo_26 : Dn mX3_undo 26 (.getfield 10) 3 29 := ⟨by decide +kernel, rfl⟩
theorem eX3_undo_29 : Dn mX3_undo 29 (.getfield 101) 3 32 := ⟨by decide +kernel, rfl⟩
theorem eX3_undo_32 : Dn mX3_undo 32 (.ireturn) 1 33 := ⟨by decide +kernel, rfl⟩
theorem eX3_tear_0 : Dn mX3_tear 0 (.aload_n 0) 1 1 := ⟨by decide +kernel, rfl⟩
theorem eX3_tear_1 : Dn mX3_tear 1 (.getfield 22) 3 4 := ⟨by decide +kernel, rfl⟩
theorem eX3_tear_4 : Dj mX3_tear 4 (.ifCond .eq 7) (7) 7 11 := ⟨by decide +kernel, rfl, rfl⟩
theorem eX3_tear_7 : Dn mX3_tear 7 (.iconst 1) 1 8 := ⟨by decide +kernel, rfl⟩
theorem eX3_tear_8 : Dj mX3_tear 8 (.goto 4) (4) 11 12 := ⟨by decide +kernel, rfl, rfl⟩
theorem eX3_tear_11 : Dn mX3_tear 11 (.iconst 0) 1 12 := ⟨by decide +kernel, rfl⟩
theorem eX3_tear_12 : Dn mX3_tear 12 (.istore_n 1) 1 13 := ⟨by decide +kernel, rfl⟩
theorem eX3_tear_13 : Dn mX3_tear 13 (.aload_n 0) 1 14 := ⟨by decide +kernel, rfl⟩
theorem eX3_tear_14 : Dn mX3_tear 14 (.iconst 0) 1 15 := ⟨by decide +kernel, rfl⟩
theorem eX3_tear_15 : Dn mX3_tear 15 (.putfield 22) 3 18 := ⟨by decide +kernel, rfl⟩
theorem eX3_tear_18 : Dn mX3_tear 18 (.iload_n 1) 1 19 := ⟨by decide +kernel, rfl⟩
theorem eX3_tear_19 : Dn mX3_tear 19 (.ireturn) 1 20 := ⟨by decide +kernel, rfl⟩
theorem eX3_count_0 : Dn mX3_count 0 (.iload_n 1) 1 1 := ⟨by decide +kernel, rfl⟩
theorem eX3_count_1 : Dn mX3_count 1 (.tableswitch 114 0 7 #[47, 55, 63, 72, 81, 90, 98, 106]) 47 48 := ⟨by decide +kernel, rfl⟩
theorem eX3_count_48 : Dn mX3_count 48 (.aload_n 0) 1 49 := ⟨by decide +kernel, rfl⟩
theorem eX3_count_49 : Dn mX3_count 49 (.getfield 10) 3 52 := ⟨by decide +kernel, rfl⟩
theorem eX3_count_52 : Dn mX3_count 52 (.getfield 101) 3 55 := ⟨by decide +kernel, rfl⟩
theorem eX3_count_55 : Dn mX3_count 55 (.ireturn) 1 56 := ⟨by decide +kernel, rfl⟩
theorem eX3_count_56 : Dn mX3_count 56 (.aload_n 0) 1 57 := ⟨by decide +kernel, rfl⟩
theorem eX3_count_57 : Dn mX3_count 57 (.getfield 10) 3 60 := ⟨by decide +kernel, rfl⟩
theorem eX3_count_60 : Dn mX3_count 60 (.getfield 60) 3 63 := ⟨by decide +kernel, rfl⟩
theorem eX3_count_63 : Dn mX3_count 63 (.ireturn) 1 64 := ⟨by decide +kernel, rfl⟩
theorem eX3_count_64 : Dn mX3_count 64 (.aload_n 0) 1 65 := ⟨by decide +kernel, rfl⟩
theorem eX3_count_65 : Dn mX3_count 65 (.getfield 10) 3 68 := ⟨by decide +kernel, rfl⟩
theorem eX3_count_68 : Dn mX3_count 68 (.iconst 3) 1 69 := ⟨by decide +kernel, rfl⟩
theorem eX3_count_69 : Dn mX3_count 69 (.invokevirtual 110) 3 72 := ⟨by decide +kernel, rfl⟩
theorem eX3_count_72 : Dn mX3_count 72 (.ireturn) 1 73 := ⟨by decide +kernel, rfl⟩
theorem eX3_count_73 : Dn mX3_count 73 (.aload_n 0) 1 74 := ⟨by decide +kernel, rfl⟩
theorem eX3_count_74 : Dn mX3_count 74 (.getfield 10) 3 77 := ⟨by decide +kernel, rfl⟩
theorem eX3_count_77 : Dn mX3_count 77 (.iconst 5) 1 78 := ⟨by decide +kernel, rfl⟩
theorem eX3_count_78 : Dn mX3_count 78 (.invokevirtual 110) 3 81 := ⟨by decide +kernel, rfl⟩
theorem eX3_count_81 : Dn mX3_count 81 (.ireturn) 1 82 := ⟨by decide +kernel, rfl⟩
theorem eX3_count_82 : Dn mX3_count 82 (.aload_n 0) 1 83 := ⟨by decide +kernel, rfl⟩
theorem eX3_count_83 : Dn mX3_count 83 (.getfield 10) 3 86 := ⟨by decide +kernel, rfl⟩
theorem eX3_count_86 : Dn mX3_count 86 (.iconst 4) 1 87 := ⟨by decide +kernel, rfl⟩
theorem eX3_count_87 : Dn mX3_count 87 (.invokevirtual 110) 3 90 := ⟨by decide +kernel, rfl⟩
theorem eX3_count_90 : Dn mX3_count 90 (.ireturn) 1 91 := ⟨by decide +kernel, rfl⟩
theorem eX3_count_91 : Dn mX3_count 91 (.aload_n 0) 1 92 := ⟨by decide +kernel, rfl⟩
theorem eX3_count_92 : Dn mX3_count 92 (.getfield 29) 3 95 := ⟨by decide +kernel, rfl⟩
theorem eX3_count_95 : Dn mX3_count 95 (.getfield 177) 3 98 := ⟨by decide +kernel, rfl⟩
theorem eX3_count_98 : Dn mX3_count 98 (.ireturn) 1 99 := ⟨by decide +kernel, rfl⟩
theorem eX3_count_99 : Dn mX3_count 99 (.aload_n 0) 1 100 := ⟨by decide +kernel, rfl⟩
theorem eX3_count_100 : Dn mX3_count 100 (.getfield 10) 3 103 := ⟨by decide +kernel, rfl⟩
theorem eX3_count_103 : Dn mX3_count 103 (.getfield 174) 3 106 := ⟨by decide +kernel, rfl⟩
theorem eX3_count_106 : Dn mX3_count 106 (.ireturn) 1 107 := ⟨by decide +kernel, rfl⟩
theorem eX3_count_107 : Dn mX3_count 107 (.aload_n 0) 1 108 := ⟨by decide +kernel, rfl⟩
theorem eX3_count_108 : Dn mX3_count 108 (.getfield 10) 3 111 := ⟨by decide +kernel, rfl⟩
theorem eX3_count_111 : Dn mX3_count 111 (.invokevirtual 227) 3 114 := ⟨by decide +kernel, rfl⟩
theorem eX3_count_114 : Dn mX3_count 114 (.ireturn) 1 115 := ⟨by decide +kernel, rfl⟩
theorem eX3_count_115 : Dn mX3_count 115 (.aload_n 0) 1 116 := ⟨by decide +kernel, rfl⟩
theorem eX3_count_116 : Dn mX3_count 116 (.ldc 48) 2 118 := ⟨by decide +kernel, rfl⟩
theorem eX3_count_118 : Dn mX3_count 118 (.invokevirtual 49) 3 121 := ⟨by decide +kernel, rfl⟩
theorem eX3_count_121 : Dn mX3_count 121 (.ireturn) 1 122 := ⟨by decide +kernel, rfl⟩
theorem eX3_status_0 : Dn mX3_status 0 (.iload_n 1) 1 1 := ⟨by decide +kernel, rfl⟩
theorem eX3_status_1 : Dn mX3_status 1 (.iconst (-1)) 1 2 := ⟨by decide +kernel, rfl⟩
theorem eX3_status_2 : Dn mX3_status 2 (.bipush 6) 2 4 := ⟨by decide +kernel, rfl⟩
theorem eX3_status_4 : Dn mX3_status 4 (.invokestatic 44) 3 7 := ⟨by decide +kernel, rfl⟩
theorem eX3_status_7 : Dj mX3_status 7 (.ifCond .ne 10) (10) 10 17 := ⟨by decide +kernel, rfl, rfl⟩
theorem eX3_status_10 : Dn mX3_status 10 (.aload_n 0) 1 11 := ⟨by decide +kernel, rfl⟩
theorem eX3_status_11 : Dn mX3_status 11 (.ldc 48) 2 13 := ⟨by decide +kernel, rfl⟩
theorem eX3_status_13 : Dn mX3_status 13 (.invokevirtual 49) 3 16 := ⟨by decide +kernel, rfl⟩
theorem eX3_status_16 : Dn mX3_status 16 (.ireturn) 1 17 := ⟨by decide +kernel, rfl⟩
theorem eX3_status_17 : Dn mX3_status 17 (.iload_n 1) 1 18 := ⟨by decide +kernel, rfl⟩
theorem eX3_status_18 : Dj mX3_status 18 (.ifCond .lt 10) (10) 21 28 := ⟨by decide +kernel, rfl, rfl⟩
theorem eX3_status_21 : Dn mX3_status 21 (.aload_n 0) 1 22 := ⟨by decide +kernel, rfl⟩
theorem eX3_status_22 : Dn mX3_status 22 (.getfield 40) 3 25 := ⟨by decide +kernel, rfl⟩
theorem eX3_status_25 : Dn mX3_status 25 (.iload_n 1) 1 26 := ⟨by decide +kernel, rfl⟩
theorem eX3_status_26 : Dn mX3_status 26 (.iaload) 1 27 := ⟨by decide +kernel, rfl⟩
theorem eX3_status_27 : Dn mX3_status 27 (.ireturn) 1 28 := ⟨by decide +kernel, rfl⟩
theorem eX3_status_28 : Dn mX3_status 28 (.iconst 0) 1 29 := ⟨by decide +kernel, rfl⟩
theorem eX3_status_29 : Dn mX3_status 29 (.istore_n 2) 1 30 := ⟨by decide +kernel, rfl⟩
theorem eX3_status_30 : Dn mX3_status 30 (.iconst 0) 1 31 := ⟨by decide +kernel, rfl⟩
theorem eX3_status_31 : Dn mX3_status 31 (.istore_n 3) 1 32 := ⟨by decide +kernel, rfl⟩
theorem eX3_status_32 : Dn mX3_status 32 (.iload_n 3) 1 33 := ⟨by decide +kernel, rfl⟩
theorem eX3_status_33 : Dn mX3_status 33 (.bipush 7) 2 35 := ⟨by decide +kernel, rfl⟩
theorem eX3_status_35 : Dj mX3_status 35 (.if_icmp .ge 18) (18) 38 53 := ⟨by decide +kernel, rfl, rfl⟩
theorem eX3_status_38 : Dn mX3_status 38 (.iload_n 2) 1 39 := ⟨by decide +kernel, rfl⟩
theorem eX3_status_39 : Dn mX3_status 39 (.aload_n 0) 1 40 := ⟨by decide +kernel, rfl⟩
theorem eX3_status_40 : Dn mX3_status 40 (.getfield 40) 3 43 := ⟨by decide +kernel, rfl⟩
theorem eX3_status_43 : Dn mX3_status 43 (.iload_n 3) 1 44 := ⟨by decide +kernel, rfl⟩
theorem eX3_status_44 : Dn mX3_status 44 (.iaload) 1 45 := ⟨by decide +kernel, rfl⟩
theorem eX3_status_45 : Dn mX3_status 45 (.iadd) 1 46 := ⟨by decide +kernel, rfl⟩
theorem eX3_status_46 : Dn mX3_status 46 (.istore_n 2) 1 47 := ⟨by decide +kernel, rfl⟩
theorem eX3_status_47 : Dn mX3_status 47 (.iinc 3 1) 3 50 := ⟨by decide +kernel, rfl⟩
theorem eX3_status_50 : Dj mX3_status 50 (.goto (-18)) (-18) 53 32 := ⟨by decide +kernel, rfl, rfl⟩
theorem eX3_status_53 : Dn mX3_status 53 (.iload_n 2) 1 54 := ⟨by decide +kernel, rfl⟩
theorem eX3_status_54 : Dn mX3_status 54 (.ireturn) 1 55 := ⟨by decide +kernel, rfl⟩
theorem eX3_finding_0 : Dn mX3_finding 0 (.ldc 48) 2 2 := ⟨by decide +kernel, rfl⟩
theorem eX3_finding_2 : Dn mX3_finding 2 (.iload_n 1) 1 3 := ⟨by decide +kernel, rfl⟩
theorem eX3_finding_3 : Dn mX3_finding 3 (.isub) 1 4 := ⟨by decide +kernel, rfl⟩
theorem eX3_finding_4 : Dn mX3_finding 4 (.istore_n 2) 1 5 := ⟨by decide +kernel, rfl⟩
theorem eX3_finding_5 : Dn mX3_finding 5 (.iload_n 2) 1 6 := ⟨by decide +kernel, rfl⟩
theorem eX3_finding_6 : Dn mX3_finding 6 (.iconst 0) 1 7 := ⟨by decide +kernel, rfl⟩
theorem eX3_finding_7 : Dn mX3_finding 7 (.bipush 6) 2 9 := ⟨by decide +kernel, rfl⟩
theorem eX3_finding_9 : Dn mX3_finding 9 (.invokestatic 44) 3 12 := ⟨by decide +kernel, rfl⟩
theorem eX3_finding_12 : Dj mX3_finding 12 (.ifCond .eq 13) (13) 15 25 := ⟨by decide +kernel, rfl, rfl⟩
theorem eX3_finding_15 : Dn mX3_finding 15 (.aload_n 0) 1 16 := ⟨by decide +kernel, rfl⟩
theorem eX3_finding_16 : Dn mX3_finding 16 (.getfield 40) 3 19 := ⟨by decide +kernel, rfl⟩
theorem eX3_finding_19 : Dn mX3_finding 19 (.iload_n 2) 1 20 := ⟨by decide +kernel, rfl⟩
theorem eX3_finding_20 : Dn mX3_finding 20 (.dup2) 1 21 := ⟨by decide +kernel, rfl⟩
theorem eX3_finding_21 : Dn mX3_finding 21 (.iaload) 1 22 := ⟨by decide +kernel, rfl⟩
theorem eX3_finding_22 : Dn mX3_finding 22 (.iconst 1) 1 23 := ⟨by decide +kernel, rfl⟩
theorem eX3_finding_23 : Dn mX3_finding 23 (.iadd) 1 24 := ⟨by decide +kernel, rfl⟩
theorem eX3_finding_24 : Dn mX3_finding 24 (.iastore) 1 25 := ⟨by decide +kernel, rfl⟩
theorem eX3_finding_25 : Dn mX3_finding 25 (.iload_n 1) 1 26 := ⟨by decide +kernel, rfl⟩
theorem eX3_finding_26 : Dn mX3_finding 26 (.ireturn) 1 27 := ⟨by decide +kernel, rfl⟩
theorem eX3_within_0 : Dn mX3_within 0 (.iload_n 0) 1 1 := ⟨by decide +kernel, rfl⟩
theorem eX3_within_1 : Dn mX3_within 1 (.iload_n 1) 1 2 := ⟨by decide +kernel, rfl⟩
theorem eX3_within_2 : Dj mX3_within 2 (.if_icmp .lt 12) (12) 5 14 := ⟨by decide +kernel, rfl, rfl⟩
theorem eX3_within_5 : Dn mX3_within 5 (.iload_n 0) 1 6 := ⟨by decide +kernel, rfl⟩
theorem eX3_within_6 : Dn mX3_within 6 (.iload_n 2) 1 7 := ⟨by decide +kernel, rfl⟩
theorem eX3_within_7 : Dj mX3_within 7 (.if_icmp .gt 7) (7) 10 14 := ⟨by decide +kernel, rfl, rfl⟩
theorem eX3_within_10 : Dn mX3_within 10 (.iconst 1) 1 11 := ⟨by decide +kernel, rfl⟩
theorem eX3_within_11 : Dj mX3_within 11 (.goto 4) (4) 14 15 := ⟨by decide +kernel, rfl, rfl⟩
theorem eX3_within_14 : Dn mX3_within 14 (.iconst 0) 1 15 := ⟨by decide +kernel, rfl⟩
theorem eX3_within_15 : Dn mX3_within 15 (.ireturn) 1 16 := ⟨by decide +kernel, rfl⟩
theorem eX3_canBecome_0 : Dn mX3_canBecome 0 (.iload_n 2) 1 1 := ⟨by decide +kernel, rfl⟩
theorem eX3_canBecome_1 : Dn mX3_canBecome 1 (.tableswitch 97 0 4 #[35, 43, 52, 79, 88]) 35 36 := ⟨by decide +kernel, rfl⟩
theorem eX3_canBecome_36 : Dn mX3_canBecome 36 (.iload_n 3) 1 37 := ⟨by decide +kernel, rfl⟩
theorem eX3_canBecome_37 : Dn mX3_canBecome 37 (.iconst 0) 1 38 := ⟨by decide +kernel, rfl⟩
theorem eX3_canBecome_38 : Dn mX3_canBecome 38 (.bipush 6) 2 40 := ⟨by decide +kernel, rfl⟩
theorem eX3_canBecome_40 : Dn mX3_canBecome 40 (.invokestatic 44) 3 43 := ⟨by decide +kernel, rfl⟩
theorem eX3_canBecome_43 : Dn mX3_canBecome 43 (.ireturn) 1 44 := ⟨by decide +kernel, rfl⟩
theorem eX3_canBecome_44 : Dn mX3_canBecome 44 (.iload_n 3) 1 45 := ⟨by decide +kernel, rfl⟩
theorem eX3_canBecome_45 : Dn mX3_canBecome 45 (.iconst 0) 1 46 := ⟨by decide +kernel, rfl⟩
theorem eX3_canBecome_46 : Dn mX3_canBecome 46 (.sipush 255) 3 49 := ⟨by decide +kernel, rfl⟩
theorem eX3_canBecome_49 : Dn mX3_canBecome 49 (.invokestatic 44) 3 52 := ⟨by decide +kernel, rfl⟩
theorem eX3_canBecome_52 : Dn mX3_canBecome 52 (.ireturn) 1 53 := ⟨by decide +kernel, rfl⟩
theorem eX3_canBecome_53 : Dn mX3_canBecome 53 (.iload_n 3) 1 54 := ⟨by decide +kernel, rfl⟩
theorem eX3_canBecome_54 : Dn mX3_canBecome 54 (.iconst (-1)) 1 55 := ⟨by decide +kernel, rfl⟩
theorem eX3_canBecome_55 : Dj mX3_canBecome 55 (.if_icmp .eq 19) (19) 58 74 := ⟨by decide +kernel, rfl, rfl⟩
theorem eX3_canBecome_58 : Dn mX3_canBecome 58 (.aload_n 0) 1 59 := ⟨by decide +kernel, rfl⟩
theorem eX3_canBecome_59 : Dn mX3_canBecome 59 (.getfield 10) 3 62 := ⟨by decide +kernel, rfl⟩
theorem eX3_canBecome_62 : Dn mX3_canBecome 62 (.iload_n 3) 1 63 := ⟨by decide +kernel, rfl⟩
theorem eX3_canBecome_63 : Dn mX3_canBecome 63 (.invokevirtual 68) 3 66 := ⟨by decide +kernel, rfl⟩
theorem eX3_canBecome_66 : Dj mX3_canBecome 66 (.ifCond .eq 12) (12) 69 78 := ⟨by decide +kernel, rfl, rfl⟩
theorem eX3_canBecome_69 : Dn mX3_canBecome 69 (.iload_n 3) 1 70 := ⟨by decide +kernel, rfl⟩
theorem eX3_canBecome_70 : Dn mX3_canBecome 70 (.iload_n 1) 1 71 := ⟨by decide +kernel, rfl⟩
theorem eX3_canBecome_71 : Dj mX3_canBecome 71 (.if_icmp .eq 7) (7) 74 78 := ⟨by decide +kernel, rfl, rfl⟩
theorem eX3_canBecome_74 : Dn mX3_canBecome 74 (.iconst 1) 1 75 := ⟨by decide +kernel, rfl⟩
theorem eX3_canBecome_75 : Dj mX3_canBecome 75 (.goto 4) (4) 78 79 := ⟨by decide +kernel, rfl, rfl⟩
theorem eX3_canBecome_78 : Dn mX3_canBecome 78 (.iconst 0) 1 79 := ⟨by decide +kernel, rfl⟩
theorem eX3_canBecome_79 : Dn mX3_canBecome 79 (.ireturn) 1 80 := ⟨by decide +kernel, rfl⟩
theorem eX3_canBecome_80 : Dn mX3_canBecome 80 (.iload_n 3) 1 81 := ⟨by decide +kernel, rfl⟩
theorem eX3_canBecome_81 : Dn mX3_canBecome 81 (.iconst 0) 1 82 := ⟨by decide +kernel, rfl⟩
theorem eX3_canBecome_82 : Dn mX3_canBecome 82 (.sipush 9999) 3 85 := ⟨by decide +kernel, rfl⟩
theorem eX3_canBecome_85 : Dn mX3_canBecome 85 (.invokestatic 44) 3 88 := ⟨by decide +kernel, rfl⟩
theorem eX3_canBecome_88 : Dn mX3_canBecome 88 (.ireturn) 1 89 := ⟨by decide +kernel, rfl⟩
theorem eX3_canBecome_89 : Dn mX3_canBecome 89 (.iload_n 3) 1 90 := ⟨by decide +kernel, rfl⟩
theorem eX3_canBecome_90 : Dn mX3_canBecome 90 (.iconst 0) 1 91 := ⟨by decide +kernel, rfl⟩
theorem eX3_canBecome_91 : Dn mX3_canBecome 91 (.sipush 999) 3 94 := ⟨by decide +kernel, rfl⟩
theorem eX3_canBecome_94 : Dn mX3_canBecome 94 (.invokestatic 44) 3 97 := ⟨by decide +kernel, rfl⟩
theorem eX3_canBecome_97 : Dn mX3_canBecome 97 (.ireturn) 1 98 := ⟨by decide +kernel, rfl⟩
theorem eX3_canBecome_98 : Dn mX3_canBecome 98 (.iload_n 3) 1 99 := ⟨by decide +kernel, rfl⟩
theorem eX3_canBecome_99 : Dn mX3_canBecome 99 (.iconst 0) 1 100 := ⟨by decide +kernel, rfl⟩
theorem eX3_canBecome_100 : Dn mX3_canBecome 100 (.sipush 9999) 3 103 := ⟨by decide +kernel, rfl⟩
theorem eX3_canBecome_103 : Dn mX3_canBecome 103 (.invokestatic 44) 3 106 := ⟨by decide +kernel, rfl⟩
theorem eX3_canBecome_106 : Dn mX3_canBecome 106 (.ireturn) 1 107 := ⟨by decide +kernel, rfl⟩
theorem eX3_sheetCheck_0 : Dn mX3_sheetCheck 0 (.iload_n 1) 1 1 := ⟨by decide +kernel, rfl⟩
theorem eX3_sheetCheck_1 : Dn mX3_sheetCheck 1 (.iconst 0) 1 2 := ⟨by decide +kernel, rfl⟩
theorem eX3_sheetCheck_2 : Dn mX3_sheetCheck 2 (.iconst 3) 1 3 := ⟨by decide +kernel, rfl⟩
theorem eX3_sheetCheck_3 : Dn mX3_sheetCheck 3 (.invokestatic 44) 3 6 := ⟨by decide +kernel, rfl⟩
theorem eX3_sheetCheck_6 : Dj mX3_sheetCheck 6 (.ifCond .ne 6) (6) 9 12 := ⟨by decide +kernel, rfl, rfl⟩
theorem eX3_sheetCheck_9 : Dn mX3_sheetCheck 9 (.ldc 48) 2 11 := ⟨by decide +kernel, rfl⟩
theorem eX3_sheetCheck_11 : Dn mX3_sheetCheck 11 (.ireturn) 1 12 := ⟨by decide +kernel, rfl⟩
theorem eX3_sheetCheck_12 : Dn mX3_sheetCheck 12 (.aload_n 0) 1 13 := ⟨by decide +kernel, rfl⟩
theorem eX3_sheetCheck_13 : Dn mX3_sheetCheck 13 (.getfield 35) 3 16 := ⟨by decide +kernel, rfl⟩
theorem eX3_sheetCheck_16 : Dn mX3_sheetCheck 16 (.iload_n 1) 1 17 := ⟨by decide +kernel, rfl⟩
theorem eX3_sheetCheck_17 : Dn mX3_sheetCheck 17 (.aaload) 1 18 := ⟨by decide +kernel, rfl⟩
theorem eX3_sheetCheck_18 : Dn mX3_sheetCheck 18 (.invokevirtual 208) 3 21 := ⟨by decide +kernel, rfl⟩
theorem eX3_sheetCheck_21 : Dj mX3_sheetCheck 21 (.ifCond .eq 8) (8) 24 29 := ⟨by decide +kernel, rfl, rfl⟩
theorem eX3_sheetCheck_24 : Dn mX3_sheetCheck 24 (.ldc 190) 2 26 := ⟨by decide +kernel, rfl⟩
theorem eX3_sheetCheck_26 : Dj mX3_sheetCheck 26 (.goto 4) (4) 29 30 := ⟨by decide +kernel, rfl, rfl⟩
theorem eX3_sheetCheck_29 : Dn mX3_sheetCheck 29 (.iconst 0) 1 30 := ⟨by decide +kernel, rfl⟩
theorem eX3_sheetCheck_30 : Dn mX3_sheetCheck 30 (.ireturn) 1 31 := ⟨by decide +kernel, rfl⟩
theorem eX3_sheetAndChildCheck_0 : Dn mX3_sheetAndChildCheck 0 (.aload_n 0) 1 1 := ⟨by decide +kernel, rfl⟩
theorem eX3_sheetAndChildCheck_1 : Dn mX3_sheetAndChildCheck 1 (.iload_n 1) 1 2 := ⟨by decide +kernel, rfl⟩
theorem eX3_sheetAndChildCheck_2 : Dn mX3_sheetAndChildCheck 2 (.invokevirtual 202) 3 5 := ⟨by decide +kernel, rfl⟩
theorem eX3_sheetAndChildCheck_5 : Dn mX3_sheetAndChildCheck 5 (.istore_n 3) 1 6 := ⟨by decide +kernel, rfl⟩
theorem eX3_sheetAndChildCheck_6 : Dn mX3_sheetAndChildCheck 6 (.iload_n 3) 1 7 := ⟨by decide +kernel, rfl⟩
theorem eX3_sheetAndChildCheck_7 : Dj mX3_sheetAndChildCheck 7 (.ifCond .eq 5) (5) 10 12 := ⟨by decide +kernel, rfl, rfl⟩
theorem eX3_sheetAndChildCheck_10 : Dn mX3_sheetAndChildCheck 10 (.iload_n 3) 1 11 := ⟨by decide +kernel, rfl⟩
theorem eX3_sheetAndChildCheck_11 : Dn mX3_sheetAndChildCheck 11 (.ireturn) 1 12 := ⟨by decide +kernel, rfl⟩
theorem eX3_sheetAndChildCheck_12 : Dn mX3_sheetAndChildCheck 12 (.aload_n 0) 1 13 := ⟨by decide +kernel, rfl⟩
theorem eX3_sheetAndChildCheck_13 : Dn mX3_sheetAndChildCheck 13 (.getfield 10) 3 16 := ⟨by decide +kernel, rfl⟩
theorem eX3_sheetAndChildCheck_16 : Dn mX3_sheetAndChildCheck 16 (.iload_n 2) 1 17 := ⟨by decide +kernel, rfl⟩
theorem eX3_sheetAndChildCheck_17 : Dn mX3_sheetAndChildCheck 17 (.invokevirtual 68) 3 20 := ⟨by decide +kernel, rfl⟩
theorem eX3_sheetAndChildCheck_20 : Dj mX3_sheetAndChildCheck 20 (.ifCond .eq 7) (7) 23 27 := ⟨by decide +kernel, rfl, rfl⟩
theorem eX3_sheetAndChildCheck_23 : Dn mX3_sheetAndChildCheck 23 (.iconst 0) 1 24 := ⟨by decide +kernel, rfl⟩
theorem eX3_sheetAndChildCheck_24 : Dj mX3_sheetAndChildCheck 24 (.goto 5) (5) 27 29 := ⟨by decide +kernel, rfl, rfl⟩
theorem eX3_sheetAndChildCheck_27 : Dn mX3_sheetAndChildCheck 27 (.ldc 48) 2 29 := ⟨by decide +kernel, rfl⟩
theorem eX3_sheetAndChildCheck_29 : Dn mX3_sheetAndChildCheck 29 (.ireturn) 1 30 := ⟨by decide +kernel, rfl⟩
theorem eX3_daysUntil_0 : Dn mX3_daysUntil 0 (.aload_n 0) 1 1 := ⟨by decide +kernel, rfl⟩
theorem eX3_daysUntil_1 : Dn mX3_daysUntil 1 (.getfield 16) 3 4 := ⟨by decide +kernel, rfl⟩
theorem eX3_daysUntil_4 : Dn mX3_daysUntil 4 (.aload_n 0) 1 5 := ⟨by decide +kernel, rfl⟩
theorem eX3_daysUntil_5 : Dn mX3_daysUntil 5 (.getfield 10) 3 8 := ⟨by decide +kernel, rfl⟩
theorem eX3_daysUntil_8 : Dn mX3_daysUntil 8 (.invokevirtual 126) 3 11 := ⟨by decide +kernel, rfl⟩
theorem eX3_daysUntil_11 : Dn mX3_daysUntil 11 (.iconst 0) 1 12 := ⟨by decide +kernel, rfl⟩
theorem eX3_daysUntil_12 : Dn mX3_daysUntil 12 (.istore 4) 2 14 := ⟨by decide +kernel, rfl⟩
theorem eX3_daysUntil_14 : Dn mX3_daysUntil 14 (.iload 4) 2 16 := ⟨by decide +kernel, rfl⟩
theorem eX3_daysUntil_16 : Dn mX3_daysUntil 16 (.bipush 60) 2 18 := ⟨by decide +kernel, rfl⟩
theorem eX3_daysUntil_18 : Dj mX3_daysUntil 18 (.if_icmp .gt 33) (33) 21 51 := ⟨by decide +kernel, rfl, rfl⟩
theorem eX3_daysUntil_21 : Dn mX3_daysUntil 21 (.aload_n 0) 1 22 := ⟨by decide +kernel, rfl⟩
theorem eX3_daysUntil_22 : Dn mX3_daysUntil 22 (.getfield 16) 3 25 := ⟨by decide +kernel, rfl⟩
theorem eX3_daysUntil_25 : Dn mX3_daysUntil 25 (.iload_n 1) 1 26 := ⟨by decide +kernel, rfl⟩
theorem eX3_daysUntil_26 : Dn mX3_daysUntil 26 (.iload_n 2) 1 27 := ⟨by decide +kernel, rfl⟩
theorem eX3_daysUntil_27 : Dn mX3_daysUntil 27 (.invokevirtual 81) 3 30 := ⟨by decide +kernel, rfl⟩
theorem eX3_daysUntil_30 : Dn mX3_daysUntil 30 (.iload_n 3) 1 31 := ⟨by decide +kernel, rfl⟩
theorem eX3_daysUntil_31 : Dj mX3_daysUntil 31 (.if_icmp .lt 6) (6) 34 37 := ⟨by decide +kernel, rfl, rfl⟩
theorem eX3_daysUntil_34 : Dn mX3_daysUntil 34 (.iload 4) 2 36 := ⟨by decide +kernel, rfl⟩
theorem eX3_daysUntil_36 : Dn mX3_daysUntil 36 (.ireturn) 1 37 := ⟨by decide +kernel, rfl⟩
theorem eX3_daysUntil_37 : Dn mX3_daysUntil 37 (.aload_n 0) 1 38 := ⟨by decide +kernel, rfl⟩
theorem eX3_daysUntil_38 : Dn mX3_daysUntil 38 (.getfield 16) 3 41 := ⟨by decide +kernel, rfl⟩
theorem eX3_daysUntil_41 : Dn mX3_daysUntil 41 (.iconst 1) 1 42 := ⟨by decide +kernel, rfl⟩
theorem eX3_daysUntil_42 : Dn mX3_daysUntil 42 (.invokevirtual 106) 3 45 := ⟨by decide +kernel, rfl⟩
theorem eX3_daysUntil_45 : Dn mX3_daysUntil 45 (.iinc 4 1) 3 48 := ⟨by decide +kernel, rfl⟩
theorem eX3_daysUntil_48 : Dj mX3_daysUntil 48 (.goto (-34)) (-34) 51 14 := ⟨by decide +kernel, rfl, rfl⟩
theorem eX3_daysUntil_51 : Dn mX3_daysUntil 51 (.ldc 133) 2 53 := ⟨by decide +kernel, rfl⟩
theorem eX3_daysUntil_53 : Dn mX3_daysUntil 53 (.ireturn) 1 54 := ⟨by decide +kernel, rfl⟩
theorem eX3_marksWith_0 : Dn mX3_marksWith 0 (.aload_n 0) 1 1 := ⟨by decide +kernel, rfl⟩
theorem eX3_marksWith_1 : Dn mX3_marksWith 1 (.getfield 16) 3 4 := ⟨by decide +kernel, rfl⟩
theorem eX3_marksWith_4 : Dn mX3_marksWith 4 (.aload_n 0) 1 5 := ⟨by decide +kernel, rfl⟩
theorem eX3_marksWith_5 : Dn mX3_marksWith 5 (.getfield 10) 3 8 := ⟨by decide +kernel, rfl⟩
theorem eX3_marksWith_8 : Dn mX3_marksWith 8 (.invokevirtual 126) 3 11 := ⟨by decide +kernel, rfl⟩
theorem eX3_marksWith_11 : Dn mX3_marksWith 11 (.aload_n 0) 1 12 := ⟨by decide +kernel, rfl⟩
theorem eX3_marksWith_12 : Dn mX3_marksWith 12 (.getfield 16) 3 15 := ⟨by decide +kernel, rfl⟩
theorem eX3_marksWith_15 : Dn mX3_marksWith 15 (.iload_n 1) 1 16 := ⟨by decide +kernel, rfl⟩
theorem eX3_marksWith_16 : Dn mX3_marksWith 16 (.iload_n 2) 1 17 := ⟨by decide +kernel, rfl⟩
theorem eX3_marksWith_17 : Dn mX3_marksWith 17 (.iload_n 3) 1 18 := ⟨by decide +kernel, rfl⟩
theorem eX3_marksWith_18 : Dn mX3_marksWith 18 (.invokevirtual 87) 3 21 := ⟨by decide +kernel, rfl⟩
theorem eX3_marksWith_21 : Dn mX3_marksWith 21 (.aload_n 0) 1 22 := ⟨by decide +kernel, rfl⟩
theorem eX3_marksWith_22 : Dn mX3_marksWith 22 (.getfield 16) 3 25 := ⟨by decide +kernel, rfl⟩
theorem eX3_marksWith_25 : Dn mX3_marksWith 25 (.iload 4) 2 27 := ⟨by decide +kernel, rfl⟩
theorem eX3_marksWith_27 : Dn mX3_marksWith 27 (.invokevirtual 106) 3 30 := ⟨by decide +kernel, rfl⟩
theorem eX3_marksWith_30 : Dn mX3_marksWith 30 (.aload_n 0) 1 31 := ⟨by decide +kernel, rfl⟩
theorem eX3_marksWith_31 : Dn mX3_marksWith 31 (.getfield 16) 3 34 := ⟨by decide +kernel, rfl⟩
theorem eX3_marksWith_34 : Dn mX3_marksWith 34 (.iload_n 1) 1 35 := ⟨by decide +kernel, rfl⟩
theorem eX3_marksWith_35 : Dn mX3_marksWith 35 (.iconst 3) 1 36 := ⟨by decide +kernel, rfl⟩
theorem eX3_marksWith_36 : Dn mX3_marksWith 36 (.invokevirtual 81) 3 39 := ⟨by decide +kernel, rfl⟩
theorem eX3_marksWith_39 : Dn mX3_marksWith 39 (.ireturn) 1 40 := ⟨by decide +kernel, rfl⟩
theorem eX3_nobodyIsCaughtInTrial_0 : Dn mX3_nobodyIsCaughtInTrial 0 (.aload_n 0) 1 1 := ⟨by decide +kernel, rfl⟩
theorem eX3_nobodyIsCaughtInTrial_1 : Dn mX3_nobodyIsCaughtInTrial 1 (.getfield 10) 3 4 := ⟨by decide +kernel, rfl⟩
theorem eX3_nobodyIsCaughtInTrial_4 : Dn mX3_nobodyIsCaughtInTrial 4 (.iconst 5) 1 5 := ⟨by decide +kernel, rfl⟩
theorem eX3_nobodyIsCaughtInTrial_5 : Dn mX3_nobodyIsCaughtInTrial 5 (.invokevirtual 110) 3 8 := ⟨by decide +kernel, rfl⟩
theorem eX3_nobodyIsCaughtInTrial_8 : Dn mX3_nobodyIsCaughtInTrial 8 (.istore_n 2) 1 9 := ⟨by decide +kernel, rfl⟩
theorem eX3_nobodyIsCaughtInTrial_9 : Dn mX3_nobodyIsCaughtInTrial 9 (.iconst 0) 1 10 := ⟨by decide +kernel, rfl⟩
theorem eX3_nobodyIsCaughtInTrial_10 : Dn mX3_nobodyIsCaughtInTrial 10 (.istore_n 3) 1 11 := ⟨by decide +kernel, rfl⟩
theorem eX3_nobodyIsCaughtInTrial_11 : Dn mX3_nobodyIsCaughtInTrial 11 (.iload_n 3) 1 12 := ⟨by decide +kernel, rfl⟩
theorem eX3_nobodyIsCaughtInTrial_12 : Dn mX3_nobodyIsCaughtInTrial 12 (.iload_n 1) 1 13 := ⟨by decide +kernel, rfl⟩
theorem eX3_nobodyIsCaughtInTrial_13 : Dj mX3_nobodyIsCaughtInTrial 13 (.if_icmp .ge 31) (31) 16 44 := ⟨by decide +kernel, rfl, rfl⟩
theorem eX3_nobodyIsCaughtInTrial_16 : Dn mX3_nobodyIsCaughtInTrial 16 (.aload_n 0) 1 17 := ⟨by decide +kernel, rfl⟩
theorem eX3_nobodyIsCaughtInTrial_17 : Dn mX3_nobodyIsCaughtInTrial 17 (.getfield 16) 3 20 := ⟨by decide +kernel, rfl⟩
theorem eX3_nobodyIsCaughtInTrial_20 : Dn mX3_nobodyIsCaughtInTrial 20 (.iconst 1) 1 21 := ⟨by decide +kernel, rfl⟩
theorem eX3_nobodyIsCaughtInTrial_21 : Dn mX3_nobodyIsCaughtInTrial 21 (.invokevirtual 106) 3 24 := ⟨by decide +kernel, rfl⟩
theorem eX3_nobodyIsCaughtInTrial_24 : Dn mX3_nobodyIsCaughtInTrial 24 (.aload_n 0) 1 25 := ⟨by decide +kernel, rfl⟩
theorem eX3_nobodyIsCaughtInTrial_25 : Dn mX3_nobodyIsCaughtInTrial 25 (.getfield 16) 3 28 := ⟨by decide +kernel, rfl⟩
theorem eX3_nobodyIsCaughtInTrial_28 : Dn mX3_nobodyIsCaughtInTrial 28 (.iconst 5) 1 29 := ⟨by decide +kernel, rfl⟩
theorem eX3_nobodyIsCaughtInTrial_29 : Dn mX3_nobodyIsCaughtInTrial 29 (.invokevirtual 110) 3 32 := ⟨by decide +kernel, rfl⟩
theorem eX3_nobodyIsCaughtInTrial_32 : Dn mX3_nobodyIsCaughtInTrial 32 (.iload_n 2) 1 33 := ⟨by decide +kernel, rfl⟩
theorem eX3_nobodyIsCaughtInTrial_33 : Dj mX3_nobodyIsCaughtInTrial 33 (.if_icmp .eq 5) (5) 36 38 := ⟨by decide +kernel, rfl, rfl⟩
theorem eX3_nobodyIsCaughtInTrial_36 : Dn mX3_nobodyIsCaughtInTrial 36 (.iconst 0) 1 37 := ⟨by decide +kernel, rfl⟩
theorem eX3_nobodyIsCaughtInTrial_37 : Dn mX3_nobodyIsCaughtInTrial 37 (.ireturn) 1 38 := ⟨by decide +kernel, rfl⟩
theorem eX3_nobodyIsCaughtInTrial_38 : Dn mX3_nobodyIsCaughtInTrial 38 (.iinc 3 1) 3 41 := ⟨by decide +kernel, rfl⟩
theorem eX3_nobodyIsCaughtInTrial_41 : Dj mX3_nobodyIsCaughtInTrial 41 (.goto (-30)) (-30) 44 11 := ⟨by decide +kernel, rfl, rfl⟩
theorem eX3_nobodyIsCaughtInTrial_44 : Dn mX3_nobodyIsCaughtInTrial 44 (.iconst 1) 1 45 := ⟨by decide +kernel, rfl⟩
theorem eX3_nobodyIsCaughtInTrial_45 : Dn mX3_nobodyIsCaughtInTrial 45 (.ireturn) 1 46 := ⟨by decide +kernel, rfl⟩
theorem eX3_tryWithoutCopiesFrom_0 : Dn mX3_tryWithoutCopiesFrom 0 (.aload_n 0) 1 1 := ⟨by decide +kernel, rfl⟩
theorem eX3_tryWithoutCopiesFrom_1 : Dn mX3_tryWithoutCopiesFrom 1 (.getfield 16) 3 4 := ⟨by decide +kernel, rfl⟩
theorem eX3_tryWithoutCopiesFrom_4 : Dn mX3_tryWithoutCopiesFrom 4 (.aload_n 0) 1 5 := ⟨by decide +kernel, rfl⟩
theorem eX3_tryWithoutCopiesFrom_5 : Dn mX3_tryWithoutCopiesFrom 5 (.getfield 10) 3 8 := ⟨by decide +kernel, rfl⟩
theorem eX3_tryWithoutCopiesFrom_8 : Dn mX3_tryWithoutCopiesFrom 8 (.invokevirtual 126) 3 11 := ⟨by decide +kernel, rfl⟩
theorem eX3_tryWithoutCopiesFrom_11 : Dn mX3_tryWithoutCopiesFrom 11 (.iconst 0) 1 12 := ⟨by decide +kernel, rfl⟩
theorem eX3_tryWithoutCopiesFrom_12 : Dn mX3_tryWithoutCopiesFrom 12 (.istore_n 2) 1 13 := ⟨by decide +kernel, rfl⟩
theorem eX3_tryWithoutCopiesFrom_13 : Dn mX3_tryWithoutCopiesFrom 13 (.iload_n 2) 1 14 := ⟨by decide +kernel, rfl⟩
theorem eX3_tryWithoutCopiesFrom_14 : Dn mX3_tryWithoutCopiesFrom 14 (.aload_n 0) 1 15 := ⟨by decide +kernel, rfl⟩
theorem eX3_tryWithoutCopiesFrom_15 : Dn mX3_tryWithoutCopiesFrom 15 (.getfield 16) 3 18 := ⟨by decide +kernel, rfl⟩
theorem eX3_tryWithoutCopiesFrom_18 : Dn mX3_tryWithoutCopiesFrom 18 (.getfield 60) 3 21 := ⟨by decide +kernel, rfl⟩
theorem eX3_tryWithoutCopiesFrom_21 : Dj mX3_tryWithoutCopiesFrom 21 (.if_icmp .ge 43) (43) 24 64 := ⟨by decide +kernel, rfl, rfl⟩
theorem eX3_tryWithoutCopiesFrom_24 : Dn mX3_tryWithoutCopiesFrom 24 (.aload_n 0) 1 25 := ⟨by decide +kernel, rfl⟩
theorem eX3_tryWithoutCopiesFrom_25 : Dn mX3_tryWithoutCopiesFrom 25 (.getfield 16) 3 28 := ⟨by decide +kernel, rfl⟩
theorem eX3_tryWithoutCopiesFrom_28 : Dn mX3_tryWithoutCopiesFrom 28 (.iload_n 2) 1 29 := ⟨by decide +kernel, rfl⟩
theorem eX3_tryWithoutCopiesFrom_29 : Dn mX3_tryWithoutCopiesFrom 29 (.iconst 2) 1 30 := ⟨by decide +kernel, rfl⟩
theorem eX3_tryWithoutCopiesFrom_30 : Dn mX3_tryWithoutCopiesFrom 30 (.invokevirtual 81) 3 33 := ⟨by decide +kernel, rfl⟩
theorem eX3_tryWithoutCopiesFrom_33 : Dn mX3_tryWithoutCopiesFrom 33 (.istore_n 3) 1 34 := ⟨by decide +kernel, rfl⟩
theorem eX3_tryWithoutCopiesFrom_34 : Dn mX3_tryWithoutCopiesFrom 34 (.iload_n 3) 1 35 := ⟨by decide +kernel, rfl⟩
theorem eX3_tryWithoutCopiesFrom_35 : Dn mX3_tryWithoutCopiesFrom 35 (.iconst (-1)) 1 36 := ⟨by decide +kernel, rfl⟩
theorem eX3_tryWithoutCopiesFrom_36 : Dj mX3_tryWithoutCopiesFrom 36 (.if_icmp .eq 22) (22) 39 58 := ⟨by decide +kernel, rfl, rfl⟩
theorem eX3_tryWithoutCopiesFrom_39 : Dn mX3_tryWithoutCopiesFrom 39 (.iload_n 1) 1 40 := ⟨by decide +kernel, rfl⟩
theorem eX3_tryWithoutCopiesFrom_40 : Dn mX3_tryWithoutCopiesFrom 40 (.iload_n 3) 1 41 := ⟨by decide +kernel, rfl⟩
theorem eX3_tryWithoutCopiesFrom_41 : Dn mX3_tryWithoutCopiesFrom 41 (.ishr) 1 42 := ⟨by decide +kernel, rfl⟩
theorem eX3_tryWithoutCopiesFrom_42 : Dn mX3_tryWithoutCopiesFrom 42 (.iconst 1) 1 43 := ⟨by decide +kernel, rfl⟩
theorem eX3_tryWithoutCopiesFrom_43 : Dn mX3_tryWithoutCopiesFrom 43 (.iand) 1 44 := ⟨by decide +kernel, rfl⟩
theorem eX3_tryWithoutCopiesFrom_44 : Dn mX3_tryWithoutCopiesFrom 44 (.iconst 1) 1 45 := ⟨by decide +kernel, rfl⟩
theorem eX3_tryWithoutCopiesFrom_45 : Dj mX3_tryWithoutCopiesFrom 45 (.if_icmp .ne 13) (13) 48 58 := ⟨by decide +kernel, rfl, rfl⟩
theorem eX3_tryWithoutCopiesFrom_48 : Dn mX3_tryWithoutCopiesFrom 48 (.aload_n 0) 1 49 := ⟨by decide +kernel, rfl⟩
theorem eX3_tryWithoutCopiesFrom_49 : Dn mX3_tryWithoutCopiesFrom 49 (.getfield 16) 3 52 := ⟨by decide +kernel, rfl⟩
theorem eX3_tryWithoutCopiesFrom_52 : Dn mX3_tryWithoutCopiesFrom 52 (.iload_n 2) 1 53 := ⟨by decide +kernel, rfl⟩
theorem eX3_tryWithoutCopiesFrom_53 : Dn mX3_tryWithoutCopiesFrom 53 (.iconst 2) 1 54 := ⟨by decide +kernel, rfl⟩
theorem eX3_tryWithoutCopiesFrom_54 : Dn mX3_tryWithoutCopiesFrom 54 (.iconst (-1)) 1 55 := ⟨by decide +kernel, rfl⟩
theorem eX3_tryWithoutCopiesFrom_55 : Dn mX3_tryWithoutCopiesFrom 55 (.invokevirtual 87) 3 58 := ⟨by decide +kernel, rfl⟩
theorem eX3_tryWithoutCopiesFrom_58 : Dn mX3_tryWithoutCopiesFrom 58 (.iinc 2 1) 3 61 := ⟨by decide +kernel, rfl⟩
theorem eX3_tryWithoutCopiesFrom_61 : Dj mX3_tryWithoutCopiesFrom 61 (.goto (-48)) (-48) 64 13 := ⟨by decide +kernel, rfl, rfl⟩
theorem eX3_tryWithoutCopiesFrom_64 : Dn mX3_tryWithoutCopiesFrom 64 (.return_) 1 65 := ⟨by decide +kernel, rfl⟩
theorem eX3_writesAsAsked_0 : Dn mX3_writesAsAsked 0 (.aload_n 0) 1 1 := ⟨by decide +kernel, rfl⟩
theorem eX3_writesAsAsked_1 : Dn mX3_writesAsAsked 1 (.getfield 16) 3 4 := ⟨by decide +kernel, rfl⟩
theorem eX3_writesAsAsked_4 : Dn mX3_writesAsAsked 4 (.aload_n 0) 1 5 := ⟨by decide +kernel, rfl⟩
theorem eX3_writesAsAsked_5 : Dn mX3_writesAsAsked 5 (.getfield 10) 3 8 := ⟨by decide +kernel, rfl⟩
theorem eX3_writesAsAsked_8 : Dn mX3_writesAsAsked 8 (.invokevirtual 126) 3 11 := ⟨by decide +kernel, rfl⟩
theorem eX3_writesAsAsked_11 : Dn mX3_writesAsAsked 11 (.aload_n 0) 1 12 := ⟨by decide +kernel, rfl⟩
theorem eX3_writesAsAsked_12 : Dn mX3_writesAsAsked 12 (.getfield 16) 3 15 := ⟨by decide +kernel, rfl⟩
theorem eX3_writesAsAsked_15 : Dn mX3_writesAsAsked 15 (.iload_n 2) 1 16 := ⟨by decide +kernel, rfl⟩
theorem eX3_writesAsAsked_16 : Dn mX3_writesAsAsked 16 (.iload_n 3) 1 17 := ⟨by decide +kernel, rfl⟩
theorem eX3_writesAsAsked_17 : Dn mX3_writesAsAsked 17 (.iload 4) 2 19 := ⟨by decide +kernel, rfl⟩
theorem eX3_writesAsAsked_19 : Dn mX3_writesAsAsked 19 (.invokevirtual 87) 3 22 := ⟨by decide +kernel, rfl⟩
theorem eX3_writesAsAsked_22 : Dn mX3_writesAsAsked 22 (.aload_n 0) 1 23 := ⟨by decide +kernel, rfl⟩
theorem eX3_writesAsAsked_23 : Dn mX3_writesAsAsked 23 (.getfield 16) 3 26 := ⟨by decide +kernel, rfl⟩
theorem eX3_writesAsAsked_26 : Dn mX3_writesAsAsked 26 (.iconst 1) 1 27 := ⟨by decide +kernel, rfl⟩
theorem eX3_writesAsAsked_27 : Dn mX3_writesAsAsked 27 (.invokevirtual 106) 3 30 := ⟨by decide +kernel, rfl⟩
theorem eX3_writesAsAsked_30 : Dn mX3_writesAsAsked 30 (.iconst 0) 1 31 := ⟨by decide +kernel, rfl⟩
theorem eX3_writesAsAsked_31 : Dn mX3_writesAsAsked 31 (.istore 5) 2 33 := ⟨by decide +kernel, rfl⟩
theorem eX3_writesAsAsked_33 : Dn mX3_writesAsAsked 33 (.iload 5) 2 35 := ⟨by decide +kernel, rfl⟩
theorem eX3_writesAsAsked_35 : Dn mX3_writesAsAsked 35 (.bipush 8) 2 37 := ⟨by decide +kernel, rfl⟩
theorem eX3_writesAsAsked_37 : Dj mX3_writesAsAsked 37 (.if_icmp .ge 30) (30) 40 67 := ⟨by decide +kernel, rfl, rfl⟩
theorem eX3_writesAsAsked_40 : Dn mX3_writesAsAsked 40 (.aload_n 1) 1 41 := ⟨by decide +kernel, rfl⟩
theorem eX3_writesAsAsked_41 : Dn mX3_writesAsAsked 41 (.iload 5) 2 43 := ⟨by decide +kernel, rfl⟩
theorem eX3_writesAsAsked_43 : Dn mX3_writesAsAsked 43 (.aload_n 0) 1 44 := ⟨by decide +kernel, rfl⟩
theorem eX3_writesAsAsked_44 : Dn mX3_writesAsAsked 44 (.getfield 16) 3 47 := ⟨by decide +kernel, rfl⟩
theorem eX3_writesAsAsked_47 : Dn mX3_writesAsAsked 47 (.iload_n 2) 1 48 := ⟨by decide +kernel, rfl⟩
theorem eX3_writesAsAsked_48 : Dn mX3_writesAsAsked 48 (.iload 5) 2 50 := ⟨by decide +kernel, rfl⟩
theorem eX3_writesAsAsked_50 : Dn mX3_writesAsAsked 50 (.invokevirtual 91) 3 53 := ⟨by decide +kernel, rfl⟩
theorem eX3_writesAsAsked_53 : Dn mX3_writesAsAsked 53 (.invokevirtual 230) 3 56 := ⟨by decide +kernel, rfl⟩
theorem eX3_writesAsAsked_56 : Dj mX3_writesAsAsked 56 (.ifCond .ne 5) (5) 59 61 := ⟨by decide +kernel, rfl, rfl⟩
theorem eX3_writesAsAsked_59 : Dn mX3_writesAsAsked 59 (.iconst 0) 1 60 := ⟨by decide +kernel, rfl⟩
theorem eX3_writesAsAsked_60 : Dn mX3_writesAsAsked 60 (.ireturn) 1 61 := ⟨by decide +kernel, rfl⟩
theorem eX3_writesAsAsked_61 : Dn mX3_writesAsAsked 61 (.iinc 5 1) 3 64 := ⟨by decide +kernel, rfl⟩
theorem eX3_writesAsAsked_64 : Dj mX3_writesAsAsked 64 (.goto (-31)) (-31) 67 33 := ⟨by decide +kernel, rfl, rfl⟩
theorem eX3_writesAsAsked_67 : Dn mX3_writesAsAsked 67 (.iconst 1) 1 68 := ⟨by decide +kernel, rfl⟩
theorem eX3_writesAsAsked_68 : Dn mX3_writesAsAsked 68 (.ireturn) 1 69 := ⟨by decide +kernel, rfl⟩
theorem eX3_tryDayKnowingNothing_0 : Dn mX3_tryDayKnowingNothing 0 (.aload_n 0) 1 1 := ⟨by decide +kernel, rfl⟩
theorem eX3_tryDayKnowingNothing_1 : Dn mX3_tryDayKnowingNothing 1 (.getfield 16) 3 4 := ⟨by decide +kernel, rfl⟩
theorem eX3_tryDayKnowingNothing_4 : Dn mX3_tryDayKnowingNothing 4 (.aload_n 0) 1 5 := ⟨by decide +kernel, rfl⟩
theorem eX3_tryDayKnowingNothing_5 : Dn mX3_tryDayKnowingNothing 5 (.getfield 10) 3 8 := ⟨by decide +kernel, rfl⟩
theorem eX3_tryDayKnowingNothing_8 : Dn mX3_tryDayKnowingNothing 8 (.invokevirtual 126) 3 11 := ⟨by decide +kernel, rfl⟩
theorem eX3_tryDayKnowingNothing_11 : Dn mX3_tryDayKnowingNothing 11 (.aload_n 0) 1 12 := ⟨by decide +kernel, rfl⟩
theorem eX3_tryDayKnowingNothing_12 : Dn mX3_tryDayKnowingNothing 12 (.getfield 16) 3 15 := ⟨by decide +kernel, rfl⟩
theorem eX3_tryDayKnowingNothing_15 : Dn mX3_tryDayKnowingNothing 15 (.iload_n 1) 1 16 := ⟨by decide +kernel, rfl⟩
theorem eX3_tryDayKnowingNothing_16 : Dn mX3_tryDayKnowingNothing 16 (.iconst 1) 1 17 := ⟨by decide +kernel, rfl⟩
theorem eX3_tryDayKnowingNothing_17 : Dn mX3_tryDayKnowingNothing 17 (.iconst 0) 1 18 := ⟨by decide +kernel, rfl⟩
theorem eX3_tryDayKnowingNothing_18 : Dn mX3_tryDayKnowingNothing 18 (.invokevirtual 87) 3 21 := ⟨by decide +kernel, rfl⟩
theorem eX3_tryDayKnowingNothing_21 : Dn mX3_tryDayKnowingNothing 21 (.aload_n 0) 1 22 := ⟨by decide +kernel, rfl⟩
theorem eX3_tryDayKnowingNothing_22 : Dn mX3_tryDayKnowingNothing 22 (.getfield 16) 3 25 := ⟨by decide +kernel, rfl⟩
theorem eX3_tryDayKnowingNothing_25 : Dn mX3_tryDayKnowingNothing 25 (.iconst 1) 1 26 := ⟨by decide +kernel, rfl⟩
theorem eX3_tryDayKnowingNothing_26 : Dn mX3_tryDayKnowingNothing 26 (.invokevirtual 106) 3 29 := ⟨by decide +kernel, rfl⟩
theorem eX3_tryDayKnowingNothing_29 : Dn mX3_tryDayKnowingNothing 29 (.return_) 1 30 := ⟨by decide +kernel, rfl⟩
theorem eX3_fitsUnknown_0 : Dn mX3_fitsUnknown 0 (.aload_n 1) 1 1 := ⟨by decide +kernel, rfl⟩
theorem eX3_fitsUnknown_1 : Dn mX3_fitsUnknown 1 (.iload_n 3) 1 2 := ⟨by decide +kernel, rfl⟩
theorem eX3_fitsUnknown_2 : Dn mX3_fitsUnknown 2 (.aload_n 0) 1 3 := ⟨by decide +kernel, rfl⟩
theorem eX3_fitsUnknown_3 : Dn mX3_fitsUnknown 3 (.getfield 16) 3 6 := ⟨by decide +kernel, rfl⟩
theorem eX3_fitsUnknown_6 : Dn mX3_fitsUnknown 6 (.iload_n 2) 1 7 := ⟨by decide +kernel, rfl⟩
theorem eX3_fitsUnknown_7 : Dn mX3_fitsUnknown 7 (.iload_n 3) 1 8 := ⟨by decide +kernel, rfl⟩
theorem eX3_fitsUnknown_8 : Dn mX3_fitsUnknown 8 (.invokevirtual 91) 3 11 := ⟨by decide +kernel, rfl⟩
theorem eX3_fitsUnknown_11 : Dn mX3_fitsUnknown 11 (.invokevirtual 230) 3 14 := ⟨by decide +kernel, rfl⟩
theorem eX3_fitsUnknown_14 : Dn mX3_fitsUnknown 14 (.ireturn) 1 15 := ⟨by decide +kernel, rfl⟩
theorem eX3_fitsKnown_0 : Dn mX3_fitsKnown 0 (.aload_n 1) 1 1 := ⟨by decide +kernel, rfl⟩
theorem eX3_fitsKnown_1 : Dn mX3_fitsKnown 1 (.iload_n 2) 1 2 := ⟨by decide +kernel, rfl⟩
theorem eX3_fitsKnown_2 : Dn mX3_fitsKnown 2 (.aload_n 0) 1 3 := ⟨by decide +kernel, rfl⟩
theorem eX3_fitsKnown_3 : Dn mX3_fitsKnown 3 (.getfield 10) 3 6 := ⟨by decide +kernel, rfl⟩
theorem eX3_fitsKnown_6 : Dn mX3_fitsKnown 6 (.getfield 53) 3 9 := ⟨by decide +kernel, rfl⟩
theorem eX3_fitsKnown_9 : Dn mX3_fitsKnown 9 (.iload_n 2) 1 10 := ⟨by decide +kernel, rfl⟩
theorem eX3_fitsKnown_10 : Dn mX3_fitsKnown 10 (.iaload) 1 11 := ⟨by decide +kernel, rfl⟩
theorem eX3_fitsKnown_11 : Dn mX3_fitsKnown 11 (.invokevirtual 230) 3 14 := ⟨by decide +kernel, rfl⟩
theorem eX3_fitsKnown_14 : Dn mX3_fitsKnown 14 (.ireturn) 1 15 := ⟨by decide +kernel, rfl⟩
theorem eX3_power_0 : Dn mX3_power 0 (.lconst 1) 1 1 := ⟨by decide +kernel, rfl⟩
theorem eX3_power_1 : Dn mX3_power 1 (.lstore_n 2) 1 2 := ⟨by decide +kernel, rfl⟩
theorem eX3_power_2 : Dn mX3_power 2 (.iconst 0) 1 3 := ⟨by decide +kernel, rfl⟩
theorem eX3_power_3 : Dn mX3_power 3 (.istore 4) 2 5 := ⟨by decide +kernel, rfl⟩
theorem eX3_power_5 : Dn mX3_power 5 (.iload 4) 2 7 := ⟨by decide +kernel, rfl⟩
theorem eX3_power_7 : Dn mX3_power 7 (.iload_n 1) 1 8 := ⟨by decide +kernel, rfl⟩
theorem eX3_power_8 : Dj mX3_power 8 (.if_icmp .ge 14) (14) 11 22 := ⟨by decide +kernel, rfl, rfl⟩
theorem eX3_power_11 : Dn mX3_power 11 (.lload_n 2) 1 12 := ⟨by decide +kernel, rfl⟩
theorem eX3_power_12 : Dn mX3_power 12 (.iload_n 0) 1 13 := ⟨by decide +kernel, rfl⟩
theorem eX3_power_13 : Dn mX3_power 13 (.i2l) 1 14 := ⟨by decide +kernel, rfl⟩
theorem eX3_power_14 : Dn mX3_power 14 (.lmul) 1 15 := ⟨by decide +kernel, rfl⟩
theorem eX3_power_15 : Dn mX3_power 15 (.lstore_n 2) 1 16 := ⟨by decide +kernel, rfl⟩
theorem eX3_power_16 : Dn mX3_power 16 (.iinc 4 1) 3 19 := ⟨by decide +kernel, rfl⟩
theorem eX3_power_19 : Dj mX3_power 19 (.goto (-14)) (-14) 22 5 := ⟨by decide +kernel, rfl, rfl⟩
theorem eX3_power_22 : Dn mX3_power 22 (.lload_n 2) 1 23 := ⟨by decide +kernel, rfl⟩
theorem eX3_power_23 : Dn mX3_power 23 (.lreturn) 1 24 := ⟨by decide +kernel, rfl⟩
theorem eX3_isUnder_0 : Dn mX3_isUnder 0 (.iload_n 0) 1 1 := ⟨by decide +kernel, rfl⟩
theorem eX3_isUnder_1 : Dn mX3_isUnder 1 (.istore_n 2) 1 2 := ⟨by decide +kernel, rfl⟩
theorem eX3_isUnder_2 : Dn mX3_isUnder 2 (.iconst 0) 1 3 := ⟨by decide +kernel, rfl⟩
theorem eX3_isUnder_3 : Dn mX3_isUnder 3 (.istore_n 3) 1 4 := ⟨by decide +kernel, rfl⟩
theorem eX3_isUnder_4 : Dn mX3_isUnder 4 (.iload_n 3) 1 5 := ⟨by decide +kernel, rfl⟩
theorem eX3_isUnder_5 : Dn mX3_isUnder 5 (.bipush 7) 2 7 := ⟨by decide +kernel, rfl⟩
theorem eX3_isUnder_7 : Dj mX3_isUnder 7 (.if_icmp .ge 32) (32) 10 39 := ⟨by decide +kernel, rfl, rfl⟩
theorem eX3_isUnder_10 : Dn mX3_isUnder 10 (.iload_n 2) 1 11 := ⟨by decide +kernel, rfl⟩
theorem eX3_isUnder_11 : Dn mX3_isUnder 11 (.iconst 0) 1 12 := ⟨by decide +kernel, rfl⟩
theorem eX3_isUnder_12 : Dn mX3_isUnder 12 (.bipush 6) 2 14 := ⟨by decide +kernel, rfl⟩
theorem eX3_isUnder_14 : Dn mX3_isUnder 14 (.invokestatic 44) 3 17 := ⟨by decide +kernel, rfl⟩
theorem eX3_isUnder_17 : Dj mX3_isUnder 17 (.ifCond .eq 22) (22) 20 39 := ⟨by decide +kernel, rfl, rfl⟩
theorem eX3_isUnder_20 : Dn mX3_isUnder 20 (.iload_n 2) 1 21 := ⟨by decide +kernel, rfl⟩
theorem eX3_isUnder_21 : Dn mX3_isUnder 21 (.iload_n 1) 1 22 := ⟨by decide +kernel, rfl⟩
theorem eX3_isUnder_22 : Dj mX3_isUnder 22 (.if_icmp .ne 5) (5) 25 27 := ⟨by decide +kernel, rfl, rfl⟩
theorem eX3_isUnder_25 : Dn mX3_isUnder 25 (.iconst 1) 1 26 := ⟨by decide +kernel, rfl⟩
theorem eX3_isUnder_26 : Dn mX3_isUnder 26 (.ireturn) 1 27 := ⟨by decide +kernel, rfl⟩
theorem eX3_isUnder_27 : Dn mX3_isUnder 27 (.getstatic 233) 3 30 := ⟨by decide +kernel, rfl⟩
theorem eX3_isUnder_30 : Dn mX3_isUnder 30 (.iload_n 2) 1 31 := ⟨by decide +kernel, rfl⟩
theorem eX3_isUnder_31 : Dn mX3_isUnder 31 (.iaload) 1 32 := ⟨by decide +kernel, rfl⟩
theorem eX3_isUnder_32 : Dn mX3_isUnder 32 (.istore_n 2) 1 33 := ⟨by decide +kernel, rfl⟩
theorem eX3_isUnder_33 : Dn mX3_isUnder 33 (.iinc 3 1) 3 36 := ⟨by decide +kernel, rfl⟩
theorem eX3_isUnder_36 : Dj mX3_isUnder 36 (.goto (-32)) (-32) 39 4 := ⟨by decide +kernel, rfl, rfl⟩
theorem eX3_isUnder_39 : Dn mX3_isUnder 39 (.iconst 0) 1 40 := ⟨by decide +kernel, rfl⟩
theorem eX3_isUnder_40 : Dn mX3_isUnder 40 (.ireturn) 1 41 := ⟨by decide +kernel, rfl⟩
end
section
theorem eX4_init_0 : Dn mX4_init 0 (.aload_n 0) 1 1 := ⟨by decide +kernel, rfl⟩
theorem eX4_init_1 : Dn mX4_init 1 (.invokespecial 1) 3 4 := ⟨by decide +kernel, rfl⟩
theorem eX4_init_4 : Dn mX4_init 4 (.aload_n 0) 1 5 := ⟨by decide +kernel, rfl⟩
theorem eX4_init_5 : Dn mX4_init 5 (.sipush 134) 3 8 := ⟨by decide +kernel, rfl⟩
theorem eX4_init_8 : Dn mX4_init 8 (.newarray .int) 2 10 := ⟨by decide +kernel, rfl⟩
theorem eX4_init_10 : Dn mX4_init 10 (.putfield 7) 3 13 := ⟨by decide +kernel, rfl⟩
theorem eX4_init_13 : Dn mX4_init 13 (.aload_n 0) 1 14 := ⟨by decide +kernel, rfl⟩
theorem eX4_init_14 : Dn mX4_init 14 (.sipush 134) 3 17 := ⟨by decide +kernel, rfl⟩
theorem eX4_init_17 : Dn mX4_init 17 (.newarray .int) 2 19 := ⟨by decide +kernel, rfl⟩
theorem eX4_init_19 : Dn mX4_init 19 (.putfield 13) 3 22 := ⟨by decide +kernel, rfl⟩
theorem eX4_init_22 : Dn mX4_init 22 (.aload_n 0) 1 23 := ⟨by decide +kernel, rfl⟩
theorem eX4_init_23 : Dn mX4_init 23 (.sipush 134) 3 26 := ⟨by decide +kernel, rfl⟩
theorem eX4_init_26 : Dn mX4_init 26 (.newarray .int) 2 28 := ⟨by decide +kernel, rfl⟩
theorem eX4_init_28 : Dn mX4_init 28 (.putfield 16) 3 31 := ⟨by decide +kernel, rfl⟩
theorem eX4_init_31 : Dn mX4_init 31 (.aload_n 0) 1 32 := ⟨by decide +kernel, rfl⟩
theorem eX4_init_32 : Dn mX4_init 32 (.sipush 134) 3 35 := ⟨by decide +kernel, rfl⟩
theorem eX4_init_35 : Dn mX4_init 35 (.newarray .int) 2 37 := ⟨by decide +kernel, rfl⟩
theorem eX4_init_37 : Dn mX4_init 37 (.putfield 19) 3 40 := ⟨by decide +kernel, rfl⟩
theorem eX4_init_40 : Dn mX4_init 40 (.aload_n 0) 1 41 := ⟨by decide +kernel, rfl⟩
theorem eX4_init_41 : Dn mX4_init 41 (.bipush 8) 2 43 := ⟨by decide +kernel, rfl⟩
theorem eX4_init_43 : Dn mX4_init 43 (.newarray .int) 2 45 := ⟨by decide +kernel, rfl⟩
theorem eX4_init_45 : Dn mX4_init 45 (.putfield 22) 3 48 := ⟨by decide +kernel, rfl⟩
theorem eX4_init_48 : Dn mX4_init 48 (.aload_n 0) 1 49 := ⟨by decide +kernel, rfl⟩
theorem eX4_init_49 : Dn mX4_init 49 (.bipush 120) 2 51 := ⟨by decide +kernel, rfl⟩
theorem eX4_init_51 : Dn mX4_init 51 (.newarray .int) 2 53 := ⟨by decide +kernel, rfl⟩
theorem eX4_init_53 : Dn mX4_init 53 (.putfield 25) 3 56 := ⟨by decide +kernel, rfl⟩
theorem eX4_init_56 : Dn mX4_init 56 (.aload_n 0) 1 57 := ⟨by decide +kernel, rfl⟩
theorem eX4_init_57 : Dn mX4_init 57 (.iconst 4) 1 58 := ⟨by decide +kernel, rfl⟩
theorem eX4_init_58 : Dn mX4_init 58 (.newarray .int) 2 60 := ⟨by decide +kernel, rfl⟩
theorem eX4_init_60 : Dn mX4_init 60 (.dup) 1 61 := ⟨by decide +kernel, rfl⟩
theorem eX4_init_61 : Dn mX4_init 61 (.iconst 0) 1 62 := ⟨by decide +kernel, rfl⟩
theorem eX4_init_62 : Dn mX4_init 62 (.iconst (-1)) 1 63 := ⟨by decide +kernel, rfl⟩
theorem eX4_init_63 : Dn mX4_init 63 (.iastore) 1 64 := ⟨by decide +kernel, rfl⟩
theorem eX4_init_64 : Dn mX4_init 64 (.dup) 1 65 := ⟨by decide +kernel, rfl⟩
theorem eX4_init_65 : Dn mX4_init 65 (.iconst 1) 1 66 := ⟨by decide +kernel, rfl⟩
theorem eX4_init_66 : Dn mX4_init 66 (.iconst (-1)) 1 67 := ⟨by decide +kernel, rfl⟩
theorem eX4_init_67 : Dn mX4_init 67 (.iastore) 1 68 := ⟨by decide +kernel, rfl⟩
theorem eX4_init_68 : Dn mX4_init 68 (.dup) 1 69 := ⟨by decide +kernel, rfl⟩
theorem eX4_init_69 : Dn mX4_init 69 (.iconst 2) 1 70 := ⟨by decide +kernel, rfl⟩
theorem eX4_init_70 : Dn mX4_init 70 (.iconst (-1)) 1 71 := ⟨by decide +kernel, rfl⟩
theorem eX4_init_71 : Dn mX4_init 71 (.iastore) 1 72 := ⟨by decide +kernel, rfl⟩
theorem eX4_init_72 : Dn mX4_init 72 (.dup) 1 73 := ⟨by decide +kernel, rfl⟩
theorem eX4_init_73 : Dn mX4_init 73 (.iconst 3) 1 74 := ⟨by decide +kernel, rfl⟩
theorem eX4_init_74 : Dn mX4_init 74 (.iconst (-1)) 1 75 := ⟨by decide +kernel, rfl⟩
theorem eX4_init_75 : Dn mX4_init 75 (.iastore) 1 76 := ⟨by decide +kernel, rfl⟩
theorem eX4_init_76 : Dn mX4_init 76 (.putfield 28) 3 79 := ⟨by decide +kernel, rfl⟩
theorem eX4_init_79 : Dn mX4_init 79 (.aload_n 0) 1 80 := ⟨by decide +kernel, rfl⟩
theorem eX4_init_80 : Dn mX4_init 80 (.iconst 4) 1 81 := ⟨by decide +kernel, rfl⟩
theorem eX4_init_81 : Dn mX4_init 81 (.newarray .int) 2 83 := ⟨by decide +kernel, rfl⟩
theorem eX4_init_83 : Dn mX4_init 83 (.putfield 31) 3 86 := ⟨by decide +kernel, rfl⟩
theorem eX4_init_86 : Dn mX4_init 86 (.aload_n 0) 1 87 := ⟨by decide +kernel, rfl⟩
theorem eX4_init_87 : Dn mX4_init 87 (.sipush 160) 3 90 := ⟨by decide +kernel, rfl⟩
theorem eX4_init_90 : Dn mX4_init 90 (.newarray .int) 2 92 := ⟨by decide +kernel, rfl⟩
theorem eX4_init_92 : Dn mX4_init 92 (.putfield 34) 3 95 := ⟨by decide +kernel, rfl⟩
theorem eX4_init_95 : Dn mX4_init 95 (.aload_n 0) 1 96 := ⟨by decide +kernel, rfl⟩
theorem eX4_init_96 : Dn mX4_init 96 (.getfield 7) 3 99 := ⟨by decide +kernel, rfl⟩
theorem eX4_init_99 : Dn mX4_init 99 (.iconst 2) 1 100 := ⟨by decide +kernel, rfl⟩
theorem eX4_init_100 : Dn mX4_init 100 (.iconst 1) 1 101 := ⟨by decide +kernel, rfl⟩
theorem eX4_init_101 : Dn mX4_init 101 (.iastore) 1 102 := ⟨by decide +kernel, rfl⟩
theorem eX4_init_102 : Dn mX4_init 102 (.aload_n 0) 1 103 := ⟨by decide +kernel, rfl⟩
theorem eX4_init_103 : Dn mX4_init 103 (.getfield 7) 3 106 := ⟨by decide +kernel, rfl⟩
theorem eX4_init_106 : Dn mX4_init 106 (.iconst 3) 1 107 := ⟨by decide +kernel, rfl⟩
theorem eX4_init_107 : Dn mX4_init 107 (.iconst 2) 1 108 := ⟨by decide +kernel, rfl⟩
theorem eX4_init_108 : Dn mX4_init 108 (.iastore) 1 109 := ⟨by decide +kernel, rfl⟩
theorem eX4_init_109 : Dn mX4_init 109 (.iconst 0) 1 110 := ⟨by decide +kernel, rfl⟩
theorem eX4_init_110 : Dn mX4_init 110 (.istore_n 1) 1 111 := ⟨by decide +kernel, rfl⟩
theorem eX4_init_111 : Dn mX4_init 111 (.iload_n 1) 1 112 := ⟨by decide +kernel, rfl⟩
theorem eX4_init_112 : Dn mX4_init 112 (.bipush 8) 2 114 := ⟨by decide +kernel, rfl⟩
theorem eX4_init_114 : Dj mX4_init 114 (.if_icmp .ge 24) (24) 117 138 := ⟨by decide +kernel, rfl, rfl⟩
theorem eX4_init_117 : Dn mX4_init 117 (.aload_n 0) 1 118 := ⟨by decide +kernel, rfl⟩
theorem eX4_init_118 : Dn mX4_init 118 (.getfield 7) 3 121 := ⟨by decide +kernel, rfl⟩
theorem eX4_init_121 : Dn mX4_init 121 (.iconst 4) 1 122 := ⟨by decide +kernel, rfl⟩
theorem eX4_init_122 : Dn mX4_init 122 (.iload_n 1) 1 123 := ⟨by decide +kernel, rfl⟩
theorem eX4_init_123 : Dn mX4_init 123 (.iadd) 1 124 := ⟨by decide +kernel, rfl⟩
theorem eX4_init_124 : Dn mX4_init 124 (.bipush 11) 2 126 := ⟨by decide +kernel, rfl⟩
theorem eX4_init_126 : Dn mX4_init 126 (.iload_n 1) 1 127 := ⟨by decide +kernel, rfl⟩
theorem eX4_init_127 : Dn mX4_init 127 (.imul) 1 128 := ⟨by decide +kernel, rfl⟩
theorem eX4_init_128 : Dn mX4_init 128 (.bipush 14) 2 130 := ⟨by decide +kernel, rfl⟩
theorem eX4_init_130 : Dn mX4_init 130 (.iadd) 1 131 := ⟨by decide +kernel, rfl⟩
theorem eX4_init_131 : Dn mX4_init 131 (.iastore) 1 132 := ⟨by decide +kernel, rfl⟩
theorem eX4_init_132 : Dn mX4_init 132 (.iinc 1 1) 3 135 := ⟨by decide +kernel, rfl⟩
theorem eX4_init_135 : Dj mX4_init 135 (.goto (-24)) (-24) 138 111 := ⟨by decide +kernel, rfl, rfl⟩
theorem eX4_init_138 : Dn mX4_init 138 (.iconst 0) 1 139 := ⟨by decide +kernel, rfl⟩
theorem eX4_init_139 : Dn mX4_init 139 (.istore_n 1) 1 140 := ⟨by decide +kernel, rfl⟩
theorem eX4_init_140 : Dn mX4_init 140 (.iload_n 1) 1 141 := ⟨by decide +kernel, rfl⟩
theorem eX4_init_141 : Dn mX4_init 141 (.bipush 10) 2 143 := ⟨by decide +kernel, rfl⟩
theorem eX4_init_143 : Dj mX4_init 143 (.if_icmp .ge 19) (19) 146 162 := ⟨by decide +kernel, rfl, rfl⟩
theorem eX4_init_146 : Dn mX4_init 146 (.aload_n 0) 1 147 := ⟨by decide +kernel, rfl⟩
theorem eX4_init_147 : Dn mX4_init 147 (.getfield 7) 3 150 := ⟨by decide +kernel, rfl⟩
theorem eX4_init_150 : Dn mX4_init 150 (.bipush 124) 2 152 := ⟨by decide +kernel, rfl⟩
theorem eX4_init_152 : Dn mX4_init 152 (.iload_n 1) 1 153 := ⟨by decide +kernel, rfl⟩
theorem eX4_init_153 : Dn mX4_init 153 (.iadd) 1 154 := ⟨by decide +kernel, rfl⟩
theorem eX4_init_154 : Dn mX4_init 154 (.iconst (-1)) 1 155 := ⟨by decide +kernel, rfl⟩
theorem eX4_init_155 : Dn mX4_init 155 (.iastore) 1 156 := ⟨by decide +kernel, rfl⟩
theorem eX4_init_156 : Dn mX4_init 156 (.iinc 1 1) 3 159 := ⟨by decide +kernel, rfl⟩
theorem eX4_init_159 : Dj mX4_init 159 (.goto (-19)) (-19) 162 140 := ⟨by decide +kernel, rfl, rfl⟩
theorem eX4_init_162 : Dn mX4_init 162 (.return_) 1 163 := ⟨by decide +kernel, rfl⟩
theorem eX4_isIn_0 : Dn mX4_isIn 0 (.lload_n 0) 1 1 := ⟨by decide +kernel, rfl⟩
theorem eX4_isIn_1 : Dn mX4_isIn 1 (.lload_n 2) 1 2 := ⟨by decide +kernel, rfl⟩
theorem eX4_isIn_2 : Dn mX4_isIn 2 (.lcmp) 1 3 := ⟨by decide +kernel, rfl⟩
theorem eX4_isIn_3 : Dj mX4_isIn 3 (.ifCond .lt 14) (14) 6 17 := ⟨by decide +kernel, rfl, rfl⟩
theorem eX4_isIn_6 : Dn mX4_isIn 6 (.lload_n 0) 1 7 := ⟨by decide +kernel, rfl⟩
theorem eX4_isIn_7 : Dn mX4_isIn 7 (.lload 4) 2 9 := ⟨by decide +kernel, rfl⟩
theorem eX4_isIn_9 : Dn mX4_isIn 9 (.lcmp) 1 10 := ⟨by decide +kernel, rfl⟩
theorem eX4_isIn_10 : Dj mX4_isIn 10 (.ifCond .gt 7) (7) 13 17 := ⟨by decide +kernel, rfl, rfl⟩
theorem eX4_isIn_13 : Dn mX4_isIn 13 (.iconst 1) 1 14 := ⟨by decide +kernel, rfl⟩
theorem eX4_isIn_14 : Dj mX4_isIn 14 (.goto 4) (4) 17 18 := ⟨by decide +kernel, rfl, rfl⟩
theorem eX4_isIn_17 : Dn mX4_isIn 17 (.iconst 0) 1 18 := ⟨by decide +kernel, rfl⟩
theorem eX4_isIn_18 : Dn mX4_isIn 18 (.ireturn) 1 19 := ⟨by decide +kernel, rfl⟩
theorem eX4_finds_0 : Dn mX4_finds 0 (.aload_n 0) 1 1 := ⟨by decide +kernel, rfl⟩
theorem eX4_finds_1 : Dn mX4_finds 1 (.getfield 22) 3 4 := ⟨by decide +kernel, rfl⟩
theorem eX4_finds_4 : Dn mX4_finds 4 (.iconst 0) 1 5 := ⟨by decide +kernel, rfl⟩
theorem eX4_finds_5 : Dn mX4_finds 5 (.dup2) 1 6 := ⟨by decide +kernel, rfl⟩
theorem eX4_finds_6 : Dn mX4_finds 6 (.iaload) 1 7 := ⟨by decide +kernel, rfl⟩
theorem eX4_finds_7 : Dn mX4_finds 7 (.iconst 1) 1 8 := ⟨by decide +kernel, rfl⟩
theorem eX4_finds_8 : Dn mX4_finds 8 (.iadd) 1 9 := ⟨by decide +kernel, rfl⟩
theorem eX4_finds_9 : Dn mX4_finds 9 (.iastore) 1 10 := ⟨by decide +kernel, rfl⟩
theorem eX4_finds_10 : Dn mX4_finds 10 (.aload_n 0) 1 11 := ⟨by decide +kernel, rfl⟩
theorem eX4_finds_11 : Dn mX4_finds 11 (.getfield 22) 3 14 := ⟨by decide +kernel, rfl⟩
theorem eX4_finds_14 : Dn mX4_finds 14 (.ldc 37) 2 16 := ⟨by decide +kernel, rfl⟩
theorem eX4_finds_16 : Dn mX4_finds 16 (.iload_n 1) 1 17 := ⟨by decide +kernel, rfl⟩
theorem eX4_finds_17 : Dn mX4_finds 17 (.isub) 1 18 := ⟨by decide +kernel, rfl⟩
theorem eX4_finds_18 : Dn mX4_finds 18 (.iconst 1) 1 19 := ⟨by decide +kernel, rfl⟩
theorem eX4_finds_19 : Dn mX4_finds 19 (.iadd) 1 20 := ⟨by decide +kernel, rfl⟩
theorem eX4_finds_20 : Dn mX4_finds 20 (.dup2) 1 21 := ⟨by decide +kernel, rfl⟩
theorem eX4_finds_21 : Dn mX4_finds 21 (.iaload) 1 22 := ⟨by decide +kernel, rfl⟩
theorem eX4_finds_22 : Dn mX4_finds 22 (.iconst 1) 1 23 := ⟨by decide +kernel, rfl⟩
theorem eX4_finds_23 : Dn mX4_finds 23 (.iadd) 1 24 := ⟨by decide +kernel, rfl⟩
theorem eX4_finds_24 : Dn mX4_finds 24 (.iastore) 1 25 := ⟨by decide +kernel, rfl⟩
theorem eX4_finds_25 : Dn mX4_finds 25 (.iload_n 1) 1 26 := ⟨by decide +kernel, rfl⟩
theorem eX4_finds_26 : Dn mX4_finds 26 (.ireturn) 1 27 := ⟨by decide +kernel, rfl⟩
theorem eX4_becomes_0 : Dn mX4_becomes 0 (.aload_n 0) 1 1 := ⟨by decide +kernel, rfl⟩
theorem eX4_becomes_1 : Dn mX4_becomes 1 (.getfield 7) 3 4 := ⟨by decide +kernel, rfl⟩
theorem eX4_becomes_4 : Dn mX4_becomes 4 (.iload_n 1) 1 5 := ⟨by decide +kernel, rfl⟩
theorem eX4_becomes_5 : Dn mX4_becomes 5 (.iaload) 1 6 := ⟨by decide +kernel, rfl⟩
theorem eX4_becomes_6 : Dn mX4_becomes 6 (.istore_n 3) 1 7 := ⟨by decide +kernel, rfl⟩
theorem eX4_becomes_7 : Dn mX4_becomes 7 (.aload_n 0) 1 8 := ⟨by decide +kernel, rfl⟩
theorem eX4_becomes_8 : Dn mX4_becomes 8 (.getfield 7) 3 11 := ⟨by decide +kernel, rfl⟩
theorem eX4_becomes_11 : Dn mX4_becomes 11 (.iload_n 1) 1 12 := ⟨by decide +kernel, rfl⟩
theorem eX4_becomes_12 : Dn mX4_becomes 12 (.iload_n 2) 1 13 := ⟨by decide +kernel, rfl⟩
theorem eX4_becomes_13 : Dn mX4_becomes 13 (.iastore) 1 14 := ⟨by decide +kernel, rfl⟩
theorem eX4_becomes_14 : Dn mX4_becomes 14 (.iload_n 3) 1 15 := ⟨by decide +kernel, rfl⟩
theorem eX4_becomes_15 : Dn mX4_becomes 15 (.ireturn) 1 16 := ⟨by decide +kernel, rfl⟩
theorem eX4_copyRow_0 : Dn mX4_copyRow 0 (.iconst 0) 1 1 := ⟨by decide +kernel, rfl⟩
theorem eX4_copyRow_1 : Dn mX4_copyRow 1 (.istore_n 2) 1 2 := ⟨by decide +kernel, rfl⟩
theorem eX4_copyRow_2 : Dn mX4_copyRow 2 (.iload_n 2) 1 3 := ⟨by decide +kernel, rfl⟩
theorem eX4_copyRow_3 : Dn mX4_copyRow 3 (.sipush 134) 3 6 := ⟨by decide +kernel, rfl⟩
theorem eX4_copyRow_6 : Dj mX4_copyRow 6 (.if_icmp .ge 15) (15) 9 21 := ⟨by decide +kernel, rfl, rfl⟩
theorem eX4_copyRow_9 : Dn mX4_copyRow 9 (.aload_n 1) 1 10 := ⟨by decide +kernel, rfl⟩
theorem eX4_copyRow_10 : Dn mX4_copyRow 10 (.iload_n 2) 1 11 := ⟨by decide +kernel, rfl⟩
theorem eX4_copyRow_11 : Dn mX4_copyRow 11 (.aload_n 0) 1 12 := ⟨by decide +kernel, rfl⟩
theorem eX4_copyRow_12 : Dn mX4_copyRow 12 (.iload_n 2) 1 13 := ⟨by decide +kernel, rfl⟩
theorem eX4_copyRow_13 : Dn mX4_copyRow 13 (.iaload) 1 14 := ⟨by decide +kernel, rfl⟩
theorem eX4_copyRow_14 : Dn mX4_copyRow 14 (.iastore) 1 15 := ⟨by decide +kernel, rfl⟩
theorem eX4_copyRow_15 : Dn mX4_copyRow 15 (.iinc 2 1) 3 18 := ⟨by decide +kernel, rfl⟩
theorem eX4_copyRow_18 : Dj mX4_copyRow 18 (.goto (-16)) (-16) 21 2 := ⟨by decide +kernel, rfl, rfl⟩
theorem eX4_copyRow_21 : Dn mX4_copyRow 21 (.return_) 1 22 := ⟨by decide +kernel, rfl⟩
theorem eX4_isSum_0 : Dn mX4_isSum 0 (.iload_n 0) 1 1 := ⟨by decide +kernel, rfl⟩
theorem eX4_isSum_1 : Dj mX4_isSum 1 (.ifCond .lt 13) (13) 4 14 := ⟨by decide +kernel, rfl, rfl⟩
theorem eX4_isSum_4 : Dn mX4_isSum 4 (.iload_n 0) 1 5 := ⟨by decide +kernel, rfl⟩
theorem eX4_isSum_5 : Dn mX4_isSum 5 (.bipush 8) 2 7 := ⟨by decide +kernel, rfl⟩
theorem eX4_isSum_7 : Dj mX4_isSum 7 (.if_icmp .ge 7) (7) 10 14 := ⟨by decide +kernel, rfl, rfl⟩
theorem eX4_isSum_10 : Dn mX4_isSum 10 (.iconst 1) 1 11 := ⟨by decide +kernel, rfl⟩
theorem eX4_isSum_11 : Dj mX4_isSum 11 (.goto 4) (4) 14 15 := ⟨by decide +kernel, rfl, rfl⟩
theorem eX4_isSum_14 : Dn mX4_isSum 14 (.iconst 0) 1 15 := ⟨by decide +kernel, rfl⟩
theorem eX4_isSum_15 : Dn mX4_isSum 15 (.ireturn) 1 16 := ⟨by decide +kernel, rfl⟩
theorem eX4_isChild_0 : Dn mX4_isChild 0 (.iload_n 1) 1 1 := ⟨by decide +kernel, rfl⟩
theorem eX4_isChild_1 : Dj mX4_isChild 1 (.ifCond .lt 17) (17) 4 18 := ⟨by decide +kernel, rfl, rfl⟩
theorem eX4_isChild_4 : Dn mX4_isChild 4 (.iload_n 1) 1 5 := ⟨by decide +kernel, rfl⟩
theorem eX4_isChild_5 : Dn mX4_isChild 5 (.aload_n 0) 1 6 := ⟨by decide +kernel, rfl⟩
theorem eX4_isChild_6 : Dn mX4_isChild 6 (.getfield 7) 3 9 := ⟨by decide +kernel, rfl⟩
theorem eX4_isChild_9 : Dn mX4_isChild 9 (.iconst 0) 1 10 := ⟨by decide +kernel, rfl⟩
theorem eX4_isChild_10 : Dn mX4_isChild 10 (.iaload) 1 11 := ⟨by decide +kernel, rfl⟩
theorem eX4_isChild_11 : Dj mX4_isChild 11 (.if_icmp .ge 7) (7) 14 18 := ⟨by decide +kernel, rfl, rfl⟩
theorem eX4_isChild_14 : Dn mX4_isChild 14 (.iconst 1) 1 15 := ⟨by decide +kernel, rfl⟩
theorem eX4_isChild_15 : Dj mX4_isChild 15 (.goto 4) (4) 18 19 := ⟨by decide +kernel, rfl, rfl⟩
theorem eX4_isChild_18 : Dn mX4_isChild 18 (.iconst 0) 1 19 := ⟨by decide +kernel, rfl⟩
theorem eX4_isChild_19 : Dn mX4_isChild 19 (.ireturn) 1 20 := ⟨by decide +kernel, rfl⟩
theorem eX4_at_0 : Dn mX4_at 0 (.bipush 12) 2 2 := ⟨by decide +kernel, rfl⟩
theorem eX4_at_2 : Dn mX4_at 2 (.bipush 14) 2 4 := ⟨by decide +kernel, rfl⟩
theorem eX4_at_4 : Dn mX4_at 4 (.iload_n 0) 1 5 := ⟨by decide +kernel, rfl⟩
theorem eX4_at_5 : Dn mX4_at 5 (.imul) 1 6 := ⟨by decide +kernel, rfl⟩
theorem eX4_at_6 : Dn mX4_at 6 (.iadd) 1 7 := ⟨by decide +kernel, rfl⟩
theorem eX4_at_7 : Dn mX4_at 7 (.iload_n 1) 1 8 := ⟨by decide +kernel, rfl⟩
theorem eX4_at_8 : Dn mX4_at 8 (.iadd) 1 9 := ⟨by decide +kernel, rfl⟩
theorem eX4_at_9 : Dn mX4_at 9 (.ireturn) 1 10 := ⟨by decide +kernel, rfl⟩
theorem eX4_its_0 : Dn mX4_its 0 (.aload_n 0) 1 1 := ⟨by decide +kernel, rfl⟩
theorem eX4_its_1 : Dn mX4_its 1 (.getfield 7) 3 4 := ⟨by decide +kernel, rfl⟩
theorem eX4_its_4 : Dn mX4_its 4 (.bipush 12) 2 6 := ⟨by decide +kernel, rfl⟩
theorem eX4_its_6 : Dn mX4_its 6 (.bipush 14) 2 8 := ⟨by decide +kernel, rfl⟩
theorem eX4_its_8 : Dn mX4_its 8 (.iload_n 1) 1 9 := ⟨by decide +kernel, rfl⟩
theorem eX4_its_9 : Dn mX4_its 9 (.imul) 1 10 := ⟨by decide +kernel, rfl⟩
theorem eX4_its_10 : Dn mX4_its 10 (.iadd) 1 11 := ⟨by decide +kernel, rfl⟩
theorem eX4_its_11 : Dn mX4_its 11 (.iload_n 2) 1 12 := ⟨by decide +kernel, rfl⟩
theorem eX4_its_12 : Dn mX4_its 12 (.iadd) 1 13 := ⟨by decide +kernel, rfl⟩
theorem eX4_its_13 : Dn mX4_its 13 (.iaload) 1 14 := ⟨by decide +kernel, rfl⟩
theorem eX4_its_14 : Dn mX4_its 14 (.ireturn) 1 15 := ⟨by decide +kernel, rfl⟩
theorem eX4_least_0 : Dn mX4_least 0 (.iload_n 0) 1 1 := ⟨by decide +kernel, rfl⟩
theorem eX4_least_1 : Dn mX4_least 1 (.iload_n 1) 1 2 := ⟨by decide +kernel, rfl⟩
theorem eX4_least_2 : Dj mX4_least 2 (.if_icmp .ge 7) (7) 5 9 := ⟨by decide +kernel, rfl, rfl⟩
theorem eX4_least_5 : Dn mX4_least 5 (.iload_n 0) 1 6 := ⟨by decide +kernel, rfl⟩
theorem eX4_least_6 : Dj mX4_least 6 (.goto 4) (4) 9 10 := ⟨by decide +kernel, rfl, rfl⟩
theorem eX4_least_9 : Dn mX4_least 9 (.iload_n 1) 1 10 := ⟨by decide +kernel, rfl⟩
theorem eX4_least_10 : Dn mX4_least 10 (.ireturn) 1 11 := ⟨by decide +kernel, rfl⟩
theorem eX4_greatest_0 : Dn mX4_greatest 0 (.iload_n 0) 1 1 := ⟨by decide +kernel, rfl⟩
theorem eX4_greatest_1 : Dn mX4_greatest 1 (.iload_n 1) 1 2 := ⟨by decide +kernel, rfl⟩
theorem eX4_greatest_2 : Dj mX4_greatest 2 (.if_icmp .le 7) (7) 5 9 := ⟨by decide +kernel, rfl, rfl⟩
theorem eX4_greatest_5 : Dn mX4_greatest 5 (.iload_n 0) 1 6 := ⟨by decide +kernel, rfl⟩
theorem eX4_greatest_6 : Dj mX4_greatest 6 (.goto 4) (4) 9 10 := ⟨by decide +kernel, rfl, rfl⟩
theorem eX4_greatest_9 : Dn mX4_greatest 9 (.iload_n 1) 1 10 := ⟨by decide +kernel, rfl⟩
theorem eX4_greatest_10 : Dn mX4_greatest 10 (.ireturn) 1 11 := ⟨by decide +kernel, rfl⟩
theorem eX4_orNone_0 : Dn mX4_orNone 0 (.iload_n 1) 1 1 := ⟨by decide +kernel, rfl⟩
theorem eX4_orNone_1 : Dj mX4_orNone 1 (.ifCond .ge 12) (12) 4 13 := ⟨by decide +kernel, rfl, rfl⟩
theorem eX4_orNone_4 : Dn mX4_orNone 4 (.aload_n 0) 1 5 := ⟨by decide +kernel, rfl⟩
theorem eX4_orNone_5 : Dn mX4_orNone 5 (.ldc 38) 2 7 := ⟨by decide +kernel, rfl⟩
theorem eX4_orNone_7 : Dn mX4_orNone 7 (.invokevirtual 39) 3 10 := ⟨by decide +kernel, rfl⟩
theorem eX4_orNone_10 : Dj mX4_orNone 10 (.goto 4) (4) 13 14 := ⟨by decide +kernel, rfl, rfl⟩
theorem eX4_orNone_13 : Dn mX4_orNone 13 (.iload_n 1) 1 14 := ⟨by decide +kernel, rfl⟩
theorem eX4_orNone_14 : Dn mX4_orNone 14 (.ireturn) 1 15 := ⟨by decide +kernel, rfl⟩
theorem eX4_many_0 : Dn mX4_many 0 (.iconst 0) 1 1 := ⟨by decide +kernel, rfl⟩
theorem eX4_many_1 : Dn mX4_many 1 (.istore_n 1) 1 2 := ⟨by decide +kernel, rfl⟩
theorem eX4_many_2 : Dn mX4_many 2 (.iload_n 0) 1 3 := ⟨by decide +kernel, rfl⟩
theorem eX4_many_3 : Dn mX4_many 3 (.istore_n 2) 1 4 := ⟨by decide +kernel, rfl⟩
theorem eX4_many_4 : Dn mX4_many 4 (.iload_n 2) 1 5 := ⟨by decide +kernel, rfl⟩
theorem eX4_many_5 : Dj mX4_many 5 (.ifCond .eq 15) (15) 8 20 := ⟨by decide +kernel, rfl, rfl⟩
theorem eX4_many_8 : Dn mX4_many 8 (.iinc 1 1) 3 11 := ⟨by decide +kernel, rfl⟩
theorem eX4_many_11 : Dn mX4_many 11 (.iload_n 2) 1 12 := ⟨by decide +kernel, rfl⟩
theorem eX4_many_12 : Dn mX4_many 12 (.iload_n 2) 1 13 := ⟨by decide +kernel, rfl⟩
theorem eX4_many_13 : Dn mX4_many 13 (.iconst 1) 1 14 := ⟨by decide +kernel, rfl⟩
theorem eX4_many_14 : Dn mX4_many 14 (.isub) 1 15 := ⟨by decide +kernel, rfl⟩
theorem eX4_many_15 : Dn mX4_many 15 (.iand) 1 16 := ⟨by decide +kernel, rfl⟩
theorem eX4_many_16 : Dn mX4_many 16 (.istore_n 2) 1 17 := ⟨by decide +kernel, rfl⟩
theorem eX4_many_17 : Dj mX4_many 17 (.goto (-13)) (-13) 20 4 := ⟨by decide +kernel, rfl, rfl⟩
theorem eX4_many_20 : Dn mX4_many 20 (.iload_n 1) 1 21 := ⟨by decide +kernel, rfl⟩
theorem eX4_many_21 : Dn mX4_many 21 (.ireturn) 1 22 := ⟨by decide +kernel, rfl⟩
theorem eX4_right_0 : Dn mX4_right 0 (.iload_n 1) 1 1 := ⟨by decide +kernel, rfl⟩
theorem eX4_right_1 : Dn mX4_right 1 (.invokestatic 43) 3 4 := ⟨by decide +kernel, rfl⟩
theorem eX4_right_4 : Dj mX4_right 4 (.ifCond .eq 26) (26) 7 30 := ⟨by decide +kernel, rfl, rfl⟩
theorem eX4_right_7 : Dn mX4_right 7 (.iload_n 2) 1 8 := ⟨by decide +kernel, rfl⟩
theorem eX4_right_8 : Dn mX4_right 8 (.i2l) 1 9 := ⟨by decide +kernel, rfl⟩
theorem eX4_right_9 : Dn mX4_right 9 (.lconst 0) 1 10 := ⟨by decide +kernel, rfl⟩
theorem eX4_right_10 : Dn mX4_right 10 (.ldc2_w 47) 3 13 := ⟨by decide +kernel, rfl⟩
theorem eX4_right_13 : Dn mX4_right 13 (.invokestatic 49) 3 16 := ⟨by decide +kernel, rfl⟩
theorem eX4_right_16 : Dj mX4_right 16 (.ifCond .eq 14) (14) 19 30 := ⟨by decide +kernel, rfl, rfl⟩
theorem eX4_right_19 : Dn mX4_right 19 (.aload_n 0) 1 20 := ⟨by decide +kernel, rfl⟩
theorem eX4_right_20 : Dn mX4_right 20 (.iconst 4) 1 21 := ⟨by decide +kernel, rfl⟩
theorem eX4_right_21 : Dn mX4_right 21 (.iload_n 1) 1 22 := ⟨by decide +kernel, rfl⟩
theorem eX4_right_22 : Dn mX4_right 22 (.iadd) 1 23 := ⟨by decide +kernel, rfl⟩
theorem eX4_right_23 : Dn mX4_right 23 (.iload_n 2) 1 24 := ⟨by decide +kernel, rfl⟩
theorem eX4_right_24 : Dn mX4_right 24 (.invokevirtual 53) 3 27 := ⟨by decide +kernel, rfl⟩
theorem eX4_right_27 : Dj mX4_right 27 (.goto 9) (9) 30 36 := ⟨by decide +kernel, rfl, rfl⟩
theorem eX4_right_30 : Dn mX4_right 30 (.aload_n 0) 1 31 := ⟨by decide +kernel, rfl⟩
theorem eX4_right_31 : Dn mX4_right 31 (.ldc 37) 2 33 := ⟨by decide +kernel, rfl⟩
theorem eX4_right_33 : Dn mX4_right 33 (.invokevirtual 39) 3 36 := ⟨by decide +kernel, rfl⟩
theorem eX4_right_36 : Dn mX4_right 36 (.ireturn) 1 37 := ⟨by decide +kernel, rfl⟩
theorem eX4_isRight_0 : Dn mX4_isRight 0 (.iload_n 1) 1 1 := ⟨by decide +kernel, rfl⟩
theorem eX4_isRight_1 : Dn mX4_isRight 1 (.invokestatic 43) 3 4 := ⟨by decide +kernel, rfl⟩
theorem eX4_isRight_4 : Dj mX4_isRight 4 (.ifCond .eq 14) (14) 7 18 := ⟨by decide +kernel, rfl, rfl⟩
theorem eX4_isRight_7 : Dn mX4_isRight 7 (.aload_n 0) 1 8 := ⟨by decide +kernel, rfl⟩
theorem eX4_isRight_8 : Dn mX4_isRight 8 (.getfield 7) 3 11 := ⟨by decide +kernel, rfl⟩
theorem eX4_isRight_11 : Dn mX4_isRight 11 (.iconst 4) 1 12 := ⟨by decide +kernel, rfl⟩
theorem eX4_isRight_12 : Dn mX4_isRight 12 (.iload_n 1) 1 13 := ⟨by decide +kernel, rfl⟩
theorem eX4_isRight_13 : Dn mX4_isRight 13 (.iadd) 1 14 := ⟨by decide +kernel, rfl⟩
theorem eX4_isRight_14 : Dn mX4_isRight 14 (.iaload) 1 15 := ⟨by decide +kernel, rfl⟩
theorem eX4_isRight_15 : Dj mX4_isRight 15 (.goto 9) (9) 18 24 := ⟨by decide +kernel, rfl, rfl⟩
theorem eX4_isRight_18 : Dn mX4_isRight 18 (.aload_n 0) 1 19 := ⟨by decide +kernel, rfl⟩
theorem eX4_isRight_19 : Dn mX4_isRight 19 (.ldc 37) 2 21 := ⟨by decide +kernel, rfl⟩
theorem eX4_isRight_21 : Dn mX4_isRight 21 (.invokevirtual 39) 3 24 := ⟨by decide +kernel, rfl⟩
theorem eX4_isRight_24 : Dn mX4_isRight 24 (.ireturn) 1 25 := ⟨by decide +kernel, rfl⟩
theorem eX4_limit_0 : Dn mX4_limit 0 (.iload_n 1) 1 1 := ⟨by decide +kernel, rfl⟩
theorem eX4_limit_1 : Dn mX4_limit 1 (.i2l) 1 2 := ⟨by decide +kernel, rfl⟩
theorem eX4_limit_2 : Dn mX4_limit 2 (.lconst 1) 1 3 := ⟨by decide +kernel, rfl⟩
theorem eX4_limit_3 : Dn mX4_limit 3 (.ldc2_w 57) 3 6 := ⟨by decide +kernel, rfl⟩
theorem eX4_limit_6 : Dn mX4_limit 6 (.invokestatic 49) 3 9 := ⟨by decide +kernel, rfl⟩
theorem eX4_limit_9 : Dj mX4_limit 9 (.ifCond .eq 12) (12) 12 21 := ⟨by decide +kernel, rfl, rfl⟩
theorem eX4_limit_12 : Dn mX4_limit 12 (.aload_n 0) 1 13 := ⟨by decide +kernel, rfl⟩
theorem eX4_limit_13 : Dn mX4_limit 13 (.iconst 3) 1 14 := ⟨by decide +kernel, rfl⟩
theorem eX4_limit_14 : Dn mX4_limit 14 (.iload_n 1) 1 15 := ⟨by decide +kernel, rfl⟩
theorem eX4_limit_15 : Dn mX4_limit 15 (.invokevirtual 53) 3 18 := ⟨by decide +kernel, rfl⟩
theorem eX4_limit_18 : Dj mX4_limit 18 (.goto 9) (9) 21 27 := ⟨by decide +kernel, rfl, rfl⟩
theorem eX4_limit_21 : Dn mX4_limit 21 (.aload_n 0) 1 22 := ⟨by decide +kernel, rfl⟩
theorem eX4_limit_22 : Dn mX4_limit 22 (.ldc 37) 2 24 := ⟨by decide +kernel, rfl⟩
theorem eX4_limit_24 : Dn mX4_limit 24 (.invokevirtual 39) 3 27 := ⟨by decide +kernel, rfl⟩
theorem eX4_limit_27 : Dn mX4_limit 27 (.ireturn) 1 28 := ⟨by decide +kernel, rfl⟩
theorem eX4_comes_0 : Dn mX4_comes 0 (.aload_n 0) 1 1 := ⟨by decide +kernel, rfl⟩
theorem eX4_comes_1 : Dn mX4_comes 1 (.getfield 7) 3 4 := ⟨by decide +kernel, rfl⟩
theorem eX4_comes_4 : Dn mX4_comes 4 (.iconst 0) 1 5 := ⟨by decide +kernel, rfl⟩
theorem eX4_comes_5 : Dn mX4_comes 5 (.iaload) 1 6 := ⟨by decide +kernel, rfl⟩
theorem eX4_comes_6 : Dn mX4_comes 6 (.istore_n 3) 1 7 := ⟨by decide +kernel, rfl⟩
theorem eX4_comes_7 : Dn mX4_comes 7 (.aload_n 0) 1 8 := ⟨by decide +kernel, rfl⟩
theorem eX4_comes_8 : Dn mX4_comes 8 (.getfield 7) 3 11 := ⟨by decide +kernel, rfl⟩
theorem eX4_comes_11 : Dn mX4_comes 11 (.iload_n 3) 1 12 := ⟨by decide +kernel, rfl⟩
theorem eX4_comes_12 : Dn mX4_comes 12 (.iconst 0) 1 13 := ⟨by decide +kernel, rfl⟩
theorem eX4_comes_13 : Dn mX4_comes 13 (.invokestatic 59) 3 16 := ⟨by decide +kernel, rfl⟩
theorem eX4_comes_16 : Dn mX4_comes 16 (.iload_n 1) 1 17 := ⟨by decide +kernel, rfl⟩
theorem eX4_comes_17 : Dn mX4_comes 17 (.iastore) 1 18 := ⟨by decide +kernel, rfl⟩
theorem eX4_comes_18 : Dn mX4_comes 18 (.aload_n 0) 1 19 := ⟨by decide +kernel, rfl⟩
theorem eX4_comes_19 : Dn mX4_comes 19 (.getfield 7) 3 22 := ⟨by decide +kernel, rfl⟩
theorem eX4_comes_22 : Dn mX4_comes 22 (.iload_n 3) 1 23 := ⟨by decide +kernel, rfl⟩
theorem eX4_comes_23 : Dn mX4_comes 23 (.iconst 1) 1 24 := ⟨by decide +kernel, rfl⟩
theorem eX4_comes_24 : Dn mX4_comes 24 (.invokestatic 59) 3 27 := ⟨by decide +kernel, rfl⟩
theorem eX4_comes_27 : Dn mX4_comes 27 (.iload_n 2) 1 28 := ⟨by decide +kernel, rfl⟩
theorem eX4_comes_28 : Dn mX4_comes 28 (.iastore) 1 29 := ⟨by decide +kernel, rfl⟩
theorem eX4_comes_29 : Dn mX4_comes 29 (.aload_n 0) 1 30 := ⟨by decide +kernel, rfl⟩
theorem eX4_comes_30 : Dn mX4_comes 30 (.getfield 7) 3 33 := ⟨by decide +kernel, rfl⟩
theorem eX4_comes_33 : Dn mX4_comes 33 (.iload_n 3) 1 34 := ⟨by decide +kernel, rfl⟩
theorem eX4_comes_34 : Dn mX4_comes 34 (.iconst 2) 1 35 := ⟨by decide +kernel, rfl⟩
theorem eX4_comes_35 : Dn mX4_comes 35 (.invokestatic 59) 3 38 := ⟨by decide +kernel, rfl⟩
theorem eX4_comes_38 : Dn mX4_comes 38 (.iconst (-1)) 1 39 := ⟨by decide +kernel, rfl⟩
theorem eX4_comes_39 : Dn mX4_comes 39 (.iastore) 1 40 := ⟨by decide +kernel, rfl⟩
theorem eX4_comes_40 : Dn mX4_comes 40 (.aload_n 0) 1 41 := ⟨by decide +kernel, rfl⟩
theorem eX4_comes_41 : Dn mX4_comes 41 (.getfield 7) 3 44 := ⟨by decide +kernel, rfl⟩
theorem eX4_comes_44 : Dn mX4_comes 44 (.iload_n 3) 1 45 := ⟨by decide +kernel, rfl⟩
theorem eX4_comes_45 : Dn mX4_comes 45 (.iconst 3) 1 46 := ⟨by decide +kernel, rfl⟩
theorem eX4_comes_46 : Dn mX4_comes 46 (.invokestatic 59) 3 49 := ⟨by decide +kernel, rfl⟩
theorem eX4_comes_49 : Dn mX4_comes 49 (.iconst 0) 1 50 := ⟨by decide +kernel, rfl⟩
theorem eX4_comes_50 : Dn mX4_comes 50 (.iastore) 1 51 := ⟨by decide +kernel, rfl⟩
theorem eX4_comes_51 : Dn mX4_comes 51 (.aload_n 0) 1 52 := ⟨by decide +kernel, rfl⟩
theorem eX4_comes_52 : Dn mX4_comes 52 (.getfield 7) 3 55 := ⟨by decide +kernel, rfl⟩
theorem eX4_comes_55 : Dn mX4_comes 55 (.iload_n 3) 1 56 := ⟨by decide +kernel, rfl⟩
theorem eX4_comes_56 : Dn mX4_comes 56 (.iconst 4) 1 57 := ⟨by decide +kernel, rfl⟩
theorem eX4_comes_57 : Dn mX4_comes 57 (.invokestatic 59) 3 60 := ⟨by decide +kernel, rfl⟩
theorem eX4_comes_60 : Dn mX4_comes 60 (.iconst 5) 1 61 := ⟨by decide +kernel, rfl⟩
theorem eX4_comes_61 : Dn mX4_comes 61 (.iastore) 1 62 := ⟨by decide +kernel, rfl⟩
theorem eX4_comes_62 : Dn mX4_comes 62 (.aload_n 0) 1 63 := ⟨by decide +kernel, rfl⟩
theorem eX4_comes_63 : Dn mX4_comes 63 (.getfield 7) 3 66 := ⟨by decide +kernel, rfl⟩
theorem eX4_comes_66 : Dn mX4_comes 66 (.iload_n 3) 1 67 := ⟨by decide +kernel, rfl⟩
theorem eX4_comes_67 : Dn mX4_comes 67 (.iconst 5) 1 68 := ⟨by decide +kernel, rfl⟩
theorem eX4_comes_68 : Dn mX4_comes 68 (.invokestatic 59) 3 71 := ⟨by decide +kernel, rfl⟩
theorem eX4_comes_71 : Dn mX4_comes 71 (.iconst 0) 1 72 := ⟨by decide +kernel, rfl⟩
theorem eX4_comes_72 : Dn mX4_comes 72 (.iastore) 1 73 := ⟨by decide +kernel, rfl⟩
theorem eX4_comes_73 : Dn mX4_comes 73 (.iconst 0) 1 74 := ⟨by decide +kernel, rfl⟩
theorem eX4_comes_74 : Dn mX4_comes 74 (.istore 4) 2 76 := ⟨by decide +kernel, rfl⟩
theorem eX4_comes_76 : Dn mX4_comes 76 (.iload 4) 2 78 := ⟨by decide +kernel, rfl⟩
theorem eX4_comes_78 : Dn mX4_comes 78 (.bipush 8) 2 80 := ⟨by decide +kernel, rfl⟩
theorem eX4_comes_80 : Dj mX4_comes 80 (.if_icmp .ge 24) (24) 83 104 := ⟨by decide +kernel, rfl, rfl⟩
theorem eX4_comes_83 : Dn mX4_comes 83 (.aload_n 0) 1 84 := ⟨by decide +kernel, rfl⟩
theorem eX4_comes_84 : Dn mX4_comes 84 (.getfield 7) 3 87 := ⟨by decide +kernel, rfl⟩
theorem eX4_comes_87 : Dn mX4_comes 87 (.iload_n 3) 1 88 := ⟨by decide +kernel, rfl⟩
theorem eX4_comes_88 : Dn mX4_comes 88 (.bipush 6) 2 90 := ⟨by decide +kernel, rfl⟩
theorem eX4_comes_90 : Dn mX4_comes 90 (.iload 4) 2 92 := ⟨by decide +kernel, rfl⟩
theorem eX4_comes_92 : Dn mX4_comes 92 (.iadd) 1 93 := ⟨by decide +kernel, rfl⟩
theorem eX4_comes_93 : Dn mX4_comes 93 (.invokestatic 59) 3 96 := ⟨by decide +kernel, rfl⟩
theorem eX4_comes_96 : Dn mX4_comes 96 (.iconst (-1)) 1 97 := ⟨by decide +kernel, rfl⟩
theorem eX4_comes_97 : Dn mX4_comes 97 (.iastore) 1 98 := ⟨by decide +kernel, rfl⟩
theorem eX4_comes_98 : Dn mX4_comes 98 (.iinc 4 1) 3 101 := ⟨by decide +kernel, rfl⟩
theorem eX4_comes_101 : Dj mX4_comes 101 (.goto (-25)) (-25) 104 76 := ⟨by decide +kernel, rfl, rfl⟩
theorem eX4_comes_104 : Dn mX4_comes 104 (.aload_n 0) 1 105 := ⟨by decide +kernel, rfl⟩
theorem eX4_comes_105 : Dn mX4_comes 105 (.getfield 7) 3 108 := ⟨by decide +kernel, rfl⟩
theorem eX4_comes_108 : Dn mX4_comes 108 (.iconst 0) 1 109 := ⟨by decide +kernel, rfl⟩
theorem eX4_comes_109 : Dn mX4_comes 109 (.dup2) 1 110 := ⟨by decide +kernel, rfl⟩
theorem eX4_comes_110 : Dn mX4_comes 110 (.iaload) 1 111 := ⟨by decide +kernel, rfl⟩
theorem eX4_comes_111 : Dn mX4_comes 111 (.iconst 1) 1 112 := ⟨by decide +kernel, rfl⟩
theorem eX4_comes_112 : Dn mX4_comes 112 (.iadd) 1 113 := ⟨by decide +kernel, rfl⟩
theorem eX4_comes_113 : Dn mX4_comes 113 (.iastore) 1 114 := ⟨by decide +kernel, rfl⟩
theorem eX4_comes_114 : Dn mX4_comes 114 (.return_) 1 115 := ⟨by decide +kernel, rfl⟩
theorem eX4_child_0 : Dn mX4_child 0 (.iload_n 1) 1 1 := ⟨by decide +kernel, rfl⟩
theorem eX4_child_1 : Dn mX4_child 1 (.i2l) 1 2 := ⟨by decide +kernel, rfl⟩
theorem eX4_child_2 : Dn mX4_child 2 (.lconst 0) 1 3 := ⟨by decide +kernel, rfl⟩
theorem eX4_child_3 : Dn mX4_child 3 (.ldc2_w 62) 3 6 := ⟨by decide +kernel, rfl⟩
theorem eX4_child_6 : Dn mX4_child 6 (.invokestatic 49) 3 9 := ⟨by decide +kernel, rfl⟩
theorem eX4_child_9 : Dj mX4_child 9 (.ifCond .eq 15) (15) 12 24 := ⟨by decide +kernel, rfl, rfl⟩
theorem eX4_child_12 : Dn mX4_child 12 (.iload_n 2) 1 13 := ⟨by decide +kernel, rfl⟩
theorem eX4_child_13 : Dn mX4_child 13 (.i2l) 1 14 := ⟨by decide +kernel, rfl⟩
theorem eX4_child_14 : Dn mX4_child 14 (.lconst 0) 1 15 := ⟨by decide +kernel, rfl⟩
theorem eX4_child_15 : Dn mX4_child 15 (.ldc2_w 64) 3 18 := ⟨by decide +kernel, rfl⟩
theorem eX4_child_18 : Dn mX4_child 18 (.invokestatic 49) 3 21 := ⟨by decide +kernel, rfl⟩
theorem eX4_child_21 : Dj mX4_child 21 (.ifCond .ne 10) (10) 24 31 := ⟨by decide +kernel, rfl, rfl⟩
theorem eX4_child_24 : Dn mX4_child 24 (.aload_n 0) 1 25 := ⟨by decide +kernel, rfl⟩
theorem eX4_child_25 : Dn mX4_child 25 (.ldc 37) 2 27 := ⟨by decide +kernel, rfl⟩
theorem eX4_child_27 : Dn mX4_child 27 (.invokevirtual 39) 3 30 := ⟨by decide +kernel, rfl⟩
theorem eX4_child_30 : Dn mX4_child 30 (.ireturn) 1 31 := ⟨by decide +kernel, rfl⟩
theorem eX4_child_31 : Dn mX4_child 31 (.aload_n 0) 1 32 := ⟨by decide +kernel, rfl⟩
theorem eX4_child_32 : Dn mX4_child 32 (.getfield 7) 3 35 := ⟨by decide +kernel, rfl⟩
theorem eX4_child_35 : Dn mX4_child 35 (.iconst 0) 1 36 := ⟨by decide +kernel, rfl⟩
theorem eX4_child_36 : Dn mX4_child 36 (.iaload) 1 37 := ⟨by decide +kernel, rfl⟩
theorem eX4_child_37 : Dn mX4_child 37 (.bipush 8) 2 39 := ⟨by decide +kernel, rfl⟩
theorem eX4_child_39 : Dj mX4_child 39 (.if_icmp .ne 10) (10) 42 49 := ⟨by decide +kernel, rfl, rfl⟩
theorem eX4_child_42 : Dn mX4_child 42 (.aload_n 0) 1 43 := ⟨by decide +kernel, rfl⟩
theorem eX4_child_43 : Dn mX4_child 43 (.ldc 66) 2 45 := ⟨by decide +kernel, rfl⟩
theorem eX4_child_45 : Dn mX4_child 45 (.invokevirtual 39) 3 48 := ⟨by decide +kernel, rfl⟩
theorem eX4_child_48 : Dn mX4_child 48 (.ireturn) 1 49 := ⟨by decide +kernel, rfl⟩
theorem eX4_child_49 : Dn mX4_child 49 (.aload_n 0) 1 50 := ⟨by decide +kernel, rfl⟩
theorem eX4_child_50 : Dn mX4_child 50 (.iload_n 1) 1 51 := ⟨by decide +kernel, rfl⟩
theorem eX4_child_51 : Dn mX4_child 51 (.iload_n 2) 1 52 := ⟨by decide +kernel, rfl⟩
theorem eX4_child_52 : Dn mX4_child 52 (.invokevirtual 67) 3 55 := ⟨by decide +kernel, rfl⟩
theorem eX4_child_55 : Dn mX4_child 55 (.aload_n 0) 1 56 := ⟨by decide +kernel, rfl⟩
theorem eX4_child_56 : Dn mX4_child 56 (.getfield 7) 3 59 := ⟨by decide +kernel, rfl⟩
theorem eX4_child_59 : Dn mX4_child 59 (.iconst 0) 1 60 := ⟨by decide +kernel, rfl⟩
theorem eX4_child_60 : Dn mX4_child 60 (.iaload) 1 61 := ⟨by decide +kernel, rfl⟩
theorem eX4_child_61 : Dn mX4_child 61 (.iconst 1) 1 62 := ⟨by decide +kernel, rfl⟩
theorem eX4_child_62 : Dn mX4_child 62 (.isub) 1 63 := ⟨by decide +kernel, rfl⟩
theorem eX4_child_63 : Dn mX4_child 63 (.ireturn) 1 64 := ⟨by decide +kernel, rfl⟩
theorem eX4_pays_0 : Dn mX4_pays 0 (.iload_n 0) 1 1 := ⟨by decide +kernel, rfl⟩
theorem eX4_pays_1 : Dn mX4_pays 1 (.tableswitch 39 2 6 #[35, 35, 35, 37, 37]) 35 36 := ⟨by decide +kernel, rfl⟩
theorem eX4_pays_36 : Dn mX4_pays 36 (.iconst 2) 1 37 := ⟨by decide +kernel, rfl⟩
theorem eX4_pays_37 : Dn mX4_pays 37 (.ireturn) 1 38 := ⟨by decide +kernel, rfl⟩
theorem eX4_pays_38 : Dn mX4_pays 38 (.iconst 0) 1 39 := ⟨by decide +kernel, rfl⟩
theorem eX4_pays_39 : Dn mX4_pays 39 (.ireturn) 1 40 := ⟨by decide +kernel, rfl⟩
theorem eX4_pays_40 : Dn mX4_pays 40 (.iconst 1) 1 41 := ⟨by decide +kernel, rfl⟩
theorem eX4_pays_41 : Dn mX4_pays 41 (.ireturn) 1 42 := ⟨by decide +kernel, rfl⟩
theorem eX4_lends_0 : Dn mX4_lends 0 (.aload_n 0) 1 1 := ⟨by decide +kernel, rfl⟩
theorem eX4_lends_1 : Dn mX4_lends 1 (.iload_n 1) 1 2 := ⟨by decide +kernel, rfl⟩
theorem eX4_lends_2 : Dn mX4_lends 2 (.iconst 0) 1 3 := ⟨by decide +kernel, rfl⟩
theorem eX4_lends_3 : Dn mX4_lends 3 (.invokevirtual 71) 3 6 := ⟨by decide +kernel, rfl⟩
theorem eX4_lends_6 : Dn mX4_lends 6 (.tableswitch 62 4 6 #[26, 43, 45]) 26 32 := ⟨by decide +kernel, rfl⟩
theorem eX4_lends_32 : Dn mX4_lends 32 (.aload_n 0) 1 33 := ⟨by decide +kernel, rfl⟩
theorem eX4_lends_33 : Dn mX4_lends 33 (.getfield 7) 3 36 := ⟨by decide +kernel, rfl⟩
theorem eX4_lends_36 : Dn mX4_lends 36 (.iconst 1) 1 37 := ⟨by decide +kernel, rfl⟩
theorem eX4_lends_37 : Dn mX4_lends 37 (.iaload) 1 38 := ⟨by decide +kernel, rfl⟩
theorem eX4_lends_38 : Dn mX4_lends 38 (.iconst 2) 1 39 := ⟨by decide +kernel, rfl⟩
theorem eX4_lends_39 : Dn mX4_lends 39 (.irem) 1 40 := ⟨by decide +kernel, rfl⟩
theorem eX4_lends_40 : Dj mX4_lends 40 (.ifCond .ne 7) (7) 43 47 := ⟨by decide +kernel, rfl, rfl⟩
theorem eX4_lends_43 : Dn mX4_lends 43 (.iconst 1) 1 44 := ⟨by decide +kernel, rfl⟩
theorem eX4_lends_44 : Dj mX4_lends 44 (.goto 4) (4) 47 48 := ⟨by decide +kernel, rfl, rfl⟩
theorem eX4_lends_47 : Dn mX4_lends 47 (.iconst 0) 1 48 := ⟨by decide +kernel, rfl⟩
theorem eX4_lends_48 : Dn mX4_lends 48 (.ireturn) 1 49 := ⟨by decide +kernel, rfl⟩
theorem eX4_lends_49 : Dn mX4_lends 49 (.iconst 0) 1 50 := ⟨by decide +kernel, rfl⟩
theorem eX4_lends_50 : Dn mX4_lends 50 (.ireturn) 1 51 := ⟨by decide +kernel, rfl⟩
theorem eX4_lends_51 : Dn mX4_lends 51 (.aload_n 0) 1 52 := ⟨by decide +kernel, rfl⟩
theorem eX4_lends_52 : Dn mX4_lends 52 (.iload_n 1) 1 53 := ⟨by decide +kernel, rfl⟩
theorem eX4_lends_53 : Dn mX4_lends 53 (.iconst 4) 1 54 := ⟨by decide +kernel, rfl⟩
theorem eX4_lends_54 : Dn mX4_lends 54 (.invokevirtual 71) 3 57 := ⟨by decide +kernel, rfl⟩
theorem eX4_lends_57 : Dn mX4_lends 57 (.bipush 20) 2 59 := ⟨by decide +kernel, rfl⟩
theorem eX4_lends_59 : Dj mX4_lends 59 (.if_icmp .ge 7) (7) 62 66 := ⟨by decide +kernel, rfl, rfl⟩
theorem eX4_lends_62 : Dn mX4_lends 62 (.iconst 1) 1 63 := ⟨by decide +kernel, rfl⟩
theorem eX4_lends_63 : Dj mX4_lends 63 (.goto 4) (4) 66 67 := ⟨by decide +kernel, rfl, rfl⟩
theorem eX4_lends_66 : Dn mX4_lends 66 (.iconst 0) 1 67 := ⟨by decide +kernel, rfl⟩
theorem eX4_lends_67 : Dn mX4_lends 67 (.ireturn) 1 68 := ⟨by decide +kernel, rfl⟩
theorem eX4_lends_68 : Dn mX4_lends 68 (.iconst 1) 1 69 := ⟨by decide +kernel, rfl⟩
theorem eX4_lends_69 : Dn mX4_lends 69 (.ireturn) 1 70 := ⟨by decide +kernel, rfl⟩
theorem eX4_oneForSeven_0 : Dn mX4_oneForSeven 0 (.iload_n 0) 1 1 := ⟨by decide +kernel, rfl⟩
theorem eX4_oneForSeven_1 : Dn mX4_oneForSeven 1 (.bipush 7) 2 3 := ⟨by decide +kernel, rfl⟩
theorem eX4_oneForSeven_3 : Dj mX4_oneForSeven 3 (.if_icmp .ne 7) (7) 6 10 := ⟨by decide +kernel, rfl, rfl⟩
theorem eX4_oneForSeven_6 : Dn mX4_oneForSeven 6 (.iconst 1) 1 7 := ⟨by decide +kernel, rfl⟩
theorem eX4_oneForSeven_7 : Dj mX4_oneForSeven 7 (.goto 4) (4) 10 11 := ⟨by decide +kernel, rfl, rfl⟩
theorem eX4_oneForSeven_10 : Dn mX4_oneForSeven 10 (.iload_n 0) 1 11 := ⟨by decide +kernel, rfl⟩
theorem eX4_oneForSeven_11 : Dn mX4_oneForSeven 11 (.ireturn) 1 12 := ⟨by decide +kernel, rfl⟩
theorem eX4_slipsOf_0 : Dn mX4_slipsOf 0 (.iload_n 3) 1 1 := ⟨by decide +kernel, rfl⟩
theorem eX4_slipsOf_1 : Dj mX4_slipsOf 1 (.ifCond .ge 5) (5) 4 6 := ⟨by decide +kernel, rfl, rfl⟩
theorem eX4_slipsOf_4 : Dn mX4_slipsOf 4 (.iconst (-1)) 1 5 := ⟨by decide +kernel, rfl⟩
theorem eX4_slipsOf_5 : Dn mX4_slipsOf 5 (.ireturn) 1 6 := ⟨by decide +kernel, rfl⟩
theorem eX4_slipsOf_6 : Dn mX4_slipsOf 6 (.iload_n 2) 1 7 := ⟨by decide +kernel, rfl⟩
theorem eX4_slipsOf_7 : Dn mX4_slipsOf 7 (.iconst 2) 1 8 := ⟨by decide +kernel, rfl⟩
theorem eX4_slipsOf_8 : Dn mX4_slipsOf 8 (.irem) 1 9 := ⟨by decide +kernel, rfl⟩
theorem eX4_slipsOf_9 : Dn mX4_slipsOf 9 (.iconst 1) 1 10 := ⟨by decide +kernel, rfl⟩
theorem eX4_slipsOf_10 : Dj mX4_slipsOf 10 (.if_icmp .ne 18) (18) 13 28 := ⟨by decide +kernel, rfl, rfl⟩
theorem eX4_slipsOf_13 : Dn mX4_slipsOf 13 (.iload_n 3) 1 14 := ⟨by decide +kernel, rfl⟩
theorem eX4_slipsOf_14 : Dn mX4_slipsOf 14 (.bipush 10) 2 16 := ⟨by decide +kernel, rfl⟩
theorem eX4_slipsOf_16 : Dn mX4_slipsOf 16 (.irem) 1 17 := ⟨by decide +kernel, rfl⟩
theorem eX4_slipsOf_17 : Dn mX4_slipsOf 17 (.bipush 10) 2 19 := ⟨by decide +kernel, rfl⟩
theorem eX4_slipsOf_19 : Dn mX4_slipsOf 19 (.imul) 1 20 := ⟨by decide +kernel, rfl⟩
theorem eX4_slipsOf_20 : Dn mX4_slipsOf 20 (.iload_n 3) 1 21 := ⟨by decide +kernel, rfl⟩
theorem eX4_slipsOf_21 : Dn mX4_slipsOf 21 (.bipush 10) 2 23 := ⟨by decide +kernel, rfl⟩
theorem eX4_slipsOf_23 : Dn mX4_slipsOf 23 (.idiv) 1 24 := ⟨by decide +kernel, rfl⟩
theorem eX4_slipsOf_24 : Dn mX4_slipsOf 24 (.iadd) 1 25 := ⟨by decide +kernel, rfl⟩
theorem eX4_slipsOf_25 : Dj mX4_slipsOf 25 (.goto 4) (4) 28 29 := ⟨by decide +kernel, rfl, rfl⟩
theorem eX4_slipsOf_28 : Dn mX4_slipsOf 28 (.iload_n 3) 1 29 := ⟨by decide +kernel, rfl⟩
theorem eX4_slipsOf_29 : Dn mX4_slipsOf 29 (.istore 4) 2 31 := ⟨by decide +kernel, rfl⟩
theorem eX4_slipsOf_31 : Dn mX4_slipsOf 31 (.bipush 10) 2 33 := ⟨by decide +kernel, rfl⟩
theorem eX4_slipsOf_33 : Dn mX4_slipsOf 33 (.iload 4) 2 35 := ⟨by decide +kernel, rfl⟩
theorem eX4_slipsOf_35 : Dn mX4_slipsOf 35 (.bipush 10) 2 37 := ⟨by decide +kernel, rfl⟩
theorem eX4_slipsOf_37 : Dn mX4_slipsOf 37 (.idiv) 1 38 := ⟨by decide +kernel, rfl⟩
theorem eX4_slipsOf_38 : Dn mX4_slipsOf 38 (.invokestatic 74) 3 41 := ⟨by decide +kernel, rfl⟩
theorem eX4_slipsOf_41 : Dn mX4_slipsOf 41 (.imul) 1 42 := ⟨by decide +kernel, rfl⟩
theorem eX4_slipsOf_42 : Dn mX4_slipsOf 42 (.iload 4) 2 44 := ⟨by decide +kernel, rfl⟩
theorem eX4_slipsOf_44 : Dn mX4_slipsOf 44 (.bipush 10) 2 46 := ⟨by decide +kernel, rfl⟩
theorem eX4_slipsOf_46 : Dn mX4_slipsOf 46 (.irem) 1 47 := ⟨by decide +kernel, rfl⟩
theorem eX4_slipsOf_47 : Dn mX4_slipsOf 47 (.invokestatic 74) 3 50 := ⟨by decide +kernel, rfl⟩
theorem eX4_slipsOf_50 : Dn mX4_slipsOf 50 (.iadd) 1 51 := ⟨by decide +kernel, rfl⟩
theorem eX4_slipsOf_51 : Dn mX4_slipsOf 51 (.istore 5) 2 53 := ⟨by decide +kernel, rfl⟩
theorem eX4_slipsOf_53 : Dn mX4_slipsOf 53 (.iload_n 1) 1 54 := ⟨by decide +kernel, rfl⟩
theorem eX4_slipsOf_54 : Dn mX4_slipsOf 54 (.tableswitch 77 1 6 #[38, 50, 53, 56, 75, 38]) 38 92 := ⟨by decide +kernel, rfl⟩
theorem eX4_slipsOf_92 : Dn mX4_slipsOf 92 (.iload_n 2) 1 93 := ⟨by decide +kernel, rfl⟩
theorem eX4_slipsOf_93 : Dn mX4_slipsOf 93 (.iconst 4) 1 94 := ⟨by decide +kernel, rfl⟩
theorem eX4_slipsOf_94 : Dn mX4_slipsOf 94 (.irem) 1 95 := ⟨by decide +kernel, rfl⟩
theorem eX4_slipsOf_95 : Dj mX4_slipsOf 95 (.ifCond .ne 7) (7) 98 102 := ⟨by decide +kernel, rfl, rfl⟩
theorem eX4_slipsOf_98 : Dn mX4_slipsOf 98 (.iconst (-1)) 1 99 := ⟨by decide +kernel, rfl⟩
theorem eX4_slipsOf_99 : Dj mX4_slipsOf 99 (.goto 4) (4) 102 103 := ⟨by decide +kernel, rfl, rfl⟩
theorem eX4_slipsOf_102 : Dn mX4_slipsOf 102 (.iload_n 3) 1 103 := ⟨by decide +kernel, rfl⟩
theorem eX4_slipsOf_103 : Dn mX4_slipsOf 103 (.ireturn) 1 104 := ⟨by decide +kernel, rfl⟩
theorem eX4_slipsOf_104 : Dn mX4_slipsOf 104 (.iload 4) 2 106 := ⟨by decide +kernel, rfl⟩
theorem eX4_slipsOf_106 : Dn mX4_slipsOf 106 (.ireturn) 1 107 := ⟨by decide +kernel, rfl⟩
theorem eX4_slipsOf_107 : Dn mX4_slipsOf 107 (.iload 5) 2 109 := ⟨by decide +kernel, rfl⟩
theorem eX4_slipsOf_109 : Dn mX4_slipsOf 109 (.ireturn) 1 110 := ⟨by decide +kernel, rfl⟩
theorem eX4_slipsOf_110 : Dn mX4_slipsOf 110 (.aload_n 0) 1 111 := ⟨by decide +kernel, rfl⟩
theorem eX4_slipsOf_111 : Dn mX4_slipsOf 111 (.getfield 7) 3 114 := ⟨by decide +kernel, rfl⟩
theorem eX4_slipsOf_114 : Dn mX4_slipsOf 114 (.iconst 1) 1 115 := ⟨by decide +kernel, rfl⟩
theorem eX4_slipsOf_115 : Dn mX4_slipsOf 115 (.iaload) 1 116 := ⟨by decide +kernel, rfl⟩
theorem eX4_slipsOf_116 : Dn mX4_slipsOf 116 (.iconst 2) 1 117 := ⟨by decide +kernel, rfl⟩
theorem eX4_slipsOf_117 : Dn mX4_slipsOf 117 (.irem) 1 118 := ⟨by decide +kernel, rfl⟩
theorem eX4_slipsOf_118 : Dn mX4_slipsOf 118 (.iconst 1) 1 119 := ⟨by decide +kernel, rfl⟩
theorem eX4_slipsOf_119 : Dj mX4_slipsOf 119 (.if_icmp .ne 7) (7) 122 126 := ⟨by decide +kernel, rfl, rfl⟩
theorem eX4_slipsOf_122 : Dn mX4_slipsOf 122 (.iconst (-1)) 1 123 := ⟨by decide +kernel, rfl⟩
theorem eX4_slipsOf_123 : Dj mX4_slipsOf 123 (.goto 5) (5) 126 128 := ⟨by decide +kernel, rfl, rfl⟩
theorem eX4_slipsOf_126 : Dn mX4_slipsOf 126 (.iload 5) 2 128 := ⟨by decide +kernel, rfl⟩
theorem eX4_slipsOf_128 : Dn mX4_slipsOf 128 (.ireturn) 1 129 := ⟨by decide +kernel, rfl⟩
theorem eX4_slipsOf_129 : Dn mX4_slipsOf 129 (.iconst (-1)) 1 130 := ⟨by decide +kernel, rfl⟩
theorem eX4_slipsOf_130 : Dn mX4_slipsOf 130 (.ireturn) 1 131 := ⟨by decide +kernel, rfl⟩
theorem eX4_slipsOf_131 : Dn mX4_slipsOf 131 (.iload_n 3) 1 132 := ⟨by decide +kernel, rfl⟩
theorem eX4_slipsOf_132 : Dn mX4_slipsOf 132 (.ireturn) 1 133 := ⟨by decide +kernel, rfl⟩
theorem eX4_answered_0 : Dn mX4_answered 0 (.iconst 0) 1 1 := ⟨by decide +kernel, rfl⟩
theorem eX4_answered_1 : Dn mX4_answered 1 (.istore_n 2) 1 2 := ⟨by decide +kernel, rfl⟩
theorem eX4_answered_2 : Dn mX4_answered 2 (.iconst 0) 1 3 := ⟨by decide +kernel, rfl⟩
theorem eX4_answered_3 : Dn mX4_answered 3 (.istore_n 3) 1 4 := ⟨by decide +kernel, rfl⟩
theorem eX4_answered_4 : Dn mX4_answered 4 (.iload_n 3) 1 5 := ⟨by decide +kernel, rfl⟩
theorem eX4_answered_5 : Dn mX4_answered 5 (.bipush 8) 2 7 := ⟨by decide +kernel, rfl⟩
theorem eX4_answered_7 : Dj mX4_answered 7 (.if_icmp .ge 32) (32) 10 39 := ⟨by decide +kernel, rfl, rfl⟩
theorem eX4_answered_10 : Dn mX4_answered 10 (.iload_n 2) 1 11 := ⟨by decide +kernel, rfl⟩
theorem eX4_answered_11 : Dn mX4_answered 11 (.aload_n 0) 1 12 := ⟨by decide +kernel, rfl⟩
theorem eX4_answered_12 : Dn mX4_answered 12 (.iload_n 1) 1 13 := ⟨by decide +kernel, rfl⟩
theorem eX4_answered_13 : Dn mX4_answered 13 (.bipush 6) 2 15 := ⟨by decide +kernel, rfl⟩
theorem eX4_answered_15 : Dn mX4_answered 15 (.iload_n 3) 1 16 := ⟨by decide +kernel, rfl⟩
theorem eX4_answered_16 : Dn mX4_answered 16 (.iadd) 1 17 := ⟨by decide +kernel, rfl⟩
theorem eX4_answered_17 : Dn mX4_answered 17 (.invokevirtual 71) 3 20 := ⟨by decide +kernel, rfl⟩
theorem eX4_answered_20 : Dn mX4_answered 20 (.iconst (-1)) 1 21 := ⟨by decide +kernel, rfl⟩
theorem eX4_answered_21 : Dj mX4_answered 21 (.if_icmp .eq 9) (9) 24 30 := ⟨by decide +kernel, rfl, rfl⟩
theorem eX4_answered_24 : Dn mX4_answered 24 (.iconst 1) 1 25 := ⟨by decide +kernel, rfl⟩
theorem eX4_answered_25 : Dn mX4_answered 25 (.iload_n 3) 1 26 := ⟨by decide +kernel, rfl⟩
theorem eX4_answered_26 : Dn mX4_answered 26 (.ishl) 1 27 := ⟨by decide +kernel, rfl⟩
theorem eX4_answered_27 : Dj mX4_answered 27 (.goto 4) (4) 30 31 := ⟨by decide +kernel, rfl, rfl⟩
theorem eX4_answered_30 : Dn mX4_answered 30 (.iconst 0) 1 31 := ⟨by decide +kernel, rfl⟩
theorem eX4_answered_31 : Dn mX4_answered 31 (.ior) 1 32 := ⟨by decide +kernel, rfl⟩
theorem eX4_answered_32 : Dn mX4_answered 32 (.istore_n 2) 1 33 := ⟨by decide +kernel, rfl⟩
theorem eX4_answered_33 : Dn mX4_answered 33 (.iinc 3 1) 3 36 := ⟨by decide +kernel, rfl⟩
theorem eX4_answered_36 : Dj mX4_answered 36 (.goto (-32)) (-32) 39 4 := ⟨by decide +kernel, rfl, rfl⟩
theorem eX4_answered_39 : Dn mX4_answered 39 (.iload_n 2) 1 40 := ⟨by decide +kernel, rfl⟩
theorem eX4_answered_40 : Dn mX4_answered 40 (.ireturn) 1 41 := ⟨by decide +kernel, rfl⟩
theorem eX4_of_0 : Dn mX4_of 0 (.aload_n 0) 1 1 := ⟨by decide +kernel, rfl⟩
theorem eX4_of_1 : Dn mX4_of 1 (.iload_n 1) 1 2 := ⟨by decide +kernel, rfl⟩
theorem eX4_of_2 : Dn mX4_of 2 (.invokevirtual 77) 3 5 := ⟨by decide +kernel, rfl⟩
theorem eX4_of_5 : Dj mX4_of 5 (.ifCond .eq 15) (15) 8 20 := ⟨by decide +kernel, rfl, rfl⟩
theorem eX4_of_8 : Dn mX4_of 8 (.iload_n 2) 1 9 := ⟨by decide +kernel, rfl⟩
theorem eX4_of_9 : Dn mX4_of 9 (.i2l) 1 10 := ⟨by decide +kernel, rfl⟩
theorem eX4_of_10 : Dn mX4_of 10 (.lconst 0) 1 11 := ⟨by decide +kernel, rfl⟩
theorem eX4_of_11 : Dn mX4_of 11 (.ldc2_w 80) 3 14 := ⟨by decide +kernel, rfl⟩
theorem eX4_of_14 : Dn mX4_of 14 (.invokestatic 49) 3 17 := ⟨by decide +kernel, rfl⟩
theorem eX4_of_17 : Dj mX4_of 17 (.ifCond .ne 10) (10) 20 27 := ⟨by decide +kernel, rfl, rfl⟩
theorem eX4_of_20 : Dn mX4_of 20 (.aload_n 0) 1 21 := ⟨by decide +kernel, rfl⟩
theorem eX4_of_21 : Dn mX4_of 21 (.ldc 37) 2 23 := ⟨by decide +kernel, rfl⟩
theorem eX4_of_23 : Dn mX4_of 23 (.invokevirtual 39) 3 26 := ⟨by decide +kernel, rfl⟩
theorem eX4_of_26 : Dn mX4_of 26 (.ireturn) 1 27 := ⟨by decide +kernel, rfl⟩
theorem eX4_of_27 : Dn mX4_of 27 (.iload_n 2) 1 28 := ⟨by decide +kernel, rfl⟩
theorem eX4_of_28 : Dn mX4_of 28 (.tableswitch 58 6 8 #[28, 38, 52]) 28 56 := ⟨by decide +kernel, rfl⟩
theorem eX4_of_56 : Dn mX4_of 56 (.aload_n 0) 1 57 := ⟨by decide +kernel, rfl⟩
theorem eX4_of_57 : Dn mX4_of 57 (.iload_n 1) 1 58 := ⟨by decide +kernel, rfl⟩
theorem eX4_of_58 : Dn mX4_of 58 (.iconst 0) 1 59 := ⟨by decide +kernel, rfl⟩
theorem eX4_of_59 : Dn mX4_of 59 (.invokevirtual 71) 3 62 := ⟨by decide +kernel, rfl⟩
theorem eX4_of_62 : Dn mX4_of 62 (.invokestatic 82) 3 65 := ⟨by decide +kernel, rfl⟩
theorem eX4_of_65 : Dn mX4_of 65 (.ireturn) 1 66 := ⟨by decide +kernel, rfl⟩
theorem eX4_of_66 : Dn mX4_of 66 (.aload_n 0) 1 67 := ⟨by decide +kernel, rfl⟩
theorem eX4_of_67 : Dn mX4_of 67 (.iload_n 1) 1 68 := ⟨by decide +kernel, rfl⟩
theorem eX4_of_68 : Dn mX4_of 68 (.invokevirtual 85) 3 71 := ⟨by decide +kernel, rfl⟩
theorem eX4_of_71 : Dj mX4_of 71 (.ifCond .eq 7) (7) 74 78 := ⟨by decide +kernel, rfl, rfl⟩
theorem eX4_of_74 : Dn mX4_of 74 (.iconst 1) 1 75 := ⟨by decide +kernel, rfl⟩
theorem eX4_of_75 : Dj mX4_of 75 (.goto 4) (4) 78 79 := ⟨by decide +kernel, rfl, rfl⟩
theorem eX4_of_78 : Dn mX4_of 78 (.iconst 0) 1 79 := ⟨by decide +kernel, rfl⟩
theorem eX4_of_79 : Dn mX4_of 79 (.ireturn) 1 80 := ⟨by decide +kernel, rfl⟩
theorem eX4_of_80 : Dn mX4_of 80 (.aload_n 0) 1 81 := ⟨by decide +kernel, rfl⟩
theorem eX4_of_81 : Dn mX4_of 81 (.iload_n 1) 1 82 := ⟨by decide +kernel, rfl⟩
theorem eX4_of_82 : Dn mX4_of 82 (.invokevirtual 88) 3 85 := ⟨by decide +kernel, rfl⟩
theorem eX4_of_85 : Dn mX4_of 85 (.ireturn) 1 86 := ⟨by decide +kernel, rfl⟩
theorem eX4_of_86 : Dn mX4_of 86 (.aload_n 0) 1 87 := ⟨by decide +kernel, rfl⟩
theorem eX4_of_87 : Dn mX4_of 87 (.iload_n 1) 1 88 := ⟨by decide +kernel, rfl⟩
theorem eX4_of_88 : Dn mX4_of 88 (.iload_n 2) 1 89 := ⟨by decide +kernel, rfl⟩
theorem eX4_of_89 : Dn mX4_of 89 (.invokevirtual 71) 3 92 := ⟨by decide +kernel, rfl⟩
theorem eX4_of_92 : Dn mX4_of 92 (.ireturn) 1 93 := ⟨by decide +kernel, rfl⟩
theorem eX4_may_0 : Dn mX4_may 0 (.iload_n 2) 1 1 := ⟨by decide +kernel, rfl⟩
theorem eX4_may_1 : Dn mX4_may 1 (.tableswitch 103 0 5 #[39, 49, 59, 93, 83, 93]) 39 40 := ⟨by decide +kernel, rfl⟩
theorem eX4_may_40 : Dn mX4_may 40 (.iload_n 3) 1 41 := ⟨by decide +kernel, rfl⟩
theorem eX4_may_41 : Dn mX4_may 41 (.i2l) 1 42 := ⟨by decide +kernel, rfl⟩
theorem eX4_may_42 : Dn mX4_may 42 (.lconst 0) 1 43 := ⟨by decide +kernel, rfl⟩
theorem eX4_may_43 : Dn mX4_may 43 (.ldc2_w 62) 3 46 := ⟨by decide +kernel, rfl⟩
theorem eX4_may_46 : Dn mX4_may 46 (.invokestatic 49) 3 49 := ⟨by decide +kernel, rfl⟩
theorem eX4_may_49 : Dn mX4_may 49 (.ireturn) 1 50 := ⟨by decide +kernel, rfl⟩
theorem eX4_may_50 : Dn mX4_may 50 (.iload_n 3) 1 51 := ⟨by decide +kernel, rfl⟩
theorem eX4_may_51 : Dn mX4_may 51 (.i2l) 1 52 := ⟨by decide +kernel, rfl⟩
theorem eX4_may_52 : Dn mX4_may 52 (.lconst 0) 1 53 := ⟨by decide +kernel, rfl⟩
theorem eX4_may_53 : Dn mX4_may 53 (.ldc2_w 64) 3 56 := ⟨by decide +kernel, rfl⟩
theorem eX4_may_56 : Dn mX4_may 56 (.invokestatic 49) 3 59 := ⟨by decide +kernel, rfl⟩
theorem eX4_may_59 : Dn mX4_may 59 (.ireturn) 1 60 := ⟨by decide +kernel, rfl⟩
theorem eX4_may_60 : Dn mX4_may 60 (.iload_n 3) 1 61 := ⟨by decide +kernel, rfl⟩
theorem eX4_may_61 : Dn mX4_may 61 (.iconst (-1)) 1 62 := ⟨by decide +kernel, rfl⟩
theorem eX4_may_62 : Dj mX4_may 62 (.if_icmp .eq 16) (16) 65 78 := ⟨by decide +kernel, rfl, rfl⟩
theorem eX4_may_65 : Dn mX4_may 65 (.aload_n 0) 1 66 := ⟨by decide +kernel, rfl⟩
theorem eX4_may_66 : Dn mX4_may 66 (.iload_n 3) 1 67 := ⟨by decide +kernel, rfl⟩
theorem eX4_may_67 : Dn mX4_may 67 (.invokevirtual 77) 3 70 := ⟨by decide +kernel, rfl⟩
theorem eX4_may_70 : Dj mX4_may 70 (.ifCond .eq 12) (12) 73 82 := ⟨by decide +kernel, rfl, rfl⟩
theorem eX4_may_73 : Dn mX4_may 73 (.iload_n 3) 1 74 := ⟨by decide +kernel, rfl⟩
theorem eX4_may_74 : Dn mX4_may 74 (.iload_n 1) 1 75 := ⟨by decide +kernel, rfl⟩
theorem eX4_may_75 : Dj mX4_may 75 (.if_icmp .eq 7) (7) 78 82 := ⟨by decide +kernel, rfl, rfl⟩
theorem eX4_may_78 : Dn mX4_may 78 (.iconst 1) 1 79 := ⟨by decide +kernel, rfl⟩
theorem eX4_may_79 : Dj mX4_may 79 (.goto 4) (4) 82 83 := ⟨by decide +kernel, rfl, rfl⟩
theorem eX4_may_82 : Dn mX4_may 82 (.iconst 0) 1 83 := ⟨by decide +kernel, rfl⟩
theorem eX4_may_83 : Dn mX4_may 83 (.ireturn) 1 84 := ⟨by decide +kernel, rfl⟩
theorem eX4_may_84 : Dn mX4_may 84 (.iload_n 3) 1 85 := ⟨by decide +kernel, rfl⟩
theorem eX4_may_85 : Dn mX4_may 85 (.i2l) 1 86 := ⟨by decide +kernel, rfl⟩
theorem eX4_may_86 : Dn mX4_may 86 (.lconst 0) 1 87 := ⟨by decide +kernel, rfl⟩
theorem eX4_may_87 : Dn mX4_may 87 (.ldc2_w 91) 3 90 := ⟨by decide +kernel, rfl⟩
theorem eX4_may_90 : Dn mX4_may 90 (.invokestatic 49) 3 93 := ⟨by decide +kernel, rfl⟩
theorem eX4_may_93 : Dn mX4_may 93 (.ireturn) 1 94 := ⟨by decide +kernel, rfl⟩
theorem eX4_may_94 : Dn mX4_may 94 (.iload_n 3) 1 95 := ⟨by decide +kernel, rfl⟩
theorem eX4_may_95 : Dn mX4_may 95 (.i2l) 1 96 := ⟨by decide +kernel, rfl⟩
theorem eX4_may_96 : Dn mX4_may 96 (.lconst 0) 1 97 := ⟨by decide +kernel, rfl⟩
theorem eX4_may_97 : Dn mX4_may 97 (.ldc2_w 93) 3 100 := ⟨by decide +kernel, rfl⟩
theorem eX4_may_100 : Dn mX4_may 100 (.invokestatic 49) 3 103 := ⟨by decide +kernel, rfl⟩
theorem eX4_may_103 : Dn mX4_may 103 (.ireturn) 1 104 := ⟨by decide +kernel, rfl⟩
theorem eX4_may_104 : Dn mX4_may 104 (.iconst 0) 1 105 := ⟨by decide +kernel, rfl⟩
theorem eX4_may_105 : Dn mX4_may 105 (.ireturn) 1 106 := ⟨by decide +kernel, rfl⟩
theorem eX4_change_0 : Dn mX4_change 0 (.aload_n 0) 1 1 := ⟨by decide +kernel, rfl⟩
theorem eX4_change_1 : Dn mX4_change 1 (.iload_n 1) 1 2 := ⟨by decide +kernel, rfl⟩
theorem eX4_change_2 : Dn mX4_change 2 (.invokevirtual 77) 3 5 := ⟨by decide +kernel, rfl⟩
theorem eX4_change_5 : Dj mX4_change 5 (.ifCond .eq 26) (26) 8 31 := ⟨by decide +kernel, rfl, rfl⟩
theorem eX4_change_8 : Dn mX4_change 8 (.aload_n 0) 1 9 := ⟨by decide +kernel, rfl⟩
theorem eX4_change_9 : Dn mX4_change 9 (.iload_n 1) 1 10 := ⟨by decide +kernel, rfl⟩
theorem eX4_change_10 : Dn mX4_change 10 (.iload_n 2) 1 11 := ⟨by decide +kernel, rfl⟩
theorem eX4_change_11 : Dn mX4_change 11 (.iload_n 3) 1 12 := ⟨by decide +kernel, rfl⟩
theorem eX4_change_12 : Dn mX4_change 12 (.invokevirtual 95) 3 15 := ⟨by decide +kernel, rfl⟩
theorem eX4_change_15 : Dj mX4_change 15 (.ifCond .eq 16) (16) 18 31 := ⟨by decide +kernel, rfl, rfl⟩
theorem eX4_change_18 : Dn mX4_change 18 (.aload_n 0) 1 19 := ⟨by decide +kernel, rfl⟩
theorem eX4_change_19 : Dn mX4_change 19 (.iload_n 1) 1 20 := ⟨by decide +kernel, rfl⟩
theorem eX4_change_20 : Dn mX4_change 20 (.iload_n 2) 1 21 := ⟨by decide +kernel, rfl⟩
theorem eX4_change_21 : Dn mX4_change 21 (.invokestatic 59) 3 24 := ⟨by decide +kernel, rfl⟩
theorem eX4_change_24 : Dn mX4_change 24 (.iload_n 3) 1 25 := ⟨by decide +kernel, rfl⟩
theorem eX4_change_25 : Dn mX4_change 25 (.invokevirtual 53) 3 28 := ⟨by decide +kernel, rfl⟩
theorem eX4_change_28 : Dj mX4_change 28 (.goto 9) (9) 31 37 := ⟨by decide +kernel, rfl, rfl⟩
theorem eX4_change_31 : Dn mX4_change 31 (.aload_n 0) 1 32 := ⟨by decide +kernel, rfl⟩
theorem eX4_change_32 : Dn mX4_change 32 (.ldc 37) 2 34 := ⟨by decide +kernel, rfl⟩
theorem eX4_change_34 : Dn mX4_change 34 (.invokevirtual 39) 3 37 := ⟨by decide +kernel, rfl⟩
theorem eX4_change_37 : Dn mX4_change 37 (.ireturn) 1 38 := ⟨by decide +kernel, rfl⟩
theorem eX4_answer_0 : Dn mX4_answer 0 (.aload_n 0) 1 1 := ⟨by decide +kernel, rfl⟩
theorem eX4_answer_1 : Dn mX4_answer 1 (.iload_n 1) 1 2 := ⟨by decide +kernel, rfl⟩
theorem eX4_answer_2 : Dn mX4_answer 2 (.invokevirtual 77) 3 5 := ⟨by decide +kernel, rfl⟩
theorem eX4_answer_5 : Dj mX4_answer 5 (.ifCond .eq 22) (22) 8 27 := ⟨by decide +kernel, rfl, rfl⟩
theorem eX4_answer_8 : Dn mX4_answer 8 (.iload_n 2) 1 9 := ⟨by decide +kernel, rfl⟩
theorem eX4_answer_9 : Dn mX4_answer 9 (.invokestatic 43) 3 12 := ⟨by decide +kernel, rfl⟩
theorem eX4_answer_12 : Dj mX4_answer 12 (.ifCond .eq 15) (15) 15 27 := ⟨by decide +kernel, rfl, rfl⟩
theorem eX4_answer_15 : Dn mX4_answer 15 (.aload_n 0) 1 16 := ⟨by decide +kernel, rfl⟩
theorem eX4_answer_16 : Dn mX4_answer 16 (.iload_n 1) 1 17 := ⟨by decide +kernel, rfl⟩
theorem eX4_answer_17 : Dn mX4_answer 17 (.bipush 6) 2 19 := ⟨by decide +kernel, rfl⟩
theorem eX4_answer_19 : Dn mX4_answer 19 (.iload_n 2) 1 20 := ⟨by decide +kernel, rfl⟩
theorem eX4_answer_20 : Dn mX4_answer 20 (.iadd) 1 21 := ⟨by decide +kernel, rfl⟩
theorem eX4_answer_21 : Dn mX4_answer 21 (.invokevirtual 71) 3 24 := ⟨by decide +kernel, rfl⟩
theorem eX4_answer_24 : Dj mX4_answer 24 (.goto 9) (9) 27 33 := ⟨by decide +kernel, rfl, rfl⟩
theorem eX4_answer_27 : Dn mX4_answer 27 (.aload_n 0) 1 28 := ⟨by decide +kernel, rfl⟩
theorem eX4_answer_28 : Dn mX4_answer 28 (.ldc 37) 2 30 := ⟨by decide +kernel, rfl⟩
theorem eX4_answer_30 : Dn mX4_answer 30 (.invokevirtual 39) 3 33 := ⟨by decide +kernel, rfl⟩
theorem eX4_answer_33 : Dn mX4_answer 33 (.ireturn) 1 34 := ⟨by decide +kernel, rfl⟩
theorem eX4_slips_0 : Dn mX4_slips 0 (.aload_n 0) 1 1 := ⟨by decide +kernel, rfl⟩
theorem eX4_slips_1 : Dn mX4_slips 1 (.iload_n 1) 1 2 := ⟨by decide +kernel, rfl⟩
theorem eX4_slips_2 : Dn mX4_slips 2 (.invokevirtual 77) 3 5 := ⟨by decide +kernel, rfl⟩
theorem eX4_slips_5 : Dj mX4_slips 5 (.ifCond .eq 39) (39) 8 44 := ⟨by decide +kernel, rfl, rfl⟩
theorem eX4_slips_8 : Dn mX4_slips 8 (.iload_n 2) 1 9 := ⟨by decide +kernel, rfl⟩
theorem eX4_slips_9 : Dn mX4_slips 9 (.invokestatic 43) 3 12 := ⟨by decide +kernel, rfl⟩
theorem eX4_slips_12 : Dj mX4_slips 12 (.ifCond .eq 32) (32) 15 44 := ⟨by decide +kernel, rfl, rfl⟩
theorem eX4_slips_15 : Dn mX4_slips 15 (.iload_n 3) 1 16 := ⟨by decide +kernel, rfl⟩
theorem eX4_slips_16 : Dn mX4_slips 16 (.i2l) 1 17 := ⟨by decide +kernel, rfl⟩
theorem eX4_slips_17 : Dn mX4_slips 17 (.ldc2_w 99) 3 20 := ⟨by decide +kernel, rfl⟩
theorem eX4_slips_20 : Dn mX4_slips 20 (.ldc2_w 47) 3 23 := ⟨by decide +kernel, rfl⟩
theorem eX4_slips_23 : Dn mX4_slips 23 (.invokestatic 49) 3 26 := ⟨by decide +kernel, rfl⟩
theorem eX4_slips_26 : Dj mX4_slips 26 (.ifCond .eq 18) (18) 29 44 := ⟨by decide +kernel, rfl, rfl⟩
theorem eX4_slips_29 : Dn mX4_slips 29 (.aload_n 0) 1 30 := ⟨by decide +kernel, rfl⟩
theorem eX4_slips_30 : Dn mX4_slips 30 (.aload_n 0) 1 31 := ⟨by decide +kernel, rfl⟩
theorem eX4_slips_31 : Dn mX4_slips 31 (.iload_n 1) 1 32 := ⟨by decide +kernel, rfl⟩
theorem eX4_slips_32 : Dn mX4_slips 32 (.iconst 0) 1 33 := ⟨by decide +kernel, rfl⟩
theorem eX4_slips_33 : Dn mX4_slips 33 (.invokevirtual 71) 3 36 := ⟨by decide +kernel, rfl⟩
theorem eX4_slips_36 : Dn mX4_slips 36 (.iload_n 2) 1 37 := ⟨by decide +kernel, rfl⟩
theorem eX4_slips_37 : Dn mX4_slips 37 (.iload_n 3) 1 38 := ⟨by decide +kernel, rfl⟩
theorem eX4_slips_38 : Dn mX4_slips 38 (.invokevirtual 101) 3 41 := ⟨by decide +kernel, rfl⟩
theorem eX4_slips_41 : Dj mX4_slips 41 (.goto 9) (9) 44 50 := ⟨by decide +kernel, rfl, rfl⟩
theorem eX4_slips_44 : Dn mX4_slips 44 (.aload_n 0) 1 45 := ⟨by decide +kernel, rfl⟩
theorem eX4_slips_45 : Dn mX4_slips 45 (.ldc 37) 2 47 := ⟨by decide +kernel, rfl⟩
theorem eX4_slips_47 : Dn mX4_slips 47 (.invokevirtual 39) 3 50 := ⟨by decide +kernel, rfl⟩
theorem eX4_slips_50 : Dn mX4_slips 50 (.ireturn) 1 51 := ⟨by decide +kernel, rfl⟩
theorem eX4_alikeOf_0 : Dn mX4_alikeOf 0 (.iconst 0) 1 1 := ⟨by decide +kernel, rfl⟩
theorem eX4_alikeOf_1 : Dn mX4_alikeOf 1 (.istore_n 3) 1 2 := ⟨by decide +kernel, rfl⟩
theorem eX4_alikeOf_2 : Dn mX4_alikeOf 2 (.iconst 0) 1 3 := ⟨by decide +kernel, rfl⟩
theorem eX4_alikeOf_3 : Dn mX4_alikeOf 3 (.istore 4) 2 5 := ⟨by decide +kernel, rfl⟩
theorem eX4_alikeOf_5 : Dn mX4_alikeOf 5 (.iload 4) 2 7 := ⟨by decide +kernel, rfl⟩
theorem eX4_alikeOf_7 : Dn mX4_alikeOf 7 (.bipush 8) 2 9 := ⟨by decide +kernel, rfl⟩
theorem eX4_alikeOf_9 : Dj mX4_alikeOf 9 (.if_icmp .ge 67) (67) 12 76 := ⟨by decide +kernel, rfl, rfl⟩
theorem eX4_alikeOf_12 : Dn mX4_alikeOf 12 (.aload_n 0) 1 13 := ⟨by decide +kernel, rfl⟩
theorem eX4_alikeOf_13 : Dn mX4_alikeOf 13 (.iload_n 1) 1 14 := ⟨by decide +kernel, rfl⟩
theorem eX4_alikeOf_14 : Dn mX4_alikeOf 14 (.bipush 6) 2 16 := ⟨by decide +kernel, rfl⟩
theorem eX4_alikeOf_16 : Dn mX4_alikeOf 16 (.iload 4) 2 18 := ⟨by decide +kernel, rfl⟩
theorem eX4_alikeOf_18 : Dn mX4_alikeOf 18 (.iadd) 1 19 := ⟨by decide +kernel, rfl⟩
theorem eX4_alikeOf_19 : Dn mX4_alikeOf 19 (.invokevirtual 71) 3 22 := ⟨by decide +kernel, rfl⟩
theorem eX4_alikeOf_22 : Dn mX4_alikeOf 22 (.istore 5) 2 24 := ⟨by decide +kernel, rfl⟩
theorem eX4_alikeOf_24 : Dn mX4_alikeOf 24 (.iload_n 3) 1 25 := ⟨by decide +kernel, rfl⟩
theorem eX4_alikeOf_25 : Dn mX4_alikeOf 25 (.iload 5) 2 27 := ⟨by decide +kernel, rfl⟩
theorem eX4_alikeOf_27 : Dn mX4_alikeOf 27 (.aload_n 0) 1 28 := ⟨by decide +kernel, rfl⟩
theorem eX4_alikeOf_28 : Dn mX4_alikeOf 28 (.iload_n 2) 1 29 := ⟨by decide +kernel, rfl⟩
theorem eX4_alikeOf_29 : Dn mX4_alikeOf 29 (.bipush 6) 2 31 := ⟨by decide +kernel, rfl⟩
theorem eX4_alikeOf_31 : Dn mX4_alikeOf 31 (.iload 4) 2 33 := ⟨by decide +kernel, rfl⟩
theorem eX4_alikeOf_33 : Dn mX4_alikeOf 33 (.iadd) 1 34 := ⟨by decide +kernel, rfl⟩
theorem eX4_alikeOf_34 : Dn mX4_alikeOf 34 (.invokevirtual 71) 3 37 := ⟨by decide +kernel, rfl⟩
theorem eX4_alikeOf_37 : Dj mX4_alikeOf 37 (.if_icmp .ne 30) (30) 40 67 := ⟨by decide +kernel, rfl, rfl⟩
theorem eX4_alikeOf_40 : Dn mX4_alikeOf 40 (.iload 5) 2 42 := ⟨by decide +kernel, rfl⟩
theorem eX4_alikeOf_42 : Dn mX4_alikeOf 42 (.iconst (-1)) 1 43 := ⟨by decide +kernel, rfl⟩
theorem eX4_alikeOf_43 : Dj mX4_alikeOf 43 (.if_icmp .eq 24) (24) 46 67 := ⟨by decide +kernel, rfl, rfl⟩
theorem eX4_alikeOf_46 : Dn mX4_alikeOf 46 (.iload 5) 2 48 := ⟨by decide +kernel, rfl⟩
theorem eX4_alikeOf_48 : Dn mX4_alikeOf 48 (.aload_n 0) 1 49 := ⟨by decide +kernel, rfl⟩
theorem eX4_alikeOf_49 : Dn mX4_alikeOf 49 (.getfield 7) 3 52 := ⟨by decide +kernel, rfl⟩
theorem eX4_alikeOf_52 : Dn mX4_alikeOf 52 (.iconst 4) 1 53 := ⟨by decide +kernel, rfl⟩
theorem eX4_alikeOf_53 : Dn mX4_alikeOf 53 (.iload 4) 2 55 := ⟨by decide +kernel, rfl⟩
theorem eX4_alikeOf_55 : Dn mX4_alikeOf 55 (.iadd) 1 56 := ⟨by decide +kernel, rfl⟩
theorem eX4_alikeOf_56 : Dn mX4_alikeOf 56 (.iaload) 1 57 := ⟨by decide +kernel, rfl⟩
theorem eX4_alikeOf_57 : Dj mX4_alikeOf 57 (.if_icmp .eq 10) (10) 60 67 := ⟨by decide +kernel, rfl, rfl⟩
theorem eX4_alikeOf_60 : Dn mX4_alikeOf 60 (.iconst 1) 1 61 := ⟨by decide +kernel, rfl⟩
theorem eX4_alikeOf_61 : Dn mX4_alikeOf 61 (.iload 4) 2 63 := ⟨by decide +kernel, rfl⟩
theorem eX4_alikeOf_63 : Dn mX4_alikeOf 63 (.ishl) 1 64 := ⟨by decide +kernel, rfl⟩
theorem eX4_alikeOf_64 : Dj mX4_alikeOf 64 (.goto 4) (4) 67 68 := ⟨by decide +kernel, rfl, rfl⟩
theorem eX4_alikeOf_67 : Dn mX4_alikeOf 67 (.iconst 0) 1 68 := ⟨by decide +kernel, rfl⟩
theorem eX4_alikeOf_68 : Dn mX4_alikeOf 68 (.ior) 1 69 := ⟨by decide +kernel, rfl⟩
theorem eX4_alikeOf_69 : Dn mX4_alikeOf 69 (.istore_n 3) 1 70 := ⟨by decide +kernel, rfl⟩
theorem eX4_alikeOf_70 : Dn mX4_alikeOf 70 (.iinc 4 1) 3 73 := ⟨by decide +kernel, rfl⟩
theorem eX4_alikeOf_73 : Dj mX4_alikeOf 73 (.goto (-68)) (-68) 76 5 := ⟨by decide +kernel, rfl, rfl⟩
theorem eX4_alikeOf_76 : Dn mX4_alikeOf 76 (.iload_n 3) 1 77 := ⟨by decide +kernel, rfl⟩
theorem eX4_alikeOf_77 : Dn mX4_alikeOf 77 (.ireturn) 1 78 := ⟨by decide +kernel, rfl⟩
theorem eX4_alike_0 : Dn mX4_alike 0 (.aload_n 0) 1 1 := ⟨by decide +kernel, rfl⟩
theorem eX4_alike_1 : Dn mX4_alike 1 (.iload_n 1) 1 2 := ⟨by decide +kernel, rfl⟩
theorem eX4_alike_2 : Dn mX4_alike 2 (.invokevirtual 77) 3 5 := ⟨by decide +kernel, rfl⟩
theorem eX4_alike_5 : Dj mX4_alike 5 (.ifCond .eq 25) (25) 8 30 := ⟨by decide +kernel, rfl, rfl⟩
theorem eX4_alike_8 : Dn mX4_alike 8 (.aload_n 0) 1 9 := ⟨by decide +kernel, rfl⟩
theorem eX4_alike_9 : Dn mX4_alike 9 (.iload_n 2) 1 10 := ⟨by decide +kernel, rfl⟩
theorem eX4_alike_10 : Dn mX4_alike 10 (.invokevirtual 77) 3 13 := ⟨by decide +kernel, rfl⟩
theorem eX4_alike_13 : Dj mX4_alike 13 (.ifCond .eq 17) (17) 16 30 := ⟨by decide +kernel, rfl, rfl⟩
theorem eX4_alike_16 : Dn mX4_alike 16 (.iload_n 1) 1 17 := ⟨by decide +kernel, rfl⟩
theorem eX4_alike_17 : Dn mX4_alike 17 (.iload_n 2) 1 18 := ⟨by decide +kernel, rfl⟩
theorem eX4_alike_18 : Dj mX4_alike 18 (.if_icmp .eq 12) (12) 21 30 := ⟨by decide +kernel, rfl, rfl⟩
theorem eX4_alike_21 : Dn mX4_alike 21 (.aload_n 0) 1 22 := ⟨by decide +kernel, rfl⟩
theorem eX4_alike_22 : Dn mX4_alike 22 (.iload_n 1) 1 23 := ⟨by decide +kernel, rfl⟩
theorem eX4_alike_23 : Dn mX4_alike 23 (.iload_n 2) 1 24 := ⟨by decide +kernel, rfl⟩
theorem eX4_alike_24 : Dn mX4_alike 24 (.invokevirtual 105) 3 27 := ⟨by decide +kernel, rfl⟩
theorem eX4_alike_27 : Dj mX4_alike 27 (.goto 9) (9) 30 36 := ⟨by decide +kernel, rfl, rfl⟩
theorem eX4_alike_30 : Dn mX4_alike 30 (.aload_n 0) 1 31 := ⟨by decide +kernel, rfl⟩
theorem eX4_alike_31 : Dn mX4_alike 31 (.ldc 37) 2 33 := ⟨by decide +kernel, rfl⟩
theorem eX4_alike_33 : Dn mX4_alike 33 (.invokevirtual 39) 3 36 := ⟨by decide +kernel, rfl⟩
theorem eX4_alike_36 : Dn mX4_alike 36 (.ireturn) 1 37 := ⟨by decide +kernel, rfl⟩
theorem eX4_writesAll_0 : Dn mX4_writesAll 0 (.aload_n 0) 1 1 := ⟨by decide +kernel, rfl⟩
theorem eX4_writesAll_1 : Dn mX4_writesAll 1 (.iload_n 1) 1 2 := ⟨by decide +kernel, rfl⟩
theorem eX4_writesAll_2 : Dn mX4_writesAll 2 (.iconst 0) 1 3 := ⟨by decide +kernel, rfl⟩
theorem eX4_writesAll_3 : Dn mX4_writesAll 3 (.invokevirtual 71) 3 6 := ⟨by decide +kernel, rfl⟩
theorem eX4_writesAll_6 : Dn mX4_writesAll 6 (.istore_n 2) 1 7 := ⟨by decide +kernel, rfl⟩
theorem eX4_writesAll_7 : Dn mX4_writesAll 7 (.aload_n 0) 1 8 := ⟨by decide +kernel, rfl⟩
theorem eX4_writesAll_8 : Dn mX4_writesAll 8 (.iload_n 1) 1 9 := ⟨by decide +kernel, rfl⟩
theorem eX4_writesAll_9 : Dn mX4_writesAll 9 (.iconst 2) 1 10 := ⟨by decide +kernel, rfl⟩
theorem eX4_writesAll_10 : Dn mX4_writesAll 10 (.invokevirtual 71) 3 13 := ⟨by decide +kernel, rfl⟩
theorem eX4_writesAll_13 : Dn mX4_writesAll 13 (.istore_n 3) 1 14 := ⟨by decide +kernel, rfl⟩
theorem eX4_writesAll_14 : Dn mX4_writesAll 14 (.iload_n 3) 1 15 := ⟨by decide +kernel, rfl⟩
theorem eX4_writesAll_15 : Dj mX4_writesAll 15 (.ifCond .lt 28) (28) 18 43 := ⟨by decide +kernel, rfl, rfl⟩
theorem eX4_writesAll_18 : Dn mX4_writesAll 18 (.aload_n 0) 1 19 := ⟨by decide +kernel, rfl⟩
theorem eX4_writesAll_19 : Dn mX4_writesAll 19 (.iload_n 3) 1 20 := ⟨by decide +kernel, rfl⟩
theorem eX4_writesAll_20 : Dn mX4_writesAll 20 (.invokevirtual 85) 3 23 := ⟨by decide +kernel, rfl⟩
theorem eX4_writesAll_23 : Dj mX4_writesAll 23 (.ifCond .eq 20) (20) 26 43 := ⟨by decide +kernel, rfl, rfl⟩
theorem eX4_writesAll_26 : Dn mX4_writesAll 26 (.aload_n 0) 1 27 := ⟨by decide +kernel, rfl⟩
theorem eX4_writesAll_27 : Dn mX4_writesAll 27 (.iload_n 1) 1 28 := ⟨by decide +kernel, rfl⟩
theorem eX4_writesAll_28 : Dn mX4_writesAll 28 (.iconst 4) 1 29 := ⟨by decide +kernel, rfl⟩
theorem eX4_writesAll_29 : Dn mX4_writesAll 29 (.invokevirtual 71) 3 32 := ⟨by decide +kernel, rfl⟩
theorem eX4_writesAll_32 : Dn mX4_writesAll 32 (.iload_n 2) 1 33 := ⟨by decide +kernel, rfl⟩
theorem eX4_writesAll_33 : Dn mX4_writesAll 33 (.invokestatic 82) 3 36 := ⟨by decide +kernel, rfl⟩
theorem eX4_writesAll_36 : Dj mX4_writesAll 36 (.if_icmp .lt 7) (7) 39 43 := ⟨by decide +kernel, rfl, rfl⟩
theorem eX4_writesAll_39 : Dn mX4_writesAll 39 (.iconst 1) 1 40 := ⟨by decide +kernel, rfl⟩
theorem eX4_writesAll_40 : Dj mX4_writesAll 40 (.goto 4) (4) 43 44 := ⟨by decide +kernel, rfl, rfl⟩
theorem eX4_writesAll_43 : Dn mX4_writesAll 43 (.iconst 0) 1 44 := ⟨by decide +kernel, rfl⟩
theorem eX4_writesAll_44 : Dn mX4_writesAll 44 (.istore 4) 2 46 := ⟨by decide +kernel, rfl⟩
theorem eX4_writesAll_46 : Dn mX4_writesAll 46 (.iconst 0) 1 47 := ⟨by decide +kernel, rfl⟩
theorem eX4_writesAll_47 : Dn mX4_writesAll 47 (.istore 5) 2 49 := ⟨by decide +kernel, rfl⟩
theorem eX4_writesAll_49 : Dn mX4_writesAll 49 (.iload 5) 2 51 := ⟨by decide +kernel, rfl⟩
theorem eX4_writesAll_51 : Dn mX4_writesAll 51 (.bipush 8) 2 53 := ⟨by decide +kernel, rfl⟩
theorem eX4_writesAll_53 : Dj mX4_writesAll 53 (.if_icmp .ge 88) (88) 56 141 := ⟨by decide +kernel, rfl, rfl⟩
theorem eX4_writesAll_56 : Dn mX4_writesAll 56 (.aload_n 0) 1 57 := ⟨by decide +kernel, rfl⟩
theorem eX4_writesAll_57 : Dn mX4_writesAll 57 (.iload_n 1) 1 58 := ⟨by decide +kernel, rfl⟩
theorem eX4_writesAll_58 : Dn mX4_writesAll 58 (.iconst 1) 1 59 := ⟨by decide +kernel, rfl⟩
theorem eX4_writesAll_59 : Dn mX4_writesAll 59 (.invokevirtual 71) 3 62 := ⟨by decide +kernel, rfl⟩
theorem eX4_writesAll_62 : Dn mX4_writesAll 62 (.iload 5) 2 64 := ⟨by decide +kernel, rfl⟩
theorem eX4_writesAll_64 : Dn mX4_writesAll 64 (.ishr) 1 65 := ⟨by decide +kernel, rfl⟩
theorem eX4_writesAll_65 : Dn mX4_writesAll 65 (.iconst 1) 1 66 := ⟨by decide +kernel, rfl⟩
theorem eX4_writesAll_66 : Dn mX4_writesAll 66 (.iand) 1 67 := ⟨by decide +kernel, rfl⟩
theorem eX4_writesAll_67 : Dn mX4_writesAll 67 (.iconst 1) 1 68 := ⟨by decide +kernel, rfl⟩
theorem eX4_writesAll_68 : Dj mX4_writesAll 68 (.if_icmp .ne 7) (7) 71 75 := ⟨by decide +kernel, rfl, rfl⟩
theorem eX4_writesAll_71 : Dn mX4_writesAll 71 (.iconst 1) 1 72 := ⟨by decide +kernel, rfl⟩
theorem eX4_writesAll_72 : Dj mX4_writesAll 72 (.goto 4) (4) 75 76 := ⟨by decide +kernel, rfl, rfl⟩
theorem eX4_writesAll_75 : Dn mX4_writesAll 75 (.iconst 0) 1 76 := ⟨by decide +kernel, rfl⟩
theorem eX4_writesAll_76 : Dn mX4_writesAll 76 (.istore 6) 2 78 := ⟨by decide +kernel, rfl⟩
theorem eX4_writesAll_78 : Dn mX4_writesAll 78 (.aload_n 0) 1 79 := ⟨by decide +kernel, rfl⟩
theorem eX4_writesAll_79 : Dn mX4_writesAll 79 (.getfield 7) 3 82 := ⟨by decide +kernel, rfl⟩
theorem eX4_writesAll_82 : Dn mX4_writesAll 82 (.iload_n 1) 1 83 := ⟨by decide +kernel, rfl⟩
theorem eX4_writesAll_83 : Dn mX4_writesAll 83 (.bipush 6) 2 85 := ⟨by decide +kernel, rfl⟩
theorem eX4_writesAll_85 : Dn mX4_writesAll 85 (.iload 5) 2 87 := ⟨by decide +kernel, rfl⟩
theorem eX4_writesAll_87 : Dn mX4_writesAll 87 (.iadd) 1 88 := ⟨by decide +kernel, rfl⟩
theorem eX4_writesAll_88 : Dn mX4_writesAll 88 (.invokestatic 59) 3 91 := ⟨by decide +kernel, rfl⟩
theorem eX4_writesAll_91 : Dn mX4_writesAll 91 (.iload 6) 2 93 := ⟨by decide +kernel, rfl⟩
theorem eX4_writesAll_93 : Dj mX4_writesAll 93 (.ifCond .eq 15) (15) 96 108 := ⟨by decide +kernel, rfl, rfl⟩
theorem eX4_writesAll_96 : Dn mX4_writesAll 96 (.aload_n 0) 1 97 := ⟨by decide +kernel, rfl⟩
theorem eX4_writesAll_97 : Dn mX4_writesAll 97 (.getfield 7) 3 100 := ⟨by decide +kernel, rfl⟩
theorem eX4_writesAll_100 : Dn mX4_writesAll 100 (.iconst 4) 1 101 := ⟨by decide +kernel, rfl⟩
theorem eX4_writesAll_101 : Dn mX4_writesAll 101 (.iload 5) 2 103 := ⟨by decide +kernel, rfl⟩
theorem eX4_writesAll_103 : Dn mX4_writesAll 103 (.iadd) 1 104 := ⟨by decide +kernel, rfl⟩
theorem eX4_writesAll_104 : Dn mX4_writesAll 104 (.iaload) 1 105 := ⟨by decide +kernel, rfl⟩
theorem eX4_writesAll_105 : Dj mX4_writesAll 105 (.goto 29) (29) 108 134 := ⟨by decide +kernel, rfl, rfl⟩
theorem eX4_writesAll_108 : Dn mX4_writesAll 108 (.iload 4) 2 110 := ⟨by decide +kernel, rfl⟩
theorem eX4_writesAll_110 : Dj mX4_writesAll 110 (.ifCond .eq 23) (23) 113 133 := ⟨by decide +kernel, rfl, rfl⟩
theorem eX4_writesAll_113 : Dn mX4_writesAll 113 (.aload_n 0) 1 114 := ⟨by decide +kernel, rfl⟩
theorem eX4_writesAll_114 : Dn mX4_writesAll 114 (.iload_n 2) 1 115 := ⟨by decide +kernel, rfl⟩
theorem eX4_writesAll_115 : Dn mX4_writesAll 115 (.iload 5) 2 117 := ⟨by decide +kernel, rfl⟩
theorem eX4_writesAll_117 : Dn mX4_writesAll 117 (.aload_n 0) 1 118 := ⟨by decide +kernel, rfl⟩
theorem eX4_writesAll_118 : Dn mX4_writesAll 118 (.iload_n 3) 1 119 := ⟨by decide +kernel, rfl⟩
theorem eX4_writesAll_119 : Dn mX4_writesAll 119 (.bipush 6) 2 121 := ⟨by decide +kernel, rfl⟩
theorem eX4_writesAll_121 : Dn mX4_writesAll 121 (.iload 5) 2 123 := ⟨by decide +kernel, rfl⟩
theorem eX4_writesAll_123 : Dn mX4_writesAll 123 (.iadd) 1 124 := ⟨by decide +kernel, rfl⟩
theorem eX4_writesAll_124 : Dn mX4_writesAll 124 (.invokevirtual 71) 3 127 := ⟨by decide +kernel, rfl⟩
theorem eX4_writesAll_127 : Dn mX4_writesAll 127 (.invokevirtual 101) 3 130 := ⟨by decide +kernel, rfl⟩
theorem eX4_writesAll_130 : Dj mX4_writesAll 130 (.goto 4) (4) 133 134 := ⟨by decide +kernel, rfl, rfl⟩
theorem eX4_writesAll_133 : Dn mX4_writesAll 133 (.iconst (-1)) 1 134 := ⟨by decide +kernel, rfl⟩
theorem eX4_writesAll_134 : Dn mX4_writesAll 134 (.iastore) 1 135 := ⟨by decide +kernel, rfl⟩
theorem eX4_writesAll_135 : Dn mX4_writesAll 135 (.iinc 5 1) 3 138 := ⟨by decide +kernel, rfl⟩
theorem eX4_writesAll_138 : Dj mX4_writesAll 138 (.goto (-89)) (-89) 141 49 := ⟨by decide +kernel, rfl, rfl⟩
theorem eX4_writesAll_141 : Dn mX4_writesAll 141 (.iload 4) 2 143 := ⟨by decide +kernel, rfl⟩
theorem eX4_writesAll_143 : Dj mX4_writesAll 143 (.ifCond .eq 47) (47) 146 190 := ⟨by decide +kernel, rfl, rfl⟩
theorem eX4_writesAll_146 : Dn mX4_writesAll 146 (.aload_n 0) 1 147 := ⟨by decide +kernel, rfl⟩
theorem eX4_writesAll_147 : Dn mX4_writesAll 147 (.getfield 7) 3 150 := ⟨by decide +kernel, rfl⟩
theorem eX4_writesAll_150 : Dn mX4_writesAll 150 (.iload_n 1) 1 151 := ⟨by decide +kernel, rfl⟩
theorem eX4_writesAll_151 : Dn mX4_writesAll 151 (.iconst 4) 1 152 := ⟨by decide +kernel, rfl⟩
theorem eX4_writesAll_152 : Dn mX4_writesAll 152 (.invokestatic 59) 3 155 := ⟨by decide +kernel, rfl⟩
theorem eX4_writesAll_155 : Dn mX4_writesAll 155 (.dup2) 1 156 := ⟨by decide +kernel, rfl⟩
theorem eX4_writesAll_156 : Dn mX4_writesAll 156 (.iaload) 1 157 := ⟨by decide +kernel, rfl⟩
theorem eX4_writesAll_157 : Dn mX4_writesAll 157 (.iload_n 2) 1 158 := ⟨by decide +kernel, rfl⟩
theorem eX4_writesAll_158 : Dn mX4_writesAll 158 (.invokestatic 82) 3 161 := ⟨by decide +kernel, rfl⟩
theorem eX4_writesAll_161 : Dn mX4_writesAll 161 (.isub) 1 162 := ⟨by decide +kernel, rfl⟩
theorem eX4_writesAll_162 : Dn mX4_writesAll 162 (.iastore) 1 163 := ⟨by decide +kernel, rfl⟩
theorem eX4_writesAll_163 : Dn mX4_writesAll 163 (.aload_n 0) 1 164 := ⟨by decide +kernel, rfl⟩
theorem eX4_writesAll_164 : Dn mX4_writesAll 164 (.getfield 7) 3 167 := ⟨by decide +kernel, rfl⟩
theorem eX4_writesAll_167 : Dn mX4_writesAll 167 (.iload_n 3) 1 168 := ⟨by decide +kernel, rfl⟩
theorem eX4_writesAll_168 : Dn mX4_writesAll 168 (.iconst 4) 1 169 := ⟨by decide +kernel, rfl⟩
theorem eX4_writesAll_169 : Dn mX4_writesAll 169 (.invokestatic 59) 3 172 := ⟨by decide +kernel, rfl⟩
theorem eX4_writesAll_172 : Dn mX4_writesAll 172 (.sipush 999) 3 175 := ⟨by decide +kernel, rfl⟩
theorem eX4_writesAll_175 : Dn mX4_writesAll 175 (.aload_n 0) 1 176 := ⟨by decide +kernel, rfl⟩
theorem eX4_writesAll_176 : Dn mX4_writesAll 176 (.iload_n 3) 1 177 := ⟨by decide +kernel, rfl⟩
theorem eX4_writesAll_177 : Dn mX4_writesAll 177 (.iconst 4) 1 178 := ⟨by decide +kernel, rfl⟩
theorem eX4_writesAll_178 : Dn mX4_writesAll 178 (.invokevirtual 71) 3 181 := ⟨by decide +kernel, rfl⟩
theorem eX4_writesAll_181 : Dn mX4_writesAll 181 (.iload_n 2) 1 182 := ⟨by decide +kernel, rfl⟩
theorem eX4_writesAll_182 : Dn mX4_writesAll 182 (.invokestatic 82) 3 185 := ⟨by decide +kernel, rfl⟩
theorem eX4_writesAll_185 : Dn mX4_writesAll 185 (.iadd) 1 186 := ⟨by decide +kernel, rfl⟩
theorem eX4_writesAll_186 : Dn mX4_writesAll 186 (.invokestatic 108) 3 189 := ⟨by decide +kernel, rfl⟩
theorem eX4_writesAll_189 : Dn mX4_writesAll 189 (.iastore) 1 190 := ⟨by decide +kernel, rfl⟩
theorem eX4_writesAll_190 : Dn mX4_writesAll 190 (.return_) 1 191 := ⟨by decide +kernel, rfl⟩
theorem eX4_isFound_0 : Dn mX4_isFound 0 (.iconst 0) 1 1 := ⟨by decide +kernel, rfl⟩
theorem eX4_isFound_1 : Dn mX4_isFound 1 (.istore_n 2) 1 2 := ⟨by decide +kernel, rfl⟩
theorem eX4_isFound_2 : Dn mX4_isFound 2 (.iconst 0) 1 3 := ⟨by decide +kernel, rfl⟩
theorem eX4_isFound_3 : Dn mX4_isFound 3 (.istore_n 3) 1 4 := ⟨by decide +kernel, rfl⟩
theorem eX4_isFound_4 : Dn mX4_isFound 4 (.iload_n 3) 1 5 := ⟨by decide +kernel, rfl⟩
theorem eX4_isFound_5 : Dn mX4_isFound 5 (.aload_n 0) 1 6 := ⟨by decide +kernel, rfl⟩
theorem eX4_isFound_6 : Dn mX4_isFound 6 (.getfield 7) 3 9 := ⟨by decide +kernel, rfl⟩
theorem eX4_isFound_9 : Dn mX4_isFound 9 (.iconst 0) 1 10 := ⟨by decide +kernel, rfl⟩
theorem eX4_isFound_10 : Dn mX4_isFound 10 (.iaload) 1 11 := ⟨by decide +kernel, rfl⟩
theorem eX4_isFound_11 : Dj mX4_isFound 11 (.if_icmp .ge 40) (40) 14 51 := ⟨by decide +kernel, rfl, rfl⟩
theorem eX4_isFound_14 : Dn mX4_isFound 14 (.iload_n 2) 1 15 := ⟨by decide +kernel, rfl⟩
theorem eX4_isFound_15 : Dn mX4_isFound 15 (.iload_n 3) 1 16 := ⟨by decide +kernel, rfl⟩
theorem eX4_isFound_16 : Dn mX4_isFound 16 (.iload_n 1) 1 17 := ⟨by decide +kernel, rfl⟩
theorem eX4_isFound_17 : Dj mX4_isFound 17 (.if_icmp .eq 25) (25) 20 42 := ⟨by decide +kernel, rfl, rfl⟩
theorem eX4_isFound_20 : Dn mX4_isFound 20 (.aload_n 0) 1 21 := ⟨by decide +kernel, rfl⟩
theorem eX4_isFound_21 : Dn mX4_isFound 21 (.iload_n 1) 1 22 := ⟨by decide +kernel, rfl⟩
theorem eX4_isFound_22 : Dn mX4_isFound 22 (.iload_n 3) 1 23 := ⟨by decide +kernel, rfl⟩
theorem eX4_isFound_23 : Dn mX4_isFound 23 (.invokevirtual 105) 3 26 := ⟨by decide +kernel, rfl⟩
theorem eX4_isFound_26 : Dn mX4_isFound 26 (.invokestatic 111) 3 29 := ⟨by decide +kernel, rfl⟩
theorem eX4_isFound_29 : Dn mX4_isFound 29 (.aload_n 0) 1 30 := ⟨by decide +kernel, rfl⟩
theorem eX4_isFound_30 : Dn mX4_isFound 30 (.getfield 7) 3 33 := ⟨by decide +kernel, rfl⟩
theorem eX4_isFound_33 : Dn mX4_isFound 33 (.iconst 3) 1 34 := ⟨by decide +kernel, rfl⟩
theorem eX4_isFound_34 : Dn mX4_isFound 34 (.iaload) 1 35 := ⟨by decide +kernel, rfl⟩
theorem eX4_isFound_35 : Dj mX4_isFound 35 (.if_icmp .lt 7) (7) 38 42 := ⟨by decide +kernel, rfl, rfl⟩
theorem eX4_isFound_38 : Dn mX4_isFound 38 (.iconst 1) 1 39 := ⟨by decide +kernel, rfl⟩
theorem eX4_isFound_39 : Dj mX4_isFound 39 (.goto 4) (4) 42 43 := ⟨by decide +kernel, rfl, rfl⟩
theorem eX4_isFound_42 : Dn mX4_isFound 42 (.iconst 0) 1 43 := ⟨by decide +kernel, rfl⟩
theorem eX4_isFound_43 : Dn mX4_isFound 43 (.ior) 1 44 := ⟨by decide +kernel, rfl⟩
theorem eX4_isFound_44 : Dn mX4_isFound 44 (.istore_n 2) 1 45 := ⟨by decide +kernel, rfl⟩
theorem eX4_isFound_45 : Dn mX4_isFound 45 (.iinc 3 1) 3 48 := ⟨by decide +kernel, rfl⟩
theorem eX4_isFound_48 : Dj mX4_isFound 48 (.goto (-44)) (-44) 51 4 := ⟨by decide +kernel, rfl, rfl⟩
theorem eX4_isFound_51 : Dn mX4_isFound 51 (.iload_n 2) 1 52 := ⟨by decide +kernel, rfl⟩
theorem eX4_isFound_52 : Dn mX4_isFound 52 (.ireturn) 1 53 := ⟨by decide +kernel, rfl⟩
theorem eX4_marks_0 : Dn mX4_marks 0 (.aload_n 0) 1 1 := ⟨by decide +kernel, rfl⟩
theorem eX4_marks_1 : Dn mX4_marks 1 (.iload_n 1) 1 2 := ⟨by decide +kernel, rfl⟩
theorem eX4_marks_2 : Dn mX4_marks 2 (.invokevirtual 114) 3 5 := ⟨by decide +kernel, rfl⟩
theorem eX4_marks_5 : Dj mX4_marks 5 (.ifCond .eq 52) (52) 8 57 := ⟨by decide +kernel, rfl, rfl⟩
theorem eX4_marks_8 : Dn mX4_marks 8 (.aload_n 0) 1 9 := ⟨by decide +kernel, rfl⟩
theorem eX4_marks_9 : Dn mX4_marks 9 (.getfield 7) 3 12 := ⟨by decide +kernel, rfl⟩
theorem eX4_marks_12 : Dn mX4_marks 12 (.iload_n 1) 1 13 := ⟨by decide +kernel, rfl⟩
theorem eX4_marks_13 : Dn mX4_marks 13 (.iconst 5) 1 14 := ⟨by decide +kernel, rfl⟩
theorem eX4_marks_14 : Dn mX4_marks 14 (.invokestatic 59) 3 17 := ⟨by decide +kernel, rfl⟩
theorem eX4_marks_17 : Dn mX4_marks 17 (.sipush 9999) 3 20 := ⟨by decide +kernel, rfl⟩
theorem eX4_marks_20 : Dn mX4_marks 20 (.aload_n 0) 1 21 := ⟨by decide +kernel, rfl⟩
theorem eX4_marks_21 : Dn mX4_marks 21 (.iload_n 1) 1 22 := ⟨by decide +kernel, rfl⟩
theorem eX4_marks_22 : Dn mX4_marks 22 (.iconst 5) 1 23 := ⟨by decide +kernel, rfl⟩
theorem eX4_marks_23 : Dn mX4_marks 23 (.invokevirtual 71) 3 26 := ⟨by decide +kernel, rfl⟩
theorem eX4_marks_26 : Dn mX4_marks 26 (.iconst 1) 1 27 := ⟨by decide +kernel, rfl⟩
theorem eX4_marks_27 : Dn mX4_marks 27 (.iadd) 1 28 := ⟨by decide +kernel, rfl⟩
theorem eX4_marks_28 : Dn mX4_marks 28 (.invokestatic 108) 3 31 := ⟨by decide +kernel, rfl⟩
theorem eX4_marks_31 : Dn mX4_marks 31 (.iastore) 1 32 := ⟨by decide +kernel, rfl⟩
theorem eX4_marks_32 : Dn mX4_marks 32 (.aload_n 0) 1 33 := ⟨by decide +kernel, rfl⟩
theorem eX4_marks_33 : Dn mX4_marks 33 (.getfield 7) 3 36 := ⟨by decide +kernel, rfl⟩
theorem eX4_marks_36 : Dn mX4_marks 36 (.iload_n 1) 1 37 := ⟨by decide +kernel, rfl⟩
theorem eX4_marks_37 : Dn mX4_marks 37 (.iconst 1) 1 38 := ⟨by decide +kernel, rfl⟩
theorem eX4_marks_38 : Dn mX4_marks 38 (.invokestatic 59) 3 41 := ⟨by decide +kernel, rfl⟩
theorem eX4_marks_41 : Dn mX4_marks 41 (.dup2) 1 42 := ⟨by decide +kernel, rfl⟩
theorem eX4_marks_42 : Dn mX4_marks 42 (.iaload) 1 43 := ⟨by decide +kernel, rfl⟩
theorem eX4_marks_43 : Dn mX4_marks 43 (.iconst 1) 1 44 := ⟨by decide +kernel, rfl⟩
theorem eX4_marks_44 : Dn mX4_marks 44 (.aload_n 0) 1 45 := ⟨by decide +kernel, rfl⟩
theorem eX4_marks_45 : Dn mX4_marks 45 (.getfield 7) 3 48 := ⟨by decide +kernel, rfl⟩
theorem eX4_marks_48 : Dn mX4_marks 48 (.iconst 1) 1 49 := ⟨by decide +kernel, rfl⟩
theorem eX4_marks_49 : Dn mX4_marks 49 (.iaload) 1 50 := ⟨by decide +kernel, rfl⟩
theorem eX4_marks_50 : Dn mX4_marks 50 (.bipush 8) 2 52 := ⟨by decide +kernel, rfl⟩
theorem eX4_marks_52 : Dn mX4_marks 52 (.irem) 1 53 := ⟨by decide +kernel, rfl⟩
theorem eX4_marks_53 : Dn mX4_marks 53 (.ishl) 1 54 := ⟨by decide +kernel, rfl⟩
theorem eX4_marks_54 : Dn mX4_marks 54 (.ior) 1 55 := ⟨by decide +kernel, rfl⟩
theorem eX4_marks_55 : Dn mX4_marks 55 (.iastore) 1 56 := ⟨by decide +kernel, rfl⟩
theorem eX4_marks_56 : Dn mX4_marks 56 (.return_) 1 57 := ⟨by decide +kernel, rfl⟩
theorem eX4_marks_57 : Dn mX4_marks 57 (.iconst 0) 1 58 := ⟨by decide +kernel, rfl⟩
theorem eX4_marks_58 : Dn mX4_marks 58 (.istore_n 2) 1 59 := ⟨by decide +kernel, rfl⟩
theorem eX4_marks_59 : Dn mX4_marks 59 (.iconst 0) 1 60 := ⟨by decide +kernel, rfl⟩
theorem eX4_marks_60 : Dn mX4_marks 60 (.istore_n 3) 1 61 := ⟨by decide +kernel, rfl⟩
theorem eX4_marks_61 : Dn mX4_marks 61 (.iload_n 3) 1 62 := ⟨by decide +kernel, rfl⟩
theorem eX4_marks_62 : Dn mX4_marks 62 (.bipush 8) 2 64 := ⟨by decide +kernel, rfl⟩
theorem eX4_marks_64 : Dj mX4_marks 64 (.if_icmp .ge 37) (37) 67 101 := ⟨by decide +kernel, rfl, rfl⟩
theorem eX4_marks_67 : Dn mX4_marks 67 (.iload_n 2) 1 68 := ⟨by decide +kernel, rfl⟩
theorem eX4_marks_68 : Dn mX4_marks 68 (.aload_n 0) 1 69 := ⟨by decide +kernel, rfl⟩
theorem eX4_marks_69 : Dn mX4_marks 69 (.iload_n 1) 1 70 := ⟨by decide +kernel, rfl⟩
theorem eX4_marks_70 : Dn mX4_marks 70 (.bipush 6) 2 72 := ⟨by decide +kernel, rfl⟩
theorem eX4_marks_72 : Dn mX4_marks 72 (.iload_n 3) 1 73 := ⟨by decide +kernel, rfl⟩
theorem eX4_marks_73 : Dn mX4_marks 73 (.iadd) 1 74 := ⟨by decide +kernel, rfl⟩
theorem eX4_marks_74 : Dn mX4_marks 74 (.invokevirtual 71) 3 77 := ⟨by decide +kernel, rfl⟩
theorem eX4_marks_77 : Dn mX4_marks 77 (.aload_n 0) 1 78 := ⟨by decide +kernel, rfl⟩
theorem eX4_marks_78 : Dn mX4_marks 78 (.getfield 7) 3 81 := ⟨by decide +kernel, rfl⟩
theorem eX4_marks_81 : Dn mX4_marks 81 (.iconst 4) 1 82 := ⟨by decide +kernel, rfl⟩
theorem eX4_marks_82 : Dn mX4_marks 82 (.iload_n 3) 1 83 := ⟨by decide +kernel, rfl⟩
theorem eX4_marks_83 : Dn mX4_marks 83 (.iadd) 1 84 := ⟨by decide +kernel, rfl⟩
theorem eX4_marks_84 : Dn mX4_marks 84 (.iaload) 1 85 := ⟨by decide +kernel, rfl⟩
theorem eX4_marks_85 : Dj mX4_marks 85 (.if_icmp .ne 7) (7) 88 92 := ⟨by decide +kernel, rfl, rfl⟩
theorem eX4_marks_88 : Dn mX4_marks 88 (.iconst 1) 1 89 := ⟨by decide +kernel, rfl⟩
theorem eX4_marks_89 : Dj mX4_marks 89 (.goto 4) (4) 92 93 := ⟨by decide +kernel, rfl, rfl⟩
theorem eX4_marks_92 : Dn mX4_marks 92 (.iconst 0) 1 93 := ⟨by decide +kernel, rfl⟩
theorem eX4_marks_93 : Dn mX4_marks 93 (.iadd) 1 94 := ⟨by decide +kernel, rfl⟩
theorem eX4_marks_94 : Dn mX4_marks 94 (.istore_n 2) 1 95 := ⟨by decide +kernel, rfl⟩
theorem eX4_marks_95 : Dn mX4_marks 95 (.iinc 3 1) 3 98 := ⟨by decide +kernel, rfl⟩
theorem eX4_marks_98 : Dj mX4_marks 98 (.goto (-37)) (-37) 101 61 := ⟨by decide +kernel, rfl, rfl⟩
theorem eX4_marks_101 : Dn mX4_marks 101 (.aload_n 0) 1 102 := ⟨by decide +kernel, rfl⟩
theorem eX4_marks_102 : Dn mX4_marks 102 (.getfield 7) 3 105 := ⟨by decide +kernel, rfl⟩
theorem eX4_marks_105 : Dn mX4_marks 105 (.iload_n 1) 1 106 := ⟨by decide +kernel, rfl⟩
theorem eX4_marks_106 : Dn mX4_marks 106 (.iconst 3) 1 107 := ⟨by decide +kernel, rfl⟩
theorem eX4_marks_107 : Dn mX4_marks 107 (.invokestatic 59) 3 110 := ⟨by decide +kernel, rfl⟩
theorem eX4_marks_110 : Dn mX4_marks 110 (.sipush 9999) 3 113 := ⟨by decide +kernel, rfl⟩
theorem eX4_marks_113 : Dn mX4_marks 113 (.aload_n 0) 1 114 := ⟨by decide +kernel, rfl⟩
theorem eX4_marks_114 : Dn mX4_marks 114 (.iload_n 1) 1 115 := ⟨by decide +kernel, rfl⟩
theorem eX4_marks_115 : Dn mX4_marks 115 (.iconst 3) 1 116 := ⟨by decide +kernel, rfl⟩
theorem eX4_marks_116 : Dn mX4_marks 116 (.invokevirtual 71) 3 119 := ⟨by decide +kernel, rfl⟩
theorem eX4_marks_119 : Dn mX4_marks 119 (.iload_n 2) 1 120 := ⟨by decide +kernel, rfl⟩
theorem eX4_marks_120 : Dn mX4_marks 120 (.iadd) 1 121 := ⟨by decide +kernel, rfl⟩
theorem eX4_marks_121 : Dn mX4_marks 121 (.invokestatic 108) 3 124 := ⟨by decide +kernel, rfl⟩
theorem eX4_marks_124 : Dn mX4_marks 124 (.iastore) 1 125 := ⟨by decide +kernel, rfl⟩
theorem eX4_marks_125 : Dn mX4_marks 125 (.return_) 1 126 := ⟨by decide +kernel, rfl⟩
theorem eX4_day_0 : Dn mX4_day 0 (.iconst 0) 1 1 := ⟨by decide +kernel, rfl⟩
theorem eX4_day_1 : Dn mX4_day 1 (.istore_n 1) 1 2 := ⟨by decide +kernel, rfl⟩
theorem eX4_day_2 : Dn mX4_day 2 (.iload_n 1) 1 3 := ⟨by decide +kernel, rfl⟩
theorem eX4_day_3 : Dn mX4_day 3 (.aload_n 0) 1 4 := ⟨by decide +kernel, rfl⟩
theorem eX4_day_4 : Dn mX4_day 4 (.getfield 7) 3 7 := ⟨by decide +kernel, rfl⟩
theorem eX4_day_7 : Dn mX4_day 7 (.iconst 0) 1 8 := ⟨by decide +kernel, rfl⟩
theorem eX4_day_8 : Dn mX4_day 8 (.iaload) 1 9 := ⟨by decide +kernel, rfl⟩
theorem eX4_day_9 : Dj mX4_day 9 (.if_icmp .ge 14) (14) 12 23 := ⟨by decide +kernel, rfl, rfl⟩
theorem eX4_day_12 : Dn mX4_day 12 (.aload_n 0) 1 13 := ⟨by decide +kernel, rfl⟩
theorem eX4_day_13 : Dn mX4_day 13 (.iload_n 1) 1 14 := ⟨by decide +kernel, rfl⟩
theorem eX4_day_14 : Dn mX4_day 14 (.invokevirtual 117) 3 17 := ⟨by decide +kernel, rfl⟩
theorem eX4_day_17 : Dn mX4_day 17 (.iinc 1 1) 3 20 := ⟨by decide +kernel, rfl⟩
theorem eX4_day_20 : Dj mX4_day 20 (.goto (-18)) (-18) 23 2 := ⟨by decide +kernel, rfl, rfl⟩
theorem eX4_day_23 : Dn mX4_day 23 (.iconst 0) 1 24 := ⟨by decide +kernel, rfl⟩
theorem eX4_day_24 : Dn mX4_day 24 (.istore_n 1) 1 25 := ⟨by decide +kernel, rfl⟩
theorem eX4_day_25 : Dn mX4_day 25 (.iload_n 1) 1 26 := ⟨by decide +kernel, rfl⟩
theorem eX4_day_26 : Dn mX4_day 26 (.aload_n 0) 1 27 := ⟨by decide +kernel, rfl⟩
theorem eX4_day_27 : Dn mX4_day 27 (.getfield 7) 3 30 := ⟨by decide +kernel, rfl⟩
theorem eX4_day_30 : Dn mX4_day 30 (.iconst 0) 1 31 := ⟨by decide +kernel, rfl⟩
theorem eX4_day_31 : Dn mX4_day 31 (.iaload) 1 32 := ⟨by decide +kernel, rfl⟩
theorem eX4_day_32 : Dj mX4_day 32 (.if_icmp .ge 14) (14) 35 46 := ⟨by decide +kernel, rfl, rfl⟩
theorem eX4_day_35 : Dn mX4_day 35 (.aload_n 0) 1 36 := ⟨by decide +kernel, rfl⟩
theorem eX4_day_36 : Dn mX4_day 36 (.iload_n 1) 1 37 := ⟨by decide +kernel, rfl⟩
theorem eX4_day_37 : Dn mX4_day 37 (.invokevirtual 121) 3 40 := ⟨by decide +kernel, rfl⟩
theorem eX4_day_40 : Dn mX4_day 40 (.iinc 1 1) 3 43 := ⟨by decide +kernel, rfl⟩
theorem eX4_day_43 : Dj mX4_day 43 (.goto (-18)) (-18) 46 25 := ⟨by decide +kernel, rfl, rfl⟩
theorem eX4_day_46 : Dn mX4_day 46 (.iconst 0) 1 47 := ⟨by decide +kernel, rfl⟩
theorem eX4_day_47 : Dn mX4_day 47 (.istore_n 1) 1 48 := ⟨by decide +kernel, rfl⟩
theorem eX4_day_48 : Dn mX4_day 48 (.iload_n 1) 1 49 := ⟨by decide +kernel, rfl⟩
theorem eX4_day_49 : Dn mX4_day 49 (.bipush 8) 2 51 := ⟨by decide +kernel, rfl⟩
theorem eX4_day_51 : Dj mX4_day 51 (.if_icmp .ge 34) (34) 54 85 := ⟨by decide +kernel, rfl, rfl⟩
theorem eX4_day_54 : Dn mX4_day 54 (.aload_n 0) 1 55 := ⟨by decide +kernel, rfl⟩
theorem eX4_day_55 : Dn mX4_day 55 (.getfield 7) 3 58 := ⟨by decide +kernel, rfl⟩
theorem eX4_day_58 : Dn mX4_day 58 (.iconst 4) 1 59 := ⟨by decide +kernel, rfl⟩
theorem eX4_day_59 : Dn mX4_day 59 (.iload_n 1) 1 60 := ⟨by decide +kernel, rfl⟩
theorem eX4_day_60 : Dn mX4_day 60 (.iadd) 1 61 := ⟨by decide +kernel, rfl⟩
theorem eX4_day_61 : Dn mX4_day 61 (.iconst 3) 1 62 := ⟨by decide +kernel, rfl⟩
theorem eX4_day_62 : Dn mX4_day 62 (.aload_n 0) 1 63 := ⟨by decide +kernel, rfl⟩
theorem eX4_day_63 : Dn mX4_day 63 (.getfield 7) 3 66 := ⟨by decide +kernel, rfl⟩
theorem eX4_day_66 : Dn mX4_day 66 (.iconst 4) 1 67 := ⟨by decide +kernel, rfl⟩
theorem eX4_day_67 : Dn mX4_day 67 (.iload_n 1) 1 68 := ⟨by decide +kernel, rfl⟩
theorem eX4_day_68 : Dn mX4_day 68 (.iadd) 1 69 := ⟨by decide +kernel, rfl⟩
theorem eX4_day_69 : Dn mX4_day 69 (.iaload) 1 70 := ⟨by decide +kernel, rfl⟩
theorem eX4_day_70 : Dn mX4_day 70 (.imul) 1 71 := ⟨by decide +kernel, rfl⟩
theorem eX4_day_71 : Dn mX4_day 71 (.iload_n 1) 1 72 := ⟨by decide +kernel, rfl⟩
theorem eX4_day_72 : Dn mX4_day 72 (.iadd) 1 73 := ⟨by decide +kernel, rfl⟩
theorem eX4_day_73 : Dn mX4_day 73 (.iconst 1) 1 74 := ⟨by decide +kernel, rfl⟩
theorem eX4_day_74 : Dn mX4_day 74 (.iadd) 1 75 := ⟨by decide +kernel, rfl⟩
theorem eX4_day_75 : Dn mX4_day 75 (.bipush 100) 2 77 := ⟨by decide +kernel, rfl⟩
theorem eX4_day_77 : Dn mX4_day 77 (.irem) 1 78 := ⟨by decide +kernel, rfl⟩
theorem eX4_day_78 : Dn mX4_day 78 (.iastore) 1 79 := ⟨by decide +kernel, rfl⟩
theorem eX4_day_79 : Dn mX4_day 79 (.iinc 1 1) 3 82 := ⟨by decide +kernel, rfl⟩
theorem eX4_day_82 : Dj mX4_day 82 (.goto (-34)) (-34) 85 48 := ⟨by decide +kernel, rfl, rfl⟩
theorem eX4_day_85 : Dn mX4_day 85 (.aload_n 0) 1 86 := ⟨by decide +kernel, rfl⟩
theorem eX4_day_86 : Dn mX4_day 86 (.getfield 7) 3 89 := ⟨by decide +kernel, rfl⟩
theorem eX4_day_89 : Dn mX4_day 89 (.iconst 1) 1 90 := ⟨by decide +kernel, rfl⟩
theorem eX4_day_90 : Dn mX4_day 90 (.dup2) 1 91 := ⟨by decide +kernel, rfl⟩
theorem eX4_day_91 : Dn mX4_day 91 (.iaload) 1 92 := ⟨by decide +kernel, rfl⟩
theorem eX4_day_92 : Dn mX4_day 92 (.iconst 1) 1 93 := ⟨by decide +kernel, rfl⟩
theorem eX4_day_93 : Dn mX4_day 93 (.iadd) 1 94 := ⟨by decide +kernel, rfl⟩
theorem eX4_day_94 : Dn mX4_day 94 (.iastore) 1 95 := ⟨by decide +kernel, rfl⟩
theorem eX4_day_95 : Dn mX4_day 95 (.return_) 1 96 := ⟨by decide +kernel, rfl⟩
theorem eX4_goes_0 : Dn mX4_goes 0 (.iconst 0) 1 1 := ⟨by decide +kernel, rfl⟩
theorem eX4_goes_1 : Dn mX4_goes 1 (.istore_n 2) 1 2 := ⟨by decide +kernel, rfl⟩
theorem eX4_goes_2 : Dn mX4_goes 2 (.iload_n 2) 1 3 := ⟨by decide +kernel, rfl⟩
theorem eX4_goes_3 : Dn mX4_goes 3 (.iload_n 1) 1 4 := ⟨by decide +kernel, rfl⟩
theorem eX4_goes_4 : Dj mX4_goes 4 (.if_icmp .ge 13) (13) 7 17 := ⟨by decide +kernel, rfl, rfl⟩
theorem eX4_goes_7 : Dn mX4_goes 7 (.aload_n 0) 1 8 := ⟨by decide +kernel, rfl⟩
theorem eX4_goes_8 : Dn mX4_goes 8 (.invokevirtual 124) 3 11 := ⟨by decide +kernel, rfl⟩
theorem eX4_goes_11 : Dn mX4_goes 11 (.iinc 2 1) 3 14 := ⟨by decide +kernel, rfl⟩
theorem eX4_goes_14 : Dj mX4_goes 14 (.goto (-12)) (-12) 17 2 := ⟨by decide +kernel, rfl, rfl⟩
theorem eX4_goes_17 : Dn mX4_goes 17 (.return_) 1 18 := ⟨by decide +kernel, rfl⟩
theorem eX4_sumOf_0 : Dn mX4_sumOf 0 (.iconst 0) 1 1 := ⟨by decide +kernel, rfl⟩
theorem eX4_sumOf_1 : Dn mX4_sumOf 1 (.istore_n 2) 1 2 := ⟨by decide +kernel, rfl⟩
theorem eX4_sumOf_2 : Dn mX4_sumOf 2 (.iconst 0) 1 3 := ⟨by decide +kernel, rfl⟩
theorem eX4_sumOf_3 : Dn mX4_sumOf 3 (.istore_n 3) 1 4 := ⟨by decide +kernel, rfl⟩
theorem eX4_sumOf_4 : Dn mX4_sumOf 4 (.iload_n 3) 1 5 := ⟨by decide +kernel, rfl⟩
theorem eX4_sumOf_5 : Dn mX4_sumOf 5 (.aload_n 0) 1 6 := ⟨by decide +kernel, rfl⟩
theorem eX4_sumOf_6 : Dn mX4_sumOf 6 (.getfield 7) 3 9 := ⟨by decide +kernel, rfl⟩
theorem eX4_sumOf_9 : Dn mX4_sumOf 9 (.iconst 0) 1 10 := ⟨by decide +kernel, rfl⟩
theorem eX4_sumOf_10 : Dn mX4_sumOf 10 (.iaload) 1 11 := ⟨by decide +kernel, rfl⟩
theorem eX4_sumOf_11 : Dj mX4_sumOf 11 (.if_icmp .ge 18) (18) 14 29 := ⟨by decide +kernel, rfl, rfl⟩
theorem eX4_sumOf_14 : Dn mX4_sumOf 14 (.iload_n 2) 1 15 := ⟨by decide +kernel, rfl⟩
theorem eX4_sumOf_15 : Dn mX4_sumOf 15 (.aload_n 0) 1 16 := ⟨by decide +kernel, rfl⟩
theorem eX4_sumOf_16 : Dn mX4_sumOf 16 (.iload_n 3) 1 17 := ⟨by decide +kernel, rfl⟩
theorem eX4_sumOf_17 : Dn mX4_sumOf 17 (.iload_n 1) 1 18 := ⟨by decide +kernel, rfl⟩
theorem eX4_sumOf_18 : Dn mX4_sumOf 18 (.invokevirtual 71) 3 21 := ⟨by decide +kernel, rfl⟩
theorem eX4_sumOf_21 : Dn mX4_sumOf 21 (.iadd) 1 22 := ⟨by decide +kernel, rfl⟩
theorem eX4_sumOf_22 : Dn mX4_sumOf 22 (.istore_n 2) 1 23 := ⟨by decide +kernel, rfl⟩
theorem eX4_sumOf_23 : Dn mX4_sumOf 23 (.iinc 3 1) 3 26 := ⟨by decide +kernel, rfl⟩
theorem eX4_sumOf_26 : Dj mX4_sumOf 26 (.goto (-22)) (-22) 29 4 := ⟨by decide +kernel, rfl, rfl⟩
theorem eX4_sumOf_29 : Dn mX4_sumOf 29 (.iload_n 2) 1 30 := ⟨by decide +kernel, rfl⟩
theorem eX4_sumOf_30 : Dn mX4_sumOf 30 (.ireturn) 1 31 := ⟨by decide +kernel, rfl⟩
theorem eX4_go_0 : Dn mX4_go 0 (.iload_n 1) 1 1 := ⟨by decide +kernel, rfl⟩
theorem eX4_go_1 : Dn mX4_go 1 (.i2l) 1 2 := ⟨by decide +kernel, rfl⟩
theorem eX4_go_2 : Dn mX4_go 2 (.lconst 1) 1 3 := ⟨by decide +kernel, rfl⟩
theorem eX4_go_3 : Dn mX4_go 3 (.ldc2_w 127) 3 6 := ⟨by decide +kernel, rfl⟩
theorem eX4_go_6 : Dn mX4_go 6 (.invokestatic 49) 3 9 := ⟨by decide +kernel, rfl⟩
theorem eX4_go_9 : Dj mX4_go 9 (.ifCond .ne 10) (10) 12 19 := ⟨by decide +kernel, rfl, rfl⟩
theorem eX4_go_12 : Dn mX4_go 12 (.aload_n 0) 1 13 := ⟨by decide +kernel, rfl⟩
theorem eX4_go_13 : Dn mX4_go 13 (.ldc 37) 2 15 := ⟨by decide +kernel, rfl⟩
theorem eX4_go_15 : Dn mX4_go 15 (.invokevirtual 39) 3 18 := ⟨by decide +kernel, rfl⟩
theorem eX4_go_18 : Dn mX4_go 18 (.ireturn) 1 19 := ⟨by decide +kernel, rfl⟩
theorem eX4_go_19 : Dn mX4_go 19 (.aload_n 0) 1 20 := ⟨by decide +kernel, rfl⟩
theorem eX4_go_20 : Dn mX4_go 20 (.getfield 7) 3 23 := ⟨by decide +kernel, rfl⟩
theorem eX4_go_23 : Dn mX4_go 23 (.iconst 1) 1 24 := ⟨by decide +kernel, rfl⟩
theorem eX4_go_24 : Dn mX4_go 24 (.iaload) 1 25 := ⟨by decide +kernel, rfl⟩
theorem eX4_go_25 : Dn mX4_go 25 (.iload_n 1) 1 26 := ⟨by decide +kernel, rfl⟩
theorem eX4_go_26 : Dn mX4_go 26 (.iadd) 1 27 := ⟨by decide +kernel, rfl⟩
theorem eX4_go_27 : Dn mX4_go 27 (.ldc 129) 2 29 := ⟨by decide +kernel, rfl⟩
theorem eX4_go_29 : Dj mX4_go 29 (.if_icmp .le 10) (10) 32 39 := ⟨by decide +kernel, rfl, rfl⟩
theorem eX4_go_32 : Dn mX4_go 32 (.aload_n 0) 1 33 := ⟨by decide +kernel, rfl⟩
theorem eX4_go_33 : Dn mX4_go 33 (.ldc 130) 2 35 := ⟨by decide +kernel, rfl⟩
theorem eX4_go_35 : Dn mX4_go 35 (.invokevirtual 39) 3 38 := ⟨by decide +kernel, rfl⟩
theorem eX4_go_38 : Dn mX4_go 38 (.ireturn) 1 39 := ⟨by decide +kernel, rfl⟩
theorem eX4_go_39 : Dn mX4_go 39 (.aload_n 0) 1 40 := ⟨by decide +kernel, rfl⟩
theorem eX4_go_40 : Dn mX4_go 40 (.iload_n 1) 1 41 := ⟨by decide +kernel, rfl⟩
theorem eX4_go_41 : Dn mX4_go 41 (.invokevirtual 131) 3 44 := ⟨by decide +kernel, rfl⟩
theorem eX4_go_44 : Dn mX4_go 44 (.aload_n 0) 1 45 := ⟨by decide +kernel, rfl⟩
theorem eX4_go_45 : Dn mX4_go 45 (.iconst 3) 1 46 := ⟨by decide +kernel, rfl⟩
theorem eX4_go_46 : Dn mX4_go 46 (.invokevirtual 134) 3 49 := ⟨by decide +kernel, rfl⟩
theorem eX4_go_49 : Dn mX4_go 49 (.ireturn) 1 50 := ⟨by decide +kernel, rfl⟩
theorem eX4_lenders_0 : Dn mX4_lenders 0 (.iconst 0) 1 1 := ⟨by decide +kernel, rfl⟩
theorem eX4_lenders_1 : Dn mX4_lenders 1 (.istore_n 1) 1 2 := ⟨by decide +kernel, rfl⟩
theorem eX4_lenders_2 : Dn mX4_lenders 2 (.iconst 0) 1 3 := ⟨by decide +kernel, rfl⟩
theorem eX4_lenders_3 : Dn mX4_lenders 3 (.istore_n 2) 1 4 := ⟨by decide +kernel, rfl⟩
theorem eX4_lenders_4 : Dn mX4_lenders 4 (.iload_n 2) 1 5 := ⟨by decide +kernel, rfl⟩
theorem eX4_lenders_5 : Dn mX4_lenders 5 (.aload_n 0) 1 6 := ⟨by decide +kernel, rfl⟩
theorem eX4_lenders_6 : Dn mX4_lenders 6 (.getfield 7) 3 9 := ⟨by decide +kernel, rfl⟩
theorem eX4_lenders_9 : Dn mX4_lenders 9 (.iconst 0) 1 10 := ⟨by decide +kernel, rfl⟩
theorem eX4_lenders_10 : Dn mX4_lenders 10 (.iaload) 1 11 := ⟨by decide +kernel, rfl⟩
theorem eX4_lenders_11 : Dj mX4_lenders 11 (.if_icmp .ge 33) (33) 14 44 := ⟨by decide +kernel, rfl, rfl⟩
theorem eX4_lenders_14 : Dn mX4_lenders 14 (.iload_n 1) 1 15 := ⟨by decide +kernel, rfl⟩
theorem eX4_lenders_15 : Dn mX4_lenders 15 (.aload_n 0) 1 16 := ⟨by decide +kernel, rfl⟩
theorem eX4_lenders_16 : Dn mX4_lenders 16 (.iload_n 2) 1 17 := ⟨by decide +kernel, rfl⟩
theorem eX4_lenders_17 : Dn mX4_lenders 17 (.iconst 2) 1 18 := ⟨by decide +kernel, rfl⟩
theorem eX4_lenders_18 : Dn mX4_lenders 18 (.invokevirtual 71) 3 21 := ⟨by decide +kernel, rfl⟩
theorem eX4_lenders_21 : Dj mX4_lenders 21 (.ifCond .lt 14) (14) 24 35 := ⟨by decide +kernel, rfl, rfl⟩
theorem eX4_lenders_24 : Dn mX4_lenders 24 (.iconst 1) 1 25 := ⟨by decide +kernel, rfl⟩
theorem eX4_lenders_25 : Dn mX4_lenders 25 (.aload_n 0) 1 26 := ⟨by decide +kernel, rfl⟩
theorem eX4_lenders_26 : Dn mX4_lenders 26 (.iload_n 2) 1 27 := ⟨by decide +kernel, rfl⟩
theorem eX4_lenders_27 : Dn mX4_lenders 27 (.iconst 2) 1 28 := ⟨by decide +kernel, rfl⟩
theorem eX4_lenders_28 : Dn mX4_lenders 28 (.invokevirtual 71) 3 31 := ⟨by decide +kernel, rfl⟩
theorem eX4_lenders_31 : Dn mX4_lenders 31 (.ishl) 1 32 := ⟨by decide +kernel, rfl⟩
theorem eX4_lenders_32 : Dj mX4_lenders 32 (.goto 4) (4) 35 36 := ⟨by decide +kernel, rfl, rfl⟩
theorem eX4_lenders_35 : Dn mX4_lenders 35 (.iconst 0) 1 36 := ⟨by decide +kernel, rfl⟩
theorem eX4_lenders_36 : Dn mX4_lenders 36 (.ior) 1 37 := ⟨by decide +kernel, rfl⟩
theorem eX4_lenders_37 : Dn mX4_lenders 37 (.istore_n 1) 1 38 := ⟨by decide +kernel, rfl⟩
theorem eX4_lenders_38 : Dn mX4_lenders 38 (.iinc 2 1) 3 41 := ⟨by decide +kernel, rfl⟩
theorem eX4_lenders_41 : Dj mX4_lenders 41 (.goto (-37)) (-37) 44 4 := ⟨by decide +kernel, rfl, rfl⟩
theorem eX4_lenders_44 : Dn mX4_lenders 44 (.iload_n 1) 1 45 := ⟨by decide +kernel, rfl⟩
theorem eX4_lenders_45 : Dn mX4_lenders 45 (.ireturn) 1 46 := ⟨by decide +kernel, rfl⟩
theorem eX4_bests_0 : Dn mX4_bests 0 (.iconst 0) 1 1 := ⟨by decide +kernel, rfl⟩
theorem eX4_bests_1 : Dn mX4_bests 1 (.istore_n 1) 1 2 := ⟨by decide +kernel, rfl⟩
theorem eX4_bests_2 : Dn mX4_bests 2 (.iconst (-1)) 1 3 := ⟨by decide +kernel, rfl⟩
theorem eX4_bests_3 : Dn mX4_bests 3 (.istore_n 2) 1 4 := ⟨by decide +kernel, rfl⟩
theorem eX4_bests_4 : Dn mX4_bests 4 (.iconst 0) 1 5 := ⟨by decide +kernel, rfl⟩
theorem eX4_bests_5 : Dn mX4_bests 5 (.istore_n 3) 1 6 := ⟨by decide +kernel, rfl⟩
theorem eX4_bests_6 : Dn mX4_bests 6 (.iload_n 3) 1 7 := ⟨by decide +kernel, rfl⟩
theorem eX4_bests_7 : Dn mX4_bests 7 (.aload_n 0) 1 8 := ⟨by decide +kernel, rfl⟩
theorem eX4_bests_8 : Dn mX4_bests 8 (.getfield 7) 3 11 := ⟨by decide +kernel, rfl⟩
theorem eX4_bests_11 : Dn mX4_bests 11 (.iconst 0) 1 12 := ⟨by decide +kernel, rfl⟩
theorem eX4_bests_12 : Dn mX4_bests 12 (.iaload) 1 13 := ⟨by decide +kernel, rfl⟩
theorem eX4_bests_13 : Dj mX4_bests 13 (.if_icmp .ge 52) (52) 16 65 := ⟨by decide +kernel, rfl, rfl⟩
theorem eX4_bests_16 : Dn mX4_bests 16 (.aload_n 0) 1 17 := ⟨by decide +kernel, rfl⟩
theorem eX4_bests_17 : Dn mX4_bests 17 (.iload_n 3) 1 18 := ⟨by decide +kernel, rfl⟩
theorem eX4_bests_18 : Dn mX4_bests 18 (.iconst 3) 1 19 := ⟨by decide +kernel, rfl⟩
theorem eX4_bests_19 : Dn mX4_bests 19 (.invokevirtual 71) 3 22 := ⟨by decide +kernel, rfl⟩
theorem eX4_bests_22 : Dn mX4_bests 22 (.istore 4) 2 24 := ⟨by decide +kernel, rfl⟩
theorem eX4_bests_24 : Dn mX4_bests 24 (.iload 4) 2 26 := ⟨by decide +kernel, rfl⟩
theorem eX4_bests_26 : Dn mX4_bests 26 (.iload_n 2) 1 27 := ⟨by decide +kernel, rfl⟩
theorem eX4_bests_27 : Dj mX4_bests 27 (.if_icmp .le 9) (9) 30 36 := ⟨by decide +kernel, rfl, rfl⟩
theorem eX4_bests_30 : Dn mX4_bests 30 (.iconst 1) 1 31 := ⟨by decide +kernel, rfl⟩
theorem eX4_bests_31 : Dn mX4_bests 31 (.iload_n 3) 1 32 := ⟨by decide +kernel, rfl⟩
theorem eX4_bests_32 : Dn mX4_bests 32 (.ishl) 1 33 := ⟨by decide +kernel, rfl⟩
theorem eX4_bests_33 : Dj mX4_bests 33 (.goto 18) (18) 36 51 := ⟨by decide +kernel, rfl, rfl⟩
theorem eX4_bests_36 : Dn mX4_bests 36 (.iload 4) 2 38 := ⟨by decide +kernel, rfl⟩
theorem eX4_bests_38 : Dn mX4_bests 38 (.iload_n 2) 1 39 := ⟨by decide +kernel, rfl⟩
theorem eX4_bests_39 : Dj mX4_bests 39 (.if_icmp .ne 11) (11) 42 50 := ⟨by decide +kernel, rfl, rfl⟩
theorem eX4_bests_42 : Dn mX4_bests 42 (.iload_n 1) 1 43 := ⟨by decide +kernel, rfl⟩
theorem eX4_bests_43 : Dn mX4_bests 43 (.iconst 1) 1 44 := ⟨by decide +kernel, rfl⟩
theorem eX4_bests_44 : Dn mX4_bests 44 (.iload_n 3) 1 45 := ⟨by decide +kernel, rfl⟩
theorem eX4_bests_45 : Dn mX4_bests 45 (.ishl) 1 46 := ⟨by decide +kernel, rfl⟩
theorem eX4_bests_46 : Dn mX4_bests 46 (.ior) 1 47 := ⟨by decide +kernel, rfl⟩
theorem eX4_bests_47 : Dj mX4_bests 47 (.goto 4) (4) 50 51 := ⟨by decide +kernel, rfl, rfl⟩
theorem eX4_bests_50 : Dn mX4_bests 50 (.iload_n 1) 1 51 := ⟨by decide +kernel, rfl⟩
theorem eX4_bests_51 : Dn mX4_bests 51 (.istore_n 1) 1 52 := ⟨by decide +kernel, rfl⟩
theorem eX4_bests_52 : Dn mX4_bests 52 (.iload_n 2) 1 53 := ⟨by decide +kernel, rfl⟩
theorem eX4_bests_53 : Dn mX4_bests 53 (.iload 4) 2 55 := ⟨by decide +kernel, rfl⟩
theorem eX4_bests_55 : Dn mX4_bests 55 (.invokestatic 137) 3 58 := ⟨by decide +kernel, rfl⟩
theorem eX4_bests_58 : Dn mX4_bests 58 (.istore_n 2) 1 59 := ⟨by decide +kernel, rfl⟩
theorem eX4_bests_59 : Dn mX4_bests 59 (.iinc 3 1) 3 62 := ⟨by decide +kernel, rfl⟩
theorem eX4_bests_62 : Dj mX4_bests 62 (.goto (-56)) (-56) 65 6 := ⟨by decide +kernel, rfl, rfl⟩
theorem eX4_bests_65 : Dn mX4_bests 65 (.iload_n 1) 1 66 := ⟨by decide +kernel, rfl⟩
theorem eX4_bests_66 : Dn mX4_bests 66 (.ireturn) 1 67 := ⟨by decide +kernel, rfl⟩
theorem eX4_unknown_0 : Dn mX4_unknown 0 (.sipush 255) 3 3 := ⟨by decide +kernel, rfl⟩
theorem eX4_unknown_3 : Dn mX4_unknown 3 (.istore_n 1) 1 4 := ⟨by decide +kernel, rfl⟩
theorem eX4_unknown_4 : Dn mX4_unknown 4 (.iconst 0) 1 5 := ⟨by decide +kernel, rfl⟩
theorem eX4_unknown_5 : Dn mX4_unknown 5 (.istore_n 2) 1 6 := ⟨by decide +kernel, rfl⟩
theorem eX4_unknown_6 : Dn mX4_unknown 6 (.iload_n 2) 1 7 := ⟨by decide +kernel, rfl⟩
theorem eX4_unknown_7 : Dn mX4_unknown 7 (.aload_n 0) 1 8 := ⟨by decide +kernel, rfl⟩
theorem eX4_unknown_8 : Dn mX4_unknown 8 (.getfield 7) 3 11 := ⟨by decide +kernel, rfl⟩
theorem eX4_unknown_11 : Dn mX4_unknown 11 (.iconst 0) 1 12 := ⟨by decide +kernel, rfl⟩
theorem eX4_unknown_12 : Dn mX4_unknown 12 (.iaload) 1 13 := ⟨by decide +kernel, rfl⟩
theorem eX4_unknown_13 : Dj mX4_unknown 13 (.if_icmp .ge 20) (20) 16 33 := ⟨by decide +kernel, rfl, rfl⟩
theorem eX4_unknown_16 : Dn mX4_unknown 16 (.iload_n 1) 1 17 := ⟨by decide +kernel, rfl⟩
theorem eX4_unknown_17 : Dn mX4_unknown 17 (.aload_n 0) 1 18 := ⟨by decide +kernel, rfl⟩
theorem eX4_unknown_18 : Dn mX4_unknown 18 (.iload_n 2) 1 19 := ⟨by decide +kernel, rfl⟩
theorem eX4_unknown_19 : Dn mX4_unknown 19 (.iconst 1) 1 20 := ⟨by decide +kernel, rfl⟩
theorem eX4_unknown_20 : Dn mX4_unknown 20 (.invokevirtual 71) 3 23 := ⟨by decide +kernel, rfl⟩
theorem eX4_unknown_23 : Dn mX4_unknown 23 (.iconst (-1)) 1 24 := ⟨by decide +kernel, rfl⟩
theorem eX4_unknown_24 : Dn mX4_unknown 24 (.ixor) 1 25 := ⟨by decide +kernel, rfl⟩
theorem eX4_unknown_25 : Dn mX4_unknown 25 (.iand) 1 26 := ⟨by decide +kernel, rfl⟩
theorem eX4_unknown_26 : Dn mX4_unknown 26 (.istore_n 1) 1 27 := ⟨by decide +kernel, rfl⟩
theorem eX4_unknown_27 : Dn mX4_unknown 27 (.iinc 2 1) 3 30 := ⟨by decide +kernel, rfl⟩
theorem eX4_unknown_30 : Dj mX4_unknown 30 (.goto (-24)) (-24) 33 6 := ⟨by decide +kernel, rfl, rfl⟩
theorem eX4_unknown_33 : Dn mX4_unknown 33 (.iload_n 1) 1 34 := ⟨by decide +kernel, rfl⟩
theorem eX4_unknown_34 : Dn mX4_unknown 34 (.ireturn) 1 35 := ⟨by decide +kernel, rfl⟩
theorem eX4_now_0 : Dn mX4_now 0 (.iload_n 1) 1 1 := ⟨by decide +kernel, rfl⟩
theorem eX4_now_1 : Dn mX4_now 1 (.tableswitch 83 0 6 #[43, 50, 56, 62, 68, 73, 78]) 43 44 := ⟨by decide +kernel, rfl⟩
theorem eX4_now_44 : Dn mX4_now 44 (.aload_n 0) 1 45 := ⟨by decide +kernel, rfl⟩
theorem eX4_now_45 : Dn mX4_now 45 (.getfield 7) 3 48 := ⟨by decide +kernel, rfl⟩
theorem eX4_now_48 : Dn mX4_now 48 (.iconst 1) 1 49 := ⟨by decide +kernel, rfl⟩
theorem eX4_now_49 : Dn mX4_now 49 (.iaload) 1 50 := ⟨by decide +kernel, rfl⟩
theorem eX4_now_50 : Dn mX4_now 50 (.ireturn) 1 51 := ⟨by decide +kernel, rfl⟩
theorem eX4_now_51 : Dn mX4_now 51 (.aload_n 0) 1 52 := ⟨by decide +kernel, rfl⟩
theorem eX4_now_52 : Dn mX4_now 52 (.iconst 3) 1 53 := ⟨by decide +kernel, rfl⟩
theorem eX4_now_53 : Dn mX4_now 53 (.invokevirtual 134) 3 56 := ⟨by decide +kernel, rfl⟩
theorem eX4_now_56 : Dn mX4_now 56 (.ireturn) 1 57 := ⟨by decide +kernel, rfl⟩
theorem eX4_now_57 : Dn mX4_now 57 (.aload_n 0) 1 58 := ⟨by decide +kernel, rfl⟩
theorem eX4_now_58 : Dn mX4_now 58 (.iconst 5) 1 59 := ⟨by decide +kernel, rfl⟩
theorem eX4_now_59 : Dn mX4_now 59 (.invokevirtual 134) 3 62 := ⟨by decide +kernel, rfl⟩
theorem eX4_now_62 : Dn mX4_now 62 (.ireturn) 1 63 := ⟨by decide +kernel, rfl⟩
theorem eX4_now_63 : Dn mX4_now 63 (.aload_n 0) 1 64 := ⟨by decide +kernel, rfl⟩
theorem eX4_now_64 : Dn mX4_now 64 (.iconst 4) 1 65 := ⟨by decide +kernel, rfl⟩
theorem eX4_now_65 : Dn mX4_now 65 (.invokevirtual 134) 3 68 := ⟨by decide +kernel, rfl⟩
theorem eX4_now_68 : Dn mX4_now 68 (.ireturn) 1 69 := ⟨by decide +kernel, rfl⟩
theorem eX4_now_69 : Dn mX4_now 69 (.aload_n 0) 1 70 := ⟨by decide +kernel, rfl⟩
theorem eX4_now_70 : Dn mX4_now 70 (.invokevirtual 140) 3 73 := ⟨by decide +kernel, rfl⟩
theorem eX4_now_73 : Dn mX4_now 73 (.ireturn) 1 74 := ⟨by decide +kernel, rfl⟩
theorem eX4_now_74 : Dn mX4_now 74 (.aload_n 0) 1 75 := ⟨by decide +kernel, rfl⟩
theorem eX4_now_75 : Dn mX4_now 75 (.invokevirtual 144) 3 78 := ⟨by decide +kernel, rfl⟩
theorem eX4_now_78 : Dn mX4_now 78 (.ireturn) 1 79 := ⟨by decide +kernel, rfl⟩
theorem eX4_now_79 : Dn mX4_now 79 (.aload_n 0) 1 80 := ⟨by decide +kernel, rfl⟩
theorem eX4_now_80 : Dn mX4_now 80 (.invokevirtual 147) 3 83 := ⟨by decide +kernel, rfl⟩
theorem eX4_now_83 : Dn mX4_now 83 (.ireturn) 1 84 := ⟨by decide +kernel, rfl⟩
theorem eX4_now_84 : Dn mX4_now 84 (.aload_n 0) 1 85 := ⟨by decide +kernel, rfl⟩
theorem eX4_now_85 : Dn mX4_now 85 (.ldc 37) 2 87 := ⟨by decide +kernel, rfl⟩
theorem eX4_now_87 : Dn mX4_now 87 (.invokevirtual 39) 3 90 := ⟨by decide +kernel, rfl⟩
theorem eX4_now_90 : Dn mX4_now 90 (.ireturn) 1 91 := ⟨by decide +kernel, rfl⟩
theorem eX4_chain_0 : Dn mX4_chain 0 (.aload_n 0) 1 1 := ⟨by decide +kernel, rfl⟩
theorem eX4_chain_1 : Dn mX4_chain 1 (.iload_n 1) 1 2 := ⟨by decide +kernel, rfl⟩
theorem eX4_chain_2 : Dn mX4_chain 2 (.invokevirtual 77) 3 5 := ⟨by decide +kernel, rfl⟩
theorem eX4_chain_5 : Dj mX4_chain 5 (.ifCond .ne 10) (10) 8 15 := ⟨by decide +kernel, rfl, rfl⟩
theorem eX4_chain_8 : Dn mX4_chain 8 (.aload_n 0) 1 9 := ⟨by decide +kernel, rfl⟩
theorem eX4_chain_9 : Dn mX4_chain 9 (.ldc 37) 2 11 := ⟨by decide +kernel, rfl⟩
theorem eX4_chain_11 : Dn mX4_chain 11 (.invokevirtual 39) 3 14 := ⟨by decide +kernel, rfl⟩
theorem eX4_chain_14 : Dn mX4_chain 14 (.ireturn) 1 15 := ⟨by decide +kernel, rfl⟩
theorem eX4_chain_15 : Dn mX4_chain 15 (.iconst 0) 1 16 := ⟨by decide +kernel, rfl⟩
theorem eX4_chain_16 : Dn mX4_chain 16 (.istore_n 2) 1 17 := ⟨by decide +kernel, rfl⟩
theorem eX4_chain_17 : Dn mX4_chain 17 (.iload_n 1) 1 18 := ⟨by decide +kernel, rfl⟩
theorem eX4_chain_18 : Dn mX4_chain 18 (.istore_n 3) 1 19 := ⟨by decide +kernel, rfl⟩
theorem eX4_chain_19 : Dn mX4_chain 19 (.iload_n 2) 1 20 := ⟨by decide +kernel, rfl⟩
theorem eX4_chain_20 : Dn mX4_chain 20 (.bipush 8) 2 22 := ⟨by decide +kernel, rfl⟩
theorem eX4_chain_22 : Dj mX4_chain 22 (.if_icmp .ge 25) (25) 25 47 := ⟨by decide +kernel, rfl, rfl⟩
theorem eX4_chain_25 : Dn mX4_chain 25 (.aload_n 0) 1 26 := ⟨by decide +kernel, rfl⟩
theorem eX4_chain_26 : Dn mX4_chain 26 (.iload_n 3) 1 27 := ⟨by decide +kernel, rfl⟩
theorem eX4_chain_27 : Dn mX4_chain 27 (.iconst 2) 1 28 := ⟨by decide +kernel, rfl⟩
theorem eX4_chain_28 : Dn mX4_chain 28 (.invokevirtual 71) 3 31 := ⟨by decide +kernel, rfl⟩
theorem eX4_chain_31 : Dj mX4_chain 31 (.ifCond .lt 16) (16) 34 47 := ⟨by decide +kernel, rfl, rfl⟩
theorem eX4_chain_34 : Dn mX4_chain 34 (.aload_n 0) 1 35 := ⟨by decide +kernel, rfl⟩
theorem eX4_chain_35 : Dn mX4_chain 35 (.iload_n 3) 1 36 := ⟨by decide +kernel, rfl⟩
theorem eX4_chain_36 : Dn mX4_chain 36 (.iconst 2) 1 37 := ⟨by decide +kernel, rfl⟩
theorem eX4_chain_37 : Dn mX4_chain 37 (.invokevirtual 71) 3 40 := ⟨by decide +kernel, rfl⟩
theorem eX4_chain_40 : Dn mX4_chain 40 (.istore_n 3) 1 41 := ⟨by decide +kernel, rfl⟩
theorem eX4_chain_41 : Dn mX4_chain 41 (.iinc 2 1) 3 44 := ⟨by decide +kernel, rfl⟩
theorem eX4_chain_44 : Dj mX4_chain 44 (.goto (-25)) (-25) 47 19 := ⟨by decide +kernel, rfl, rfl⟩
theorem eX4_chain_47 : Dn mX4_chain 47 (.iload_n 2) 1 48 := ⟨by decide +kernel, rfl⟩
theorem eX4_chain_48 : Dn mX4_chain 48 (.ireturn) 1 49 := ⟨by decide +kernel, rfl⟩
theorem eX4_thenAt_0 : Dn mX4_thenAt 0 (.aload_n 0) 1 1 := ⟨by decide +kernel, rfl⟩
theorem eX4_thenAt_1 : Dn mX4_thenAt 1 (.getfield 7) 3 4 := ⟨by decide +kernel, rfl⟩
theorem eX4_thenAt_4 : Dn mX4_thenAt 4 (.aload_n 0) 1 5 := ⟨by decide +kernel, rfl⟩
theorem eX4_thenAt_5 : Dn mX4_thenAt 5 (.getfield 19) 3 8 := ⟨by decide +kernel, rfl⟩
theorem eX4_thenAt_8 : Dn mX4_thenAt 8 (.invokestatic 150) 3 11 := ⟨by decide +kernel, rfl⟩
theorem eX4_thenAt_11 : Dn mX4_thenAt 11 (.aload_n 0) 1 12 := ⟨by decide +kernel, rfl⟩
theorem eX4_thenAt_12 : Dn mX4_thenAt 12 (.iload_n 2) 1 13 := ⟨by decide +kernel, rfl⟩
theorem eX4_thenAt_13 : Dn mX4_thenAt 13 (.invokevirtual 131) 3 16 := ⟨by decide +kernel, rfl⟩
theorem eX4_thenAt_16 : Dn mX4_thenAt 16 (.aload_n 0) 1 17 := ⟨by decide +kernel, rfl⟩
theorem eX4_thenAt_17 : Dn mX4_thenAt 17 (.getfield 7) 3 20 := ⟨by decide +kernel, rfl⟩
theorem eX4_thenAt_20 : Dn mX4_thenAt 20 (.iload_n 1) 1 21 := ⟨by decide +kernel, rfl⟩
theorem eX4_thenAt_21 : Dn mX4_thenAt 21 (.iaload) 1 22 := ⟨by decide +kernel, rfl⟩
theorem eX4_thenAt_22 : Dn mX4_thenAt 22 (.istore_n 3) 1 23 := ⟨by decide +kernel, rfl⟩
theorem eX4_thenAt_23 : Dn mX4_thenAt 23 (.aload_n 0) 1 24 := ⟨by decide +kernel, rfl⟩
theorem eX4_thenAt_24 : Dn mX4_thenAt 24 (.getfield 19) 3 27 := ⟨by decide +kernel, rfl⟩
theorem eX4_thenAt_27 : Dn mX4_thenAt 27 (.aload_n 0) 1 28 := ⟨by decide +kernel, rfl⟩
theorem eX4_thenAt_28 : Dn mX4_thenAt 28 (.getfield 7) 3 31 := ⟨by decide +kernel, rfl⟩
theorem eX4_thenAt_31 : Dn mX4_thenAt 31 (.invokestatic 150) 3 34 := ⟨by decide +kernel, rfl⟩
theorem eX4_thenAt_34 : Dn mX4_thenAt 34 (.iload_n 3) 1 35 := ⟨by decide +kernel, rfl⟩
theorem eX4_thenAt_35 : Dn mX4_thenAt 35 (.ireturn) 1 36 := ⟨by decide +kernel, rfl⟩
theorem eX4_ahead_0 : Dn mX4_ahead 0 (.aload_n 0) 1 1 := ⟨by decide +kernel, rfl⟩
theorem eX4_ahead_1 : Dn mX4_ahead 1 (.iload_n 1) 1 2 := ⟨by decide +kernel, rfl⟩
theorem eX4_ahead_2 : Dn mX4_ahead 2 (.invokevirtual 77) 3 5 := ⟨by decide +kernel, rfl⟩
theorem eX4_ahead_5 : Dj mX4_ahead 5 (.ifCond .eq 38) (38) 8 43 := ⟨by decide +kernel, rfl, rfl⟩
theorem eX4_ahead_8 : Dn mX4_ahead 8 (.iload_n 2) 1 9 := ⟨by decide +kernel, rfl⟩
theorem eX4_ahead_9 : Dn mX4_ahead 9 (.iconst 1) 1 10 := ⟨by decide +kernel, rfl⟩
theorem eX4_ahead_10 : Dj mX4_ahead 10 (.if_icmp .eq 17) (17) 13 27 := ⟨by decide +kernel, rfl, rfl⟩
theorem eX4_ahead_13 : Dn mX4_ahead 13 (.iload_n 2) 1 14 := ⟨by decide +kernel, rfl⟩
theorem eX4_ahead_14 : Dn mX4_ahead 14 (.i2l) 1 15 := ⟨by decide +kernel, rfl⟩
theorem eX4_ahead_15 : Dn mX4_ahead 15 (.ldc2_w 154) 3 18 := ⟨by decide +kernel, rfl⟩
theorem eX4_ahead_18 : Dn mX4_ahead 18 (.ldc2_w 156) 3 21 := ⟨by decide +kernel, rfl⟩
theorem eX4_ahead_21 : Dn mX4_ahead 21 (.invokestatic 49) 3 24 := ⟨by decide +kernel, rfl⟩
theorem eX4_ahead_24 : Dj mX4_ahead 24 (.ifCond .eq 19) (19) 27 43 := ⟨by decide +kernel, rfl, rfl⟩
theorem eX4_ahead_27 : Dn mX4_ahead 27 (.iload_n 3) 1 28 := ⟨by decide +kernel, rfl⟩
theorem eX4_ahead_28 : Dn mX4_ahead 28 (.i2l) 1 29 := ⟨by decide +kernel, rfl⟩
theorem eX4_ahead_29 : Dn mX4_ahead 29 (.lconst 0) 1 30 := ⟨by decide +kernel, rfl⟩
theorem eX4_ahead_30 : Dn mX4_ahead 30 (.ldc2_w 127) 3 33 := ⟨by decide +kernel, rfl⟩
theorem eX4_ahead_33 : Dn mX4_ahead 33 (.invokestatic 49) 3 36 := ⟨by decide +kernel, rfl⟩
theorem eX4_ahead_36 : Dj mX4_ahead 36 (.ifCond .eq 7) (7) 39 43 := ⟨by decide +kernel, rfl, rfl⟩
theorem eX4_ahead_39 : Dn mX4_ahead 39 (.iconst 1) 1 40 := ⟨by decide +kernel, rfl⟩
theorem eX4_ahead_40 : Dj mX4_ahead 40 (.goto 4) (4) 43 44 := ⟨by decide +kernel, rfl, rfl⟩
theorem eX4_ahead_43 : Dn mX4_ahead 43 (.iconst 0) 1 44 := ⟨by decide +kernel, rfl⟩
theorem eX4_ahead_44 : Dn mX4_ahead 44 (.istore 4) 2 46 := ⟨by decide +kernel, rfl⟩
theorem eX4_ahead_46 : Dn mX4_ahead 46 (.iload 4) 2 48 := ⟨by decide +kernel, rfl⟩
theorem eX4_ahead_48 : Dj mX4_ahead 48 (.ifCond .eq 16) (16) 51 64 := ⟨by decide +kernel, rfl, rfl⟩
theorem eX4_ahead_51 : Dn mX4_ahead 51 (.aload_n 0) 1 52 := ⟨by decide +kernel, rfl⟩
theorem eX4_ahead_52 : Dn mX4_ahead 52 (.iload_n 1) 1 53 := ⟨by decide +kernel, rfl⟩
theorem eX4_ahead_53 : Dn mX4_ahead 53 (.iload_n 2) 1 54 := ⟨by decide +kernel, rfl⟩
theorem eX4_ahead_54 : Dn mX4_ahead 54 (.invokestatic 59) 3 57 := ⟨by decide +kernel, rfl⟩
theorem eX4_ahead_57 : Dn mX4_ahead 57 (.iload_n 3) 1 58 := ⟨by decide +kernel, rfl⟩
theorem eX4_ahead_58 : Dn mX4_ahead 58 (.invokevirtual 158) 3 61 := ⟨by decide +kernel, rfl⟩
theorem eX4_ahead_61 : Dj mX4_ahead 61 (.goto 9) (9) 64 70 := ⟨by decide +kernel, rfl, rfl⟩
theorem eX4_ahead_64 : Dn mX4_ahead 64 (.aload_n 0) 1 65 := ⟨by decide +kernel, rfl⟩
theorem eX4_ahead_65 : Dn mX4_ahead 65 (.ldc 37) 2 67 := ⟨by decide +kernel, rfl⟩
theorem eX4_ahead_67 : Dn mX4_ahead 67 (.invokevirtual 39) 3 70 := ⟨by decide +kernel, rfl⟩
theorem eX4_ahead_70 : Dn mX4_ahead 70 (.ireturn) 1 71 := ⟨by decide +kernel, rfl⟩
theorem eX4_writes_0 : Dn mX4_writes 0 (.aload_n 0) 1 1 := ⟨by decide +kernel, rfl⟩
theorem eX4_writes_1 : Dn mX4_writes 1 (.iload_n 1) 1 2 := ⟨by decide +kernel, rfl⟩
theorem eX4_writes_2 : Dn mX4_writes 2 (.invokevirtual 77) 3 5 := ⟨by decide +kernel, rfl⟩
theorem eX4_writes_5 : Dj mX4_writes 5 (.ifCond .eq 38) (38) 8 43 := ⟨by decide +kernel, rfl, rfl⟩
theorem eX4_writes_8 : Dn mX4_writes 8 (.iload_n 2) 1 9 := ⟨by decide +kernel, rfl⟩
theorem eX4_writes_9 : Dn mX4_writes 9 (.invokestatic 43) 3 12 := ⟨by decide +kernel, rfl⟩
theorem eX4_writes_12 : Dj mX4_writes 12 (.ifCond .eq 31) (31) 15 43 := ⟨by decide +kernel, rfl, rfl⟩
theorem eX4_writes_15 : Dn mX4_writes 15 (.iload_n 3) 1 16 := ⟨by decide +kernel, rfl⟩
theorem eX4_writes_16 : Dn mX4_writes 16 (.i2l) 1 17 := ⟨by decide +kernel, rfl⟩
theorem eX4_writes_17 : Dn mX4_writes 17 (.lconst 0) 1 18 := ⟨by decide +kernel, rfl⟩
theorem eX4_writes_18 : Dn mX4_writes 18 (.ldc2_w 127) 3 21 := ⟨by decide +kernel, rfl⟩
theorem eX4_writes_21 : Dn mX4_writes 21 (.invokestatic 49) 3 24 := ⟨by decide +kernel, rfl⟩
theorem eX4_writes_24 : Dj mX4_writes 24 (.ifCond .eq 19) (19) 27 43 := ⟨by decide +kernel, rfl, rfl⟩
theorem eX4_writes_27 : Dn mX4_writes 27 (.aload_n 0) 1 28 := ⟨by decide +kernel, rfl⟩
theorem eX4_writes_28 : Dn mX4_writes 28 (.iload_n 1) 1 29 := ⟨by decide +kernel, rfl⟩
theorem eX4_writes_29 : Dn mX4_writes 29 (.bipush 6) 2 31 := ⟨by decide +kernel, rfl⟩
theorem eX4_writes_31 : Dn mX4_writes 31 (.iload_n 2) 1 32 := ⟨by decide +kernel, rfl⟩
theorem eX4_writes_32 : Dn mX4_writes 32 (.iadd) 1 33 := ⟨by decide +kernel, rfl⟩
theorem eX4_writes_33 : Dn mX4_writes 33 (.invokestatic 59) 3 36 := ⟨by decide +kernel, rfl⟩
theorem eX4_writes_36 : Dn mX4_writes 36 (.iload_n 3) 1 37 := ⟨by decide +kernel, rfl⟩
theorem eX4_writes_37 : Dn mX4_writes 37 (.invokevirtual 158) 3 40 := ⟨by decide +kernel, rfl⟩
theorem eX4_writes_40 : Dj mX4_writes 40 (.goto 9) (9) 43 49 := ⟨by decide +kernel, rfl, rfl⟩
theorem eX4_writes_43 : Dn mX4_writes 43 (.aload_n 0) 1 44 := ⟨by decide +kernel, rfl⟩
theorem eX4_writes_44 : Dn mX4_writes 44 (.ldc 37) 2 46 := ⟨by decide +kernel, rfl⟩
theorem eX4_writes_46 : Dn mX4_writes 46 (.invokevirtual 39) 3 49 := ⟨by decide +kernel, rfl⟩
theorem eX4_writes_49 : Dn mX4_writes 49 (.ireturn) 1 50 := ⟨by decide +kernel, rfl⟩
theorem eX4_caught_0 : Dn mX4_caught 0 (.aload_n 0) 1 1 := ⟨by decide +kernel, rfl⟩
theorem eX4_caught_1 : Dn mX4_caught 1 (.iload_n 1) 1 2 := ⟨by decide +kernel, rfl⟩
theorem eX4_caught_2 : Dn mX4_caught 2 (.invokevirtual 77) 3 5 := ⟨by decide +kernel, rfl⟩
theorem eX4_caught_5 : Dj mX4_caught 5 (.ifCond .ne 10) (10) 8 15 := ⟨by decide +kernel, rfl, rfl⟩
theorem eX4_caught_8 : Dn mX4_caught 8 (.aload_n 0) 1 9 := ⟨by decide +kernel, rfl⟩
theorem eX4_caught_9 : Dn mX4_caught 9 (.ldc 37) 2 11 := ⟨by decide +kernel, rfl⟩
theorem eX4_caught_11 : Dn mX4_caught 11 (.invokevirtual 39) 3 14 := ⟨by decide +kernel, rfl⟩
theorem eX4_caught_14 : Dn mX4_caught 14 (.ireturn) 1 15 := ⟨by decide +kernel, rfl⟩
theorem eX4_caught_15 : Dn mX4_caught 15 (.aload_n 0) 1 16 := ⟨by decide +kernel, rfl⟩
theorem eX4_caught_16 : Dn mX4_caught 16 (.getfield 7) 3 19 := ⟨by decide +kernel, rfl⟩
theorem eX4_caught_19 : Dn mX4_caught 19 (.aload_n 0) 1 20 := ⟨by decide +kernel, rfl⟩
theorem eX4_caught_20 : Dn mX4_caught 20 (.getfield 19) 3 23 := ⟨by decide +kernel, rfl⟩
theorem eX4_caught_23 : Dn mX4_caught 23 (.invokestatic 150) 3 26 := ⟨by decide +kernel, rfl⟩
theorem eX4_caught_26 : Dn mX4_caught 26 (.aload_n 0) 1 27 := ⟨by decide +kernel, rfl⟩
theorem eX4_caught_27 : Dn mX4_caught 27 (.iload_n 1) 1 28 := ⟨by decide +kernel, rfl⟩
theorem eX4_caught_28 : Dn mX4_caught 28 (.iconst 5) 1 29 := ⟨by decide +kernel, rfl⟩
theorem eX4_caught_29 : Dn mX4_caught 29 (.invokevirtual 71) 3 32 := ⟨by decide +kernel, rfl⟩
theorem eX4_caught_32 : Dn mX4_caught 32 (.istore_n 2) 1 33 := ⟨by decide +kernel, rfl⟩
theorem eX4_caught_33 : Dn mX4_caught 33 (.iconst 0) 1 34 := ⟨by decide +kernel, rfl⟩
theorem eX4_caught_34 : Dn mX4_caught 34 (.istore_n 3) 1 35 := ⟨by decide +kernel, rfl⟩
theorem eX4_caught_35 : Dn mX4_caught 35 (.iload_n 3) 1 36 := ⟨by decide +kernel, rfl⟩
theorem eX4_caught_36 : Dn mX4_caught 36 (.bipush 60) 2 38 := ⟨by decide +kernel, rfl⟩
theorem eX4_caught_38 : Dj mX4_caught 38 (.if_icmp .gt 23) (23) 41 61 := ⟨by decide +kernel, rfl, rfl⟩
theorem eX4_caught_41 : Dn mX4_caught 41 (.aload_n 0) 1 42 := ⟨by decide +kernel, rfl⟩
theorem eX4_caught_42 : Dn mX4_caught 42 (.iload_n 1) 1 43 := ⟨by decide +kernel, rfl⟩
theorem eX4_caught_43 : Dn mX4_caught 43 (.iconst 5) 1 44 := ⟨by decide +kernel, rfl⟩
theorem eX4_caught_44 : Dn mX4_caught 44 (.invokevirtual 71) 3 47 := ⟨by decide +kernel, rfl⟩
theorem eX4_caught_47 : Dn mX4_caught 47 (.iload_n 2) 1 48 := ⟨by decide +kernel, rfl⟩
theorem eX4_caught_48 : Dj mX4_caught 48 (.if_icmp .ne 13) (13) 51 61 := ⟨by decide +kernel, rfl, rfl⟩
theorem eX4_caught_51 : Dn mX4_caught 51 (.aload_n 0) 1 52 := ⟨by decide +kernel, rfl⟩
theorem eX4_caught_52 : Dn mX4_caught 52 (.invokevirtual 124) 3 55 := ⟨by decide +kernel, rfl⟩
theorem eX4_caught_55 : Dn mX4_caught 55 (.iinc 3 1) 3 58 := ⟨by decide +kernel, rfl⟩
theorem eX4_caught_58 : Dj mX4_caught 58 (.goto (-23)) (-23) 61 35 := ⟨by decide +kernel, rfl, rfl⟩
theorem eX4_caught_61 : Dn mX4_caught 61 (.aload_n 0) 1 62 := ⟨by decide +kernel, rfl⟩
theorem eX4_caught_62 : Dn mX4_caught 62 (.getfield 19) 3 65 := ⟨by decide +kernel, rfl⟩
theorem eX4_caught_65 : Dn mX4_caught 65 (.aload_n 0) 1 66 := ⟨by decide +kernel, rfl⟩
theorem eX4_caught_66 : Dn mX4_caught 66 (.getfield 7) 3 69 := ⟨by decide +kernel, rfl⟩
theorem eX4_caught_69 : Dn mX4_caught 69 (.invokestatic 150) 3 72 := ⟨by decide +kernel, rfl⟩
theorem eX4_caught_72 : Dn mX4_caught 72 (.iload_n 3) 1 73 := ⟨by decide +kernel, rfl⟩
theorem eX4_caught_73 : Dn mX4_caught 73 (.bipush 60) 2 75 := ⟨by decide +kernel, rfl⟩
theorem eX4_caught_75 : Dj mX4_caught 75 (.if_icmp .gt 7) (7) 78 82 := ⟨by decide +kernel, rfl, rfl⟩
theorem eX4_caught_78 : Dn mX4_caught 78 (.iload_n 3) 1 79 := ⟨by decide +kernel, rfl⟩
theorem eX4_caught_79 : Dj mX4_caught 79 (.goto 9) (9) 82 88 := ⟨by decide +kernel, rfl, rfl⟩
theorem eX4_caught_82 : Dn mX4_caught 82 (.aload_n 0) 1 83 := ⟨by decide +kernel, rfl⟩
theorem eX4_caught_83 : Dn mX4_caught 83 (.ldc 38) 2 85 := ⟨by decide +kernel, rfl⟩
theorem eX4_caught_85 : Dn mX4_caught 85 (.invokevirtual 39) 3 88 := ⟨by decide +kernel, rfl⟩
theorem eX4_caught_88 : Dn mX4_caught 88 (.ireturn) 1 89 := ⟨by decide +kernel, rfl⟩
theorem eX4_when_0 : Dn mX4_when 0 (.aload_n 0) 1 1 := ⟨by decide +kernel, rfl⟩
theorem eX4_when_1 : Dn mX4_when 1 (.iload_n 1) 1 2 := ⟨by decide +kernel, rfl⟩
theorem eX4_when_2 : Dn mX4_when 2 (.invokevirtual 77) 3 5 := ⟨by decide +kernel, rfl⟩
theorem eX4_when_5 : Dj mX4_when 5 (.ifCond .eq 15) (15) 8 20 := ⟨by decide +kernel, rfl, rfl⟩
theorem eX4_when_8 : Dn mX4_when 8 (.iload_n 2) 1 9 := ⟨by decide +kernel, rfl⟩
theorem eX4_when_9 : Dn mX4_when 9 (.i2l) 1 10 := ⟨by decide +kernel, rfl⟩
theorem eX4_when_10 : Dn mX4_when 10 (.lconst 0) 1 11 := ⟨by decide +kernel, rfl⟩
theorem eX4_when_11 : Dn mX4_when 11 (.ldc2_w 93) 3 14 := ⟨by decide +kernel, rfl⟩
theorem eX4_when_14 : Dn mX4_when 14 (.invokestatic 49) 3 17 := ⟨by decide +kernel, rfl⟩
theorem eX4_when_17 : Dj mX4_when 17 (.ifCond .ne 10) (10) 20 27 := ⟨by decide +kernel, rfl, rfl⟩
theorem eX4_when_20 : Dn mX4_when 20 (.aload_n 0) 1 21 := ⟨by decide +kernel, rfl⟩
theorem eX4_when_21 : Dn mX4_when 21 (.ldc 37) 2 23 := ⟨by decide +kernel, rfl⟩
theorem eX4_when_23 : Dn mX4_when 23 (.invokevirtual 39) 3 26 := ⟨by decide +kernel, rfl⟩
theorem eX4_when_26 : Dn mX4_when 26 (.ireturn) 1 27 := ⟨by decide +kernel, rfl⟩
theorem eX4_when_27 : Dn mX4_when 27 (.aload_n 0) 1 28 := ⟨by decide +kernel, rfl⟩
theorem eX4_when_28 : Dn mX4_when 28 (.getfield 7) 3 31 := ⟨by decide +kernel, rfl⟩
theorem eX4_when_31 : Dn mX4_when 31 (.aload_n 0) 1 32 := ⟨by decide +kernel, rfl⟩
theorem eX4_when_32 : Dn mX4_when 32 (.getfield 19) 3 35 := ⟨by decide +kernel, rfl⟩
theorem eX4_when_35 : Dn mX4_when 35 (.invokestatic 150) 3 38 := ⟨by decide +kernel, rfl⟩
theorem eX4_when_38 : Dn mX4_when 38 (.iconst 0) 1 39 := ⟨by decide +kernel, rfl⟩
theorem eX4_when_39 : Dn mX4_when 39 (.istore_n 3) 1 40 := ⟨by decide +kernel, rfl⟩
theorem eX4_when_40 : Dn mX4_when 40 (.iload_n 3) 1 41 := ⟨by decide +kernel, rfl⟩
theorem eX4_when_41 : Dn mX4_when 41 (.bipush 60) 2 43 := ⟨by decide +kernel, rfl⟩
theorem eX4_when_43 : Dj mX4_when 43 (.if_icmp .gt 23) (23) 46 66 := ⟨by decide +kernel, rfl, rfl⟩
theorem eX4_when_46 : Dn mX4_when 46 (.aload_n 0) 1 47 := ⟨by decide +kernel, rfl⟩
theorem eX4_when_47 : Dn mX4_when 47 (.iload_n 1) 1 48 := ⟨by decide +kernel, rfl⟩
theorem eX4_when_48 : Dn mX4_when 48 (.iconst 3) 1 49 := ⟨by decide +kernel, rfl⟩
theorem eX4_when_49 : Dn mX4_when 49 (.invokevirtual 71) 3 52 := ⟨by decide +kernel, rfl⟩
theorem eX4_when_52 : Dn mX4_when 52 (.iload_n 2) 1 53 := ⟨by decide +kernel, rfl⟩
theorem eX4_when_53 : Dj mX4_when 53 (.if_icmp .ge 13) (13) 56 66 := ⟨by decide +kernel, rfl, rfl⟩
theorem eX4_when_56 : Dn mX4_when 56 (.aload_n 0) 1 57 := ⟨by decide +kernel, rfl⟩
theorem eX4_when_57 : Dn mX4_when 57 (.invokevirtual 124) 3 60 := ⟨by decide +kernel, rfl⟩
theorem eX4_when_60 : Dn mX4_when 60 (.iinc 3 1) 3 63 := ⟨by decide +kernel, rfl⟩
theorem eX4_when_63 : Dj mX4_when 63 (.goto (-23)) (-23) 66 40 := ⟨by decide +kernel, rfl, rfl⟩
theorem eX4_when_66 : Dn mX4_when 66 (.aload_n 0) 1 67 := ⟨by decide +kernel, rfl⟩
theorem eX4_when_67 : Dn mX4_when 67 (.getfield 19) 3 70 := ⟨by decide +kernel, rfl⟩
theorem eX4_when_70 : Dn mX4_when 70 (.aload_n 0) 1 71 := ⟨by decide +kernel, rfl⟩
theorem eX4_when_71 : Dn mX4_when 71 (.getfield 7) 3 74 := ⟨by decide +kernel, rfl⟩
theorem eX4_when_74 : Dn mX4_when 74 (.invokestatic 150) 3 77 := ⟨by decide +kernel, rfl⟩
theorem eX4_when_77 : Dn mX4_when 77 (.iload_n 3) 1 78 := ⟨by decide +kernel, rfl⟩
theorem eX4_when_78 : Dn mX4_when 78 (.bipush 60) 2 80 := ⟨by decide +kernel, rfl⟩
theorem eX4_when_80 : Dj mX4_when 80 (.if_icmp .gt 7) (7) 83 87 := ⟨by decide +kernel, rfl, rfl⟩
theorem eX4_when_83 : Dn mX4_when 83 (.iload_n 3) 1 84 := ⟨by decide +kernel, rfl⟩
theorem eX4_when_84 : Dj mX4_when 84 (.goto 9) (9) 87 93 := ⟨by decide +kernel, rfl, rfl⟩
theorem eX4_when_87 : Dn mX4_when 87 (.aload_n 0) 1 88 := ⟨by decide +kernel, rfl⟩
theorem eX4_when_88 : Dn mX4_when 88 (.ldc 38) 2 90 := ⟨by decide +kernel, rfl⟩
theorem eX4_when_90 : Dn mX4_when 90 (.invokevirtual 39) 3 93 := ⟨by decide +kernel, rfl⟩
theorem eX4_when_93 : Dn mX4_when 93 (.ireturn) 1 94 := ⟨by decide +kernel, rfl⟩
theorem eX4_isAsked_0 : Dn mX4_isAsked 0 (.aload_n 0) 1 1 := ⟨by decide +kernel, rfl⟩
theorem eX4_isAsked_1 : Dn mX4_isAsked 1 (.iload_n 1) 1 2 := ⟨by decide +kernel, rfl⟩
theorem eX4_isAsked_2 : Dn mX4_isAsked 2 (.invokevirtual 77) 3 5 := ⟨by decide +kernel, rfl⟩
theorem eX4_isAsked_5 : Dj mX4_isAsked 5 (.ifCond .eq 19) (19) 8 24 := ⟨by decide +kernel, rfl, rfl⟩
theorem eX4_isAsked_8 : Dn mX4_isAsked 8 (.iload_n 2) 1 9 := ⟨by decide +kernel, rfl⟩
theorem eX4_isAsked_9 : Dn mX4_isAsked 9 (.i2l) 1 10 := ⟨by decide +kernel, rfl⟩
theorem eX4_isAsked_10 : Dn mX4_isAsked 10 (.lconst 0) 1 11 := ⟨by decide +kernel, rfl⟩
theorem eX4_isAsked_11 : Dn mX4_isAsked 11 (.ldc2_w 161) 3 14 := ⟨by decide +kernel, rfl⟩
theorem eX4_isAsked_14 : Dn mX4_isAsked 14 (.invokestatic 49) 3 17 := ⟨by decide +kernel, rfl⟩
theorem eX4_isAsked_17 : Dj mX4_isAsked 17 (.ifCond .eq 7) (7) 20 24 := ⟨by decide +kernel, rfl, rfl⟩
theorem eX4_isAsked_20 : Dn mX4_isAsked 20 (.iconst 1) 1 21 := ⟨by decide +kernel, rfl⟩
theorem eX4_isAsked_21 : Dj mX4_isAsked 21 (.goto 4) (4) 24 25 := ⟨by decide +kernel, rfl, rfl⟩
theorem eX4_isAsked_24 : Dn mX4_isAsked 24 (.iconst 0) 1 25 := ⟨by decide +kernel, rfl⟩
theorem eX4_isAsked_25 : Dn mX4_isAsked 25 (.ireturn) 1 26 := ⟨by decide +kernel, rfl⟩
theorem eX4_copyFrom_0 : Dn mX4_copyFrom 0 (.aload_n 0) 1 1 := ⟨by decide +kernel, rfl⟩
theorem eX4_copyFrom_1 : Dn mX4_copyFrom 1 (.iload_n 1) 1 2 := ⟨by decide +kernel, rfl⟩
theorem eX4_copyFrom_2 : Dn mX4_copyFrom 2 (.iload_n 2) 1 3 := ⟨by decide +kernel, rfl⟩
theorem eX4_copyFrom_3 : Dn mX4_copyFrom 3 (.invokevirtual 163) 3 6 := ⟨by decide +kernel, rfl⟩
theorem eX4_copyFrom_6 : Dj mX4_copyFrom 6 (.ifCond .ne 10) (10) 9 16 := ⟨by decide +kernel, rfl, rfl⟩
theorem eX4_copyFrom_9 : Dn mX4_copyFrom 9 (.aload_n 0) 1 10 := ⟨by decide +kernel, rfl⟩
theorem eX4_copyFrom_10 : Dn mX4_copyFrom 10 (.ldc 37) 2 12 := ⟨by decide +kernel, rfl⟩
theorem eX4_copyFrom_12 : Dn mX4_copyFrom 12 (.invokevirtual 39) 3 15 := ⟨by decide +kernel, rfl⟩
theorem eX4_copyFrom_15 : Dn mX4_copyFrom 15 (.ireturn) 1 16 := ⟨by decide +kernel, rfl⟩
theorem eX4_copyFrom_16 : Dn mX4_copyFrom 16 (.aload_n 0) 1 17 := ⟨by decide +kernel, rfl⟩
theorem eX4_copyFrom_17 : Dn mX4_copyFrom 17 (.iload_n 1) 1 18 := ⟨by decide +kernel, rfl⟩
theorem eX4_copyFrom_18 : Dn mX4_copyFrom 18 (.iconst 2) 1 19 := ⟨by decide +kernel, rfl⟩
theorem eX4_copyFrom_19 : Dn mX4_copyFrom 19 (.invokevirtual 71) 3 22 := ⟨by decide +kernel, rfl⟩
theorem eX4_copyFrom_22 : Dn mX4_copyFrom 22 (.istore_n 3) 1 23 := ⟨by decide +kernel, rfl⟩
theorem eX4_copyFrom_23 : Dn mX4_copyFrom 23 (.iconst (-1)) 1 24 := ⟨by decide +kernel, rfl⟩
theorem eX4_copyFrom_24 : Dn mX4_copyFrom 24 (.istore 4) 2 26 := ⟨by decide +kernel, rfl⟩
theorem eX4_copyFrom_26 : Dn mX4_copyFrom 26 (.iconst (-1)) 1 27 := ⟨by decide +kernel, rfl⟩
theorem eX4_copyFrom_27 : Dn mX4_copyFrom 27 (.istore 5) 2 29 := ⟨by decide +kernel, rfl⟩
theorem eX4_copyFrom_29 : Dn mX4_copyFrom 29 (.iconst 0) 1 30 := ⟨by decide +kernel, rfl⟩
theorem eX4_copyFrom_30 : Dn mX4_copyFrom 30 (.istore 6) 2 32 := ⟨by decide +kernel, rfl⟩
theorem eX4_copyFrom_32 : Dn mX4_copyFrom 32 (.iload 6) 2 34 := ⟨by decide +kernel, rfl⟩
theorem eX4_copyFrom_34 : Dn mX4_copyFrom 34 (.aload_n 0) 1 35 := ⟨by decide +kernel, rfl⟩
theorem eX4_copyFrom_35 : Dn mX4_copyFrom 35 (.getfield 7) 3 38 := ⟨by decide +kernel, rfl⟩
theorem eX4_copyFrom_38 : Dn mX4_copyFrom 38 (.iconst 0) 1 39 := ⟨by decide +kernel, rfl⟩
theorem eX4_copyFrom_39 : Dn mX4_copyFrom 39 (.iaload) 1 40 := ⟨by decide +kernel, rfl⟩
theorem eX4_copyFrom_40 : Dj mX4_copyFrom 40 (.if_icmp .gt 83) (83) 43 123 := ⟨by decide +kernel, rfl, rfl⟩
theorem eX4_copyFrom_43 : Dn mX4_copyFrom 43 (.iload 6) 2 45 := ⟨by decide +kernel, rfl⟩
theorem eX4_copyFrom_45 : Dn mX4_copyFrom 45 (.aload_n 0) 1 46 := ⟨by decide +kernel, rfl⟩
theorem eX4_copyFrom_46 : Dn mX4_copyFrom 46 (.getfield 7) 3 49 := ⟨by decide +kernel, rfl⟩
theorem eX4_copyFrom_49 : Dn mX4_copyFrom 49 (.iconst 0) 1 50 := ⟨by decide +kernel, rfl⟩
theorem eX4_copyFrom_50 : Dn mX4_copyFrom 50 (.iaload) 1 51 := ⟨by decide +kernel, rfl⟩
theorem eX4_copyFrom_51 : Dj mX4_copyFrom 51 (.if_icmp .ge 8) (8) 54 59 := ⟨by decide +kernel, rfl, rfl⟩
theorem eX4_copyFrom_54 : Dn mX4_copyFrom 54 (.iload 6) 2 56 := ⟨by decide +kernel, rfl⟩
theorem eX4_copyFrom_56 : Dj mX4_copyFrom 56 (.goto 4) (4) 59 60 := ⟨by decide +kernel, rfl, rfl⟩
theorem eX4_copyFrom_59 : Dn mX4_copyFrom 59 (.iconst (-1)) 1 60 := ⟨by decide +kernel, rfl⟩
theorem eX4_copyFrom_60 : Dn mX4_copyFrom 60 (.istore 7) 2 62 := ⟨by decide +kernel, rfl⟩
theorem eX4_copyFrom_62 : Dn mX4_copyFrom 62 (.iload 7) 2 64 := ⟨by decide +kernel, rfl⟩
theorem eX4_copyFrom_64 : Dn mX4_copyFrom 64 (.iload_n 1) 1 65 := ⟨by decide +kernel, rfl⟩
theorem eX4_copyFrom_65 : Dj mX4_copyFrom 65 (.if_icmp .eq 52) (52) 68 117 := ⟨by decide +kernel, rfl, rfl⟩
theorem eX4_copyFrom_68 : Dn mX4_copyFrom 68 (.aload_n 0) 1 69 := ⟨by decide +kernel, rfl⟩
theorem eX4_copyFrom_69 : Dn mX4_copyFrom 69 (.getfield 7) 3 72 := ⟨by decide +kernel, rfl⟩
theorem eX4_copyFrom_72 : Dn mX4_copyFrom 72 (.iload_n 1) 1 73 := ⟨by decide +kernel, rfl⟩
theorem eX4_copyFrom_73 : Dn mX4_copyFrom 73 (.iconst 2) 1 74 := ⟨by decide +kernel, rfl⟩
theorem eX4_copyFrom_74 : Dn mX4_copyFrom 74 (.invokestatic 59) 3 77 := ⟨by decide +kernel, rfl⟩
theorem eX4_copyFrom_77 : Dn mX4_copyFrom 77 (.iload 7) 2 79 := ⟨by decide +kernel, rfl⟩
theorem eX4_copyFrom_79 : Dn mX4_copyFrom 79 (.iastore) 1 80 := ⟨by decide +kernel, rfl⟩
theorem eX4_copyFrom_80 : Dn mX4_copyFrom 80 (.aload_n 0) 1 81 := ⟨by decide +kernel, rfl⟩
theorem eX4_copyFrom_81 : Dn mX4_copyFrom 81 (.iload_n 1) 1 82 := ⟨by decide +kernel, rfl⟩
theorem eX4_copyFrom_82 : Dn mX4_copyFrom 82 (.iconst 3) 1 83 := ⟨by decide +kernel, rfl⟩
theorem eX4_copyFrom_83 : Dn mX4_copyFrom 83 (.invokestatic 59) 3 86 := ⟨by decide +kernel, rfl⟩
theorem eX4_copyFrom_86 : Dn mX4_copyFrom 86 (.iload_n 2) 1 87 := ⟨by decide +kernel, rfl⟩
theorem eX4_copyFrom_87 : Dn mX4_copyFrom 87 (.invokevirtual 158) 3 90 := ⟨by decide +kernel, rfl⟩
theorem eX4_copyFrom_90 : Dn mX4_copyFrom 90 (.istore 8) 2 92 := ⟨by decide +kernel, rfl⟩
theorem eX4_copyFrom_92 : Dn mX4_copyFrom 92 (.iload 8) 2 94 := ⟨by decide +kernel, rfl⟩
theorem eX4_copyFrom_94 : Dn mX4_copyFrom 94 (.iload 5) 2 96 := ⟨by decide +kernel, rfl⟩
theorem eX4_copyFrom_96 : Dj mX4_copyFrom 96 (.if_icmp .le 8) (8) 99 104 := ⟨by decide +kernel, rfl, rfl⟩
theorem eX4_copyFrom_99 : Dn mX4_copyFrom 99 (.iload 7) 2 101 := ⟨by decide +kernel, rfl⟩
theorem eX4_copyFrom_101 : Dj mX4_copyFrom 101 (.goto 5) (5) 104 106 := ⟨by decide +kernel, rfl, rfl⟩
theorem eX4_copyFrom_104 : Dn mX4_copyFrom 104 (.iload 4) 2 106 := ⟨by decide +kernel, rfl⟩
theorem eX4_copyFrom_106 : Dn mX4_copyFrom 106 (.istore 4) 2 108 := ⟨by decide +kernel, rfl⟩
theorem eX4_copyFrom_108 : Dn mX4_copyFrom 108 (.iload 5) 2 110 := ⟨by decide +kernel, rfl⟩
theorem eX4_copyFrom_110 : Dn mX4_copyFrom 110 (.iload 8) 2 112 := ⟨by decide +kernel, rfl⟩
theorem eX4_copyFrom_112 : Dn mX4_copyFrom 112 (.invokestatic 137) 3 115 := ⟨by decide +kernel, rfl⟩
theorem eX4_copyFrom_115 : Dn mX4_copyFrom 115 (.istore 5) 2 117 := ⟨by decide +kernel, rfl⟩
theorem eX4_copyFrom_117 : Dn mX4_copyFrom 117 (.iinc 6 1) 3 120 := ⟨by decide +kernel, rfl⟩
theorem eX4_copyFrom_120 : Dj mX4_copyFrom 120 (.goto (-88)) (-88) 123 32 := ⟨by decide +kernel, rfl, rfl⟩
theorem eX4_copyFrom_123 : Dn mX4_copyFrom 123 (.aload_n 0) 1 124 := ⟨by decide +kernel, rfl⟩
theorem eX4_copyFrom_124 : Dn mX4_copyFrom 124 (.getfield 7) 3 127 := ⟨by decide +kernel, rfl⟩
theorem eX4_copyFrom_127 : Dn mX4_copyFrom 127 (.iload_n 1) 1 128 := ⟨by decide +kernel, rfl⟩
theorem eX4_copyFrom_128 : Dn mX4_copyFrom 128 (.iconst 2) 1 129 := ⟨by decide +kernel, rfl⟩
theorem eX4_copyFrom_129 : Dn mX4_copyFrom 129 (.invokestatic 59) 3 132 := ⟨by decide +kernel, rfl⟩
theorem eX4_copyFrom_132 : Dn mX4_copyFrom 132 (.iload_n 3) 1 133 := ⟨by decide +kernel, rfl⟩
theorem eX4_copyFrom_133 : Dn mX4_copyFrom 133 (.iastore) 1 134 := ⟨by decide +kernel, rfl⟩
theorem eX4_copyFrom_134 : Dn mX4_copyFrom 134 (.iload 4) 2 136 := ⟨by decide +kernel, rfl⟩
theorem eX4_copyFrom_136 : Dn mX4_copyFrom 136 (.ireturn) 1 137 := ⟨by decide +kernel, rfl⟩
theorem eX4_kindFor_0 : Dn mX4_kindFor 0 (.aload_n 0) 1 1 := ⟨by decide +kernel, rfl⟩
theorem eX4_kindFor_1 : Dn mX4_kindFor 1 (.iload_n 1) 1 2 := ⟨by decide +kernel, rfl⟩
theorem eX4_kindFor_2 : Dn mX4_kindFor 2 (.iload_n 2) 1 3 := ⟨by decide +kernel, rfl⟩
theorem eX4_kindFor_3 : Dn mX4_kindFor 3 (.invokevirtual 163) 3 6 := ⟨by decide +kernel, rfl⟩
theorem eX4_kindFor_6 : Dj mX4_kindFor 6 (.ifCond .ne 10) (10) 9 16 := ⟨by decide +kernel, rfl, rfl⟩
theorem eX4_kindFor_9 : Dn mX4_kindFor 9 (.aload_n 0) 1 10 := ⟨by decide +kernel, rfl⟩
theorem eX4_kindFor_10 : Dn mX4_kindFor 10 (.ldc 37) 2 12 := ⟨by decide +kernel, rfl⟩
theorem eX4_kindFor_12 : Dn mX4_kindFor 12 (.invokevirtual 39) 3 15 := ⟨by decide +kernel, rfl⟩
theorem eX4_kindFor_15 : Dn mX4_kindFor 15 (.ireturn) 1 16 := ⟨by decide +kernel, rfl⟩
theorem eX4_kindFor_16 : Dn mX4_kindFor 16 (.aload_n 0) 1 17 := ⟨by decide +kernel, rfl⟩
theorem eX4_kindFor_17 : Dn mX4_kindFor 17 (.iload_n 1) 1 18 := ⟨by decide +kernel, rfl⟩
theorem eX4_kindFor_18 : Dn mX4_kindFor 18 (.iconst 0) 1 19 := ⟨by decide +kernel, rfl⟩
theorem eX4_kindFor_19 : Dn mX4_kindFor 19 (.invokevirtual 71) 3 22 := ⟨by decide +kernel, rfl⟩
theorem eX4_kindFor_22 : Dn mX4_kindFor 22 (.istore_n 3) 1 23 := ⟨by decide +kernel, rfl⟩
theorem eX4_kindFor_23 : Dn mX4_kindFor 23 (.iconst 0) 1 24 := ⟨by decide +kernel, rfl⟩
theorem eX4_kindFor_24 : Dn mX4_kindFor 24 (.istore 4) 2 26 := ⟨by decide +kernel, rfl⟩
theorem eX4_kindFor_26 : Dn mX4_kindFor 26 (.iconst (-1)) 1 27 := ⟨by decide +kernel, rfl⟩
theorem eX4_kindFor_27 : Dn mX4_kindFor 27 (.istore 5) 2 29 := ⟨by decide +kernel, rfl⟩
theorem eX4_kindFor_29 : Dn mX4_kindFor 29 (.iconst 0) 1 30 := ⟨by decide +kernel, rfl⟩
theorem eX4_kindFor_30 : Dn mX4_kindFor 30 (.istore 6) 2 32 := ⟨by decide +kernel, rfl⟩
theorem eX4_kindFor_32 : Dn mX4_kindFor 32 (.iload 6) 2 34 := ⟨by decide +kernel, rfl⟩
theorem eX4_kindFor_34 : Dn mX4_kindFor 34 (.bipush 6) 2 36 := ⟨by decide +kernel, rfl⟩
theorem eX4_kindFor_36 : Dj mX4_kindFor 36 (.if_icmp .gt 58) (58) 39 94 := ⟨by decide +kernel, rfl, rfl⟩
theorem eX4_kindFor_39 : Dn mX4_kindFor 39 (.aload_n 0) 1 40 := ⟨by decide +kernel, rfl⟩
theorem eX4_kindFor_40 : Dn mX4_kindFor 40 (.getfield 7) 3 43 := ⟨by decide +kernel, rfl⟩
theorem eX4_kindFor_43 : Dn mX4_kindFor 43 (.iload_n 1) 1 44 := ⟨by decide +kernel, rfl⟩
theorem eX4_kindFor_44 : Dn mX4_kindFor 44 (.iconst 0) 1 45 := ⟨by decide +kernel, rfl⟩
theorem eX4_kindFor_45 : Dn mX4_kindFor 45 (.invokestatic 59) 3 48 := ⟨by decide +kernel, rfl⟩
theorem eX4_kindFor_48 : Dn mX4_kindFor 48 (.iload 6) 2 50 := ⟨by decide +kernel, rfl⟩
theorem eX4_kindFor_50 : Dn mX4_kindFor 50 (.iastore) 1 51 := ⟨by decide +kernel, rfl⟩
theorem eX4_kindFor_51 : Dn mX4_kindFor 51 (.aload_n 0) 1 52 := ⟨by decide +kernel, rfl⟩
theorem eX4_kindFor_52 : Dn mX4_kindFor 52 (.iload_n 1) 1 53 := ⟨by decide +kernel, rfl⟩
theorem eX4_kindFor_53 : Dn mX4_kindFor 53 (.iconst 3) 1 54 := ⟨by decide +kernel, rfl⟩
theorem eX4_kindFor_54 : Dn mX4_kindFor 54 (.invokestatic 59) 3 57 := ⟨by decide +kernel, rfl⟩
theorem eX4_kindFor_57 : Dn mX4_kindFor 57 (.iload_n 2) 1 58 := ⟨by decide +kernel, rfl⟩
theorem eX4_kindFor_58 : Dn mX4_kindFor 58 (.invokevirtual 158) 3 61 := ⟨by decide +kernel, rfl⟩
theorem eX4_kindFor_61 : Dn mX4_kindFor 61 (.istore 7) 2 63 := ⟨by decide +kernel, rfl⟩
theorem eX4_kindFor_63 : Dn mX4_kindFor 63 (.iload 7) 2 65 := ⟨by decide +kernel, rfl⟩
theorem eX4_kindFor_65 : Dn mX4_kindFor 65 (.iload 5) 2 67 := ⟨by decide +kernel, rfl⟩
theorem eX4_kindFor_67 : Dj mX4_kindFor 67 (.if_icmp .le 8) (8) 70 75 := ⟨by decide +kernel, rfl, rfl⟩
theorem eX4_kindFor_70 : Dn mX4_kindFor 70 (.iload 6) 2 72 := ⟨by decide +kernel, rfl⟩
theorem eX4_kindFor_72 : Dj mX4_kindFor 72 (.goto 5) (5) 75 77 := ⟨by decide +kernel, rfl, rfl⟩
theorem eX4_kindFor_75 : Dn mX4_kindFor 75 (.iload 4) 2 77 := ⟨by decide +kernel, rfl⟩
theorem eX4_kindFor_77 : Dn mX4_kindFor 77 (.istore 4) 2 79 := ⟨by decide +kernel, rfl⟩
theorem eX4_kindFor_79 : Dn mX4_kindFor 79 (.iload 5) 2 81 := ⟨by decide +kernel, rfl⟩
theorem eX4_kindFor_81 : Dn mX4_kindFor 81 (.iload 7) 2 83 := ⟨by decide +kernel, rfl⟩
theorem eX4_kindFor_83 : Dn mX4_kindFor 83 (.invokestatic 137) 3 86 := ⟨by decide +kernel, rfl⟩
theorem eX4_kindFor_86 : Dn mX4_kindFor 86 (.istore 5) 2 88 := ⟨by decide +kernel, rfl⟩
theorem eX4_kindFor_88 : Dn mX4_kindFor 88 (.iinc 6 1) 3 91 := ⟨by decide +kernel, rfl⟩
theorem eX4_kindFor_91 : Dj mX4_kindFor 91 (.goto (-59)) (-59) 94 32 := ⟨by decide +kernel, rfl, rfl⟩
theorem eX4_kindFor_94 : Dn mX4_kindFor 94 (.aload_n 0) 1 95 := ⟨by decide +kernel, rfl⟩
theorem eX4_kindFor_95 : Dn mX4_kindFor 95 (.getfield 7) 3 98 := ⟨by decide +kernel, rfl⟩
theorem eX4_kindFor_98 : Dn mX4_kindFor 98 (.iload_n 1) 1 99 := ⟨by decide +kernel, rfl⟩
theorem eX4_kindFor_99 : Dn mX4_kindFor 99 (.iconst 0) 1 100 := ⟨by decide +kernel, rfl⟩
theorem eX4_kindFor_100 : Dn mX4_kindFor 100 (.invokestatic 59) 3 103 := ⟨by decide +kernel, rfl⟩
theorem eX4_kindFor_103 : Dn mX4_kindFor 103 (.iload_n 3) 1 104 := ⟨by decide +kernel, rfl⟩
theorem eX4_kindFor_104 : Dn mX4_kindFor 104 (.iastore) 1 105 := ⟨by decide +kernel, rfl⟩
theorem eX4_kindFor_105 : Dn mX4_kindFor 105 (.iload 4) 2 107 := ⟨by decide +kernel, rfl⟩
theorem eX4_kindFor_107 : Dn mX4_kindFor 107 (.ireturn) 1 108 := ⟨by decide +kernel, rfl⟩
end
section
theorem eX4_learn_0 : Dn mX4_learn 0 (.aload_n 0) 1 1 := ⟨by decide +kernel, rfl⟩
theorem eX4_learn_1 : Dn mX4_learn 1 (.iload_n 1) 1 2 := ⟨by decide +kernel, rfl⟩
theorem eX4_learn_2 : Dn mX4_learn 2 (.iload_n 2) 1 3 := ⟨by decide +kernel, rfl⟩
theorem eX4_learn_3 : Dn mX4_learn 3 (.invokevirtual 163) 3 6 := ⟨by decide +kernel, rfl⟩
theorem eX4_learn_6 : Dj mX4_learn 6 (.ifCond .ne 10) (10) 9 16 := ⟨by decide +kernel, rfl, rfl⟩
theorem eX4_learn_9 : Dn mX4_learn 9 (.aload_n 0) 1 10 := ⟨by decide +kernel, rfl⟩
theorem eX4_learn_10 : Dn mX4_learn 10 (.ldc 37) 2 12 := ⟨by decide +kernel, rfl⟩
theorem eX4_learn_12 : Dn mX4_learn 12 (.invokevirtual 39) 3 15 := ⟨by decide +kernel, rfl⟩
theorem eX4_learn_15 : Dn mX4_learn 15 (.ireturn) 1 16 := ⟨by decide +kernel, rfl⟩
theorem eX4_learn_16 : Dn mX4_learn 16 (.aload_n 0) 1 17 := ⟨by decide +kernel, rfl⟩
theorem eX4_learn_17 : Dn mX4_learn 17 (.iload_n 1) 1 18 := ⟨by decide +kernel, rfl⟩
theorem eX4_learn_18 : Dn mX4_learn 18 (.iconst 1) 1 19 := ⟨by decide +kernel, rfl⟩
theorem eX4_learn_19 : Dn mX4_learn 19 (.invokevirtual 71) 3 22 := ⟨by decide +kernel, rfl⟩
theorem eX4_learn_22 : Dn mX4_learn 22 (.istore_n 3) 1 23 := ⟨by decide +kernel, rfl⟩
theorem eX4_learn_23 : Dn mX4_learn 23 (.iconst 0) 1 24 := ⟨by decide +kernel, rfl⟩
theorem eX4_learn_24 : Dn mX4_learn 24 (.istore 4) 2 26 := ⟨by decide +kernel, rfl⟩
theorem eX4_learn_26 : Dn mX4_learn 26 (.iconst (-1)) 1 27 := ⟨by decide +kernel, rfl⟩
theorem eX4_learn_27 : Dn mX4_learn 27 (.istore 5) 2 29 := ⟨by decide +kernel, rfl⟩
theorem eX4_learn_29 : Dn mX4_learn 29 (.iconst 0) 1 30 := ⟨by decide +kernel, rfl⟩
theorem eX4_learn_30 : Dn mX4_learn 30 (.istore 6) 2 32 := ⟨by decide +kernel, rfl⟩
theorem eX4_learn_32 : Dn mX4_learn 32 (.iload 6) 2 34 := ⟨by decide +kernel, rfl⟩
theorem eX4_learn_34 : Dn mX4_learn 34 (.bipush 8) 2 36 := ⟨by decide +kernel, rfl⟩
theorem eX4_learn_36 : Dj mX4_learn 36 (.if_icmp .ge 62) (62) 39 98 := ⟨by decide +kernel, rfl, rfl⟩
theorem eX4_learn_39 : Dn mX4_learn 39 (.aload_n 0) 1 40 := ⟨by decide +kernel, rfl⟩
theorem eX4_learn_40 : Dn mX4_learn 40 (.getfield 7) 3 43 := ⟨by decide +kernel, rfl⟩
theorem eX4_learn_43 : Dn mX4_learn 43 (.iload_n 1) 1 44 := ⟨by decide +kernel, rfl⟩
theorem eX4_learn_44 : Dn mX4_learn 44 (.iconst 1) 1 45 := ⟨by decide +kernel, rfl⟩
theorem eX4_learn_45 : Dn mX4_learn 45 (.invokestatic 59) 3 48 := ⟨by decide +kernel, rfl⟩
theorem eX4_learn_48 : Dn mX4_learn 48 (.iload_n 3) 1 49 := ⟨by decide +kernel, rfl⟩
theorem eX4_learn_49 : Dn mX4_learn 49 (.iconst 1) 1 50 := ⟨by decide +kernel, rfl⟩
theorem eX4_learn_50 : Dn mX4_learn 50 (.iload 6) 2 52 := ⟨by decide +kernel, rfl⟩
theorem eX4_learn_52 : Dn mX4_learn 52 (.ishl) 1 53 := ⟨by decide +kernel, rfl⟩
theorem eX4_learn_53 : Dn mX4_learn 53 (.ior) 1 54 := ⟨by decide +kernel, rfl⟩
theorem eX4_learn_54 : Dn mX4_learn 54 (.iastore) 1 55 := ⟨by decide +kernel, rfl⟩
theorem eX4_learn_55 : Dn mX4_learn 55 (.aload_n 0) 1 56 := ⟨by decide +kernel, rfl⟩
theorem eX4_learn_56 : Dn mX4_learn 56 (.iload_n 1) 1 57 := ⟨by decide +kernel, rfl⟩
theorem eX4_learn_57 : Dn mX4_learn 57 (.iconst 3) 1 58 := ⟨by decide +kernel, rfl⟩
theorem eX4_learn_58 : Dn mX4_learn 58 (.invokestatic 59) 3 61 := ⟨by decide +kernel, rfl⟩
theorem eX4_learn_61 : Dn mX4_learn 61 (.iload_n 2) 1 62 := ⟨by decide +kernel, rfl⟩
theorem eX4_learn_62 : Dn mX4_learn 62 (.invokevirtual 158) 3 65 := ⟨by decide +kernel, rfl⟩
theorem eX4_learn_65 : Dn mX4_learn 65 (.istore 7) 2 67 := ⟨by decide +kernel, rfl⟩
theorem eX4_learn_67 : Dn mX4_learn 67 (.iload 7) 2 69 := ⟨by decide +kernel, rfl⟩
theorem eX4_learn_69 : Dn mX4_learn 69 (.iload 5) 2 71 := ⟨by decide +kernel, rfl⟩
theorem eX4_learn_71 : Dj mX4_learn 71 (.if_icmp .le 8) (8) 74 79 := ⟨by decide +kernel, rfl, rfl⟩
theorem eX4_learn_74 : Dn mX4_learn 74 (.iload 6) 2 76 := ⟨by decide +kernel, rfl⟩
theorem eX4_learn_76 : Dj mX4_learn 76 (.goto 5) (5) 79 81 := ⟨by decide +kernel, rfl, rfl⟩
theorem eX4_learn_79 : Dn mX4_learn 79 (.iload 4) 2 81 := ⟨by decide +kernel, rfl⟩
theorem eX4_learn_81 : Dn mX4_learn 81 (.istore 4) 2 83 := ⟨by decide +kernel, rfl⟩
theorem eX4_learn_83 : Dn mX4_learn 83 (.iload 5) 2 85 := ⟨by decide +kernel, rfl⟩
theorem eX4_learn_85 : Dn mX4_learn 85 (.iload 7) 2 87 := ⟨by decide +kernel, rfl⟩
theorem eX4_learn_87 : Dn mX4_learn 87 (.invokestatic 137) 3 90 := ⟨by decide +kernel, rfl⟩
theorem eX4_learn_90 : Dn mX4_learn 90 (.istore 5) 2 92 := ⟨by decide +kernel, rfl⟩
theorem eX4_learn_92 : Dn mX4_learn 92 (.iinc 6 1) 3 95 := ⟨by decide +kernel, rfl⟩
theorem eX4_learn_95 : Dj mX4_learn 95 (.goto (-63)) (-63) 98 32 := ⟨by decide +kernel, rfl, rfl⟩
theorem eX4_learn_98 : Dn mX4_learn 98 (.aload_n 0) 1 99 := ⟨by decide +kernel, rfl⟩
theorem eX4_learn_99 : Dn mX4_learn 99 (.getfield 7) 3 102 := ⟨by decide +kernel, rfl⟩
theorem eX4_learn_102 : Dn mX4_learn 102 (.iload_n 1) 1 103 := ⟨by decide +kernel, rfl⟩
theorem eX4_learn_103 : Dn mX4_learn 103 (.iconst 1) 1 104 := ⟨by decide +kernel, rfl⟩
theorem eX4_learn_104 : Dn mX4_learn 104 (.invokestatic 59) 3 107 := ⟨by decide +kernel, rfl⟩
theorem eX4_learn_107 : Dn mX4_learn 107 (.iload_n 3) 1 108 := ⟨by decide +kernel, rfl⟩
theorem eX4_learn_108 : Dn mX4_learn 108 (.iastore) 1 109 := ⟨by decide +kernel, rfl⟩
theorem eX4_learn_109 : Dn mX4_learn 109 (.iload 4) 2 111 := ⟨by decide +kernel, rfl⟩
theorem eX4_learn_111 : Dn mX4_learn 111 (.ireturn) 1 112 := ⟨by decide +kernel, rfl⟩
theorem eX4_caughtThen_0 : Dn mX4_caughtThen 0 (.aload_n 0) 1 1 := ⟨by decide +kernel, rfl⟩
theorem eX4_caughtThen_1 : Dn mX4_caughtThen 1 (.iload_n 1) 1 2 := ⟨by decide +kernel, rfl⟩
theorem eX4_caughtThen_2 : Dn mX4_caughtThen 2 (.invokevirtual 131) 3 5 := ⟨by decide +kernel, rfl⟩
theorem eX4_caughtThen_5 : Dn mX4_caughtThen 5 (.aload_n 0) 1 6 := ⟨by decide +kernel, rfl⟩
theorem eX4_caughtThen_6 : Dn mX4_caughtThen 6 (.iconst 5) 1 7 := ⟨by decide +kernel, rfl⟩
theorem eX4_caughtThen_7 : Dn mX4_caughtThen 7 (.invokevirtual 134) 3 10 := ⟨by decide +kernel, rfl⟩
theorem eX4_caughtThen_10 : Dn mX4_caughtThen 10 (.ireturn) 1 11 := ⟨by decide +kernel, rfl⟩
theorem eX4_limitFor_0 : Dn mX4_limitFor 0 (.iload_n 1) 1 1 := ⟨by decide +kernel, rfl⟩
theorem eX4_limitFor_1 : Dn mX4_limitFor 1 (.i2l) 1 2 := ⟨by decide +kernel, rfl⟩
theorem eX4_limitFor_2 : Dn mX4_limitFor 2 (.lconst 0) 1 3 := ⟨by decide +kernel, rfl⟩
theorem eX4_limitFor_3 : Dn mX4_limitFor 3 (.ldc2_w 161) 3 6 := ⟨by decide +kernel, rfl⟩
theorem eX4_limitFor_6 : Dn mX4_limitFor 6 (.invokestatic 49) 3 9 := ⟨by decide +kernel, rfl⟩
theorem eX4_limitFor_9 : Dj mX4_limitFor 9 (.ifCond .ne 10) (10) 12 19 := ⟨by decide +kernel, rfl, rfl⟩
theorem eX4_limitFor_12 : Dn mX4_limitFor 12 (.aload_n 0) 1 13 := ⟨by decide +kernel, rfl⟩
theorem eX4_limitFor_13 : Dn mX4_limitFor 13 (.ldc 37) 2 15 := ⟨by decide +kernel, rfl⟩
theorem eX4_limitFor_15 : Dn mX4_limitFor 15 (.invokevirtual 39) 3 18 := ⟨by decide +kernel, rfl⟩
theorem eX4_limitFor_18 : Dn mX4_limitFor 18 (.ireturn) 1 19 := ⟨by decide +kernel, rfl⟩
theorem eX4_limitFor_19 : Dn mX4_limitFor 19 (.aload_n 0) 1 20 := ⟨by decide +kernel, rfl⟩
theorem eX4_limitFor_20 : Dn mX4_limitFor 20 (.iconst 5) 1 21 := ⟨by decide +kernel, rfl⟩
theorem eX4_limitFor_21 : Dn mX4_limitFor 21 (.invokevirtual 134) 3 24 := ⟨by decide +kernel, rfl⟩
theorem eX4_limitFor_24 : Dn mX4_limitFor 24 (.istore_n 2) 1 25 := ⟨by decide +kernel, rfl⟩
theorem eX4_limitFor_25 : Dn mX4_limitFor 25 (.iconst (-1)) 1 26 := ⟨by decide +kernel, rfl⟩
theorem eX4_limitFor_26 : Dn mX4_limitFor 26 (.istore_n 3) 1 27 := ⟨by decide +kernel, rfl⟩
theorem eX4_limitFor_27 : Dn mX4_limitFor 27 (.aload_n 0) 1 28 := ⟨by decide +kernel, rfl⟩
theorem eX4_limitFor_28 : Dn mX4_limitFor 28 (.getfield 7) 3 31 := ⟨by decide +kernel, rfl⟩
theorem eX4_limitFor_31 : Dn mX4_limitFor 31 (.aload_n 0) 1 32 := ⟨by decide +kernel, rfl⟩
theorem eX4_limitFor_32 : Dn mX4_limitFor 32 (.getfield 19) 3 35 := ⟨by decide +kernel, rfl⟩
theorem eX4_limitFor_35 : Dn mX4_limitFor 35 (.invokestatic 150) 3 38 := ⟨by decide +kernel, rfl⟩
theorem eX4_limitFor_38 : Dn mX4_limitFor 38 (.iconst 1) 1 39 := ⟨by decide +kernel, rfl⟩
theorem eX4_limitFor_39 : Dn mX4_limitFor 39 (.istore 4) 2 41 := ⟨by decide +kernel, rfl⟩
theorem eX4_limitFor_41 : Dn mX4_limitFor 41 (.iload 4) 2 43 := ⟨by decide +kernel, rfl⟩
theorem eX4_limitFor_43 : Dn mX4_limitFor 43 (.bipush 9) 2 45 := ⟨by decide +kernel, rfl⟩
theorem eX4_limitFor_45 : Dj mX4_limitFor 45 (.if_icmp .gt 48) (48) 48 93 := ⟨by decide +kernel, rfl, rfl⟩
theorem eX4_limitFor_48 : Dn mX4_limitFor 48 (.iload_n 3) 1 49 := ⟨by decide +kernel, rfl⟩
theorem eX4_limitFor_49 : Dj mX4_limitFor 49 (.ifCond .ge 44) (44) 52 93 := ⟨by decide +kernel, rfl, rfl⟩
theorem eX4_limitFor_52 : Dn mX4_limitFor 52 (.aload_n 0) 1 53 := ⟨by decide +kernel, rfl⟩
theorem eX4_limitFor_53 : Dn mX4_limitFor 53 (.getfield 7) 3 56 := ⟨by decide +kernel, rfl⟩
theorem eX4_limitFor_56 : Dn mX4_limitFor 56 (.iconst 3) 1 57 := ⟨by decide +kernel, rfl⟩
theorem eX4_limitFor_57 : Dn mX4_limitFor 57 (.iload 4) 2 59 := ⟨by decide +kernel, rfl⟩
theorem eX4_limitFor_59 : Dn mX4_limitFor 59 (.iastore) 1 60 := ⟨by decide +kernel, rfl⟩
theorem eX4_limitFor_60 : Dn mX4_limitFor 60 (.aload_n 0) 1 61 := ⟨by decide +kernel, rfl⟩
theorem eX4_limitFor_61 : Dn mX4_limitFor 61 (.iload_n 1) 1 62 := ⟨by decide +kernel, rfl⟩
theorem eX4_limitFor_62 : Dn mX4_limitFor 62 (.invokevirtual 167) 3 65 := ⟨by decide +kernel, rfl⟩
theorem eX4_limitFor_65 : Dn mX4_limitFor 65 (.iload_n 2) 1 66 := ⟨by decide +kernel, rfl⟩
theorem eX4_limitFor_66 : Dj mX4_limitFor 66 (.if_icmp .ne 8) (8) 69 74 := ⟨by decide +kernel, rfl, rfl⟩
theorem eX4_limitFor_69 : Dn mX4_limitFor 69 (.iload 4) 2 71 := ⟨by decide +kernel, rfl⟩
theorem eX4_limitFor_71 : Dj mX4_limitFor 71 (.goto 4) (4) 74 75 := ⟨by decide +kernel, rfl, rfl⟩
theorem eX4_limitFor_74 : Dn mX4_limitFor 74 (.iconst (-1)) 1 75 := ⟨by decide +kernel, rfl⟩
theorem eX4_limitFor_75 : Dn mX4_limitFor 75 (.istore_n 3) 1 76 := ⟨by decide +kernel, rfl⟩
theorem eX4_limitFor_76 : Dn mX4_limitFor 76 (.aload_n 0) 1 77 := ⟨by decide +kernel, rfl⟩
theorem eX4_limitFor_77 : Dn mX4_limitFor 77 (.getfield 19) 3 80 := ⟨by decide +kernel, rfl⟩
theorem eX4_limitFor_80 : Dn mX4_limitFor 80 (.aload_n 0) 1 81 := ⟨by decide +kernel, rfl⟩
theorem eX4_limitFor_81 : Dn mX4_limitFor 81 (.getfield 7) 3 84 := ⟨by decide +kernel, rfl⟩
theorem eX4_limitFor_84 : Dn mX4_limitFor 84 (.invokestatic 150) 3 87 := ⟨by decide +kernel, rfl⟩
theorem eX4_limitFor_87 : Dn mX4_limitFor 87 (.iinc 4 1) 3 90 := ⟨by decide +kernel, rfl⟩
theorem eX4_limitFor_90 : Dj mX4_limitFor 90 (.goto (-49)) (-49) 93 41 := ⟨by decide +kernel, rfl, rfl⟩
theorem eX4_limitFor_93 : Dn mX4_limitFor 93 (.aload_n 0) 1 94 := ⟨by decide +kernel, rfl⟩
theorem eX4_limitFor_94 : Dn mX4_limitFor 94 (.iload_n 3) 1 95 := ⟨by decide +kernel, rfl⟩
theorem eX4_limitFor_95 : Dn mX4_limitFor 95 (.invokevirtual 170) 3 98 := ⟨by decide +kernel, rfl⟩
theorem eX4_limitFor_98 : Dn mX4_limitFor 98 (.ireturn) 1 99 := ⟨by decide +kernel, rfl⟩
theorem eX4_forbid_0 : Dn mX4_forbid 0 (.iload_n 1) 1 1 := ⟨by decide +kernel, rfl⟩
theorem eX4_forbid_1 : Dn mX4_forbid 1 (.i2l) 1 2 := ⟨by decide +kernel, rfl⟩
theorem eX4_forbid_2 : Dn mX4_forbid 2 (.lconst 0) 1 3 := ⟨by decide +kernel, rfl⟩
theorem eX4_forbid_3 : Dn mX4_forbid 3 (.ldc2_w 173) 3 6 := ⟨by decide +kernel, rfl⟩
theorem eX4_forbid_6 : Dn mX4_forbid 6 (.invokestatic 49) 3 9 := ⟨by decide +kernel, rfl⟩
theorem eX4_forbid_9 : Dj mX4_forbid 9 (.ifCond .ne 10) (10) 12 19 := ⟨by decide +kernel, rfl, rfl⟩
theorem eX4_forbid_12 : Dn mX4_forbid 12 (.aload_n 0) 1 13 := ⟨by decide +kernel, rfl⟩
theorem eX4_forbid_13 : Dn mX4_forbid 13 (.ldc 37) 2 15 := ⟨by decide +kernel, rfl⟩
theorem eX4_forbid_15 : Dn mX4_forbid 15 (.invokevirtual 39) 3 18 := ⟨by decide +kernel, rfl⟩
theorem eX4_forbid_18 : Dn mX4_forbid 18 (.ireturn) 1 19 := ⟨by decide +kernel, rfl⟩
theorem eX4_forbid_19 : Dn mX4_forbid 19 (.aload_n 0) 1 20 := ⟨by decide +kernel, rfl⟩
theorem eX4_forbid_20 : Dn mX4_forbid 20 (.iconst 5) 1 21 := ⟨by decide +kernel, rfl⟩
theorem eX4_forbid_21 : Dn mX4_forbid 21 (.invokevirtual 134) 3 24 := ⟨by decide +kernel, rfl⟩
theorem eX4_forbid_24 : Dn mX4_forbid 24 (.istore_n 2) 1 25 := ⟨by decide +kernel, rfl⟩
theorem eX4_forbid_25 : Dn mX4_forbid 25 (.iconst (-1)) 1 26 := ⟨by decide +kernel, rfl⟩
theorem eX4_forbid_26 : Dn mX4_forbid 26 (.istore_n 3) 1 27 := ⟨by decide +kernel, rfl⟩
theorem eX4_forbid_27 : Dn mX4_forbid 27 (.aload_n 0) 1 28 := ⟨by decide +kernel, rfl⟩
theorem eX4_forbid_28 : Dn mX4_forbid 28 (.getfield 7) 3 31 := ⟨by decide +kernel, rfl⟩
theorem eX4_forbid_31 : Dn mX4_forbid 31 (.aload_n 0) 1 32 := ⟨by decide +kernel, rfl⟩
theorem eX4_forbid_32 : Dn mX4_forbid 32 (.getfield 19) 3 35 := ⟨by decide +kernel, rfl⟩
theorem eX4_forbid_35 : Dn mX4_forbid 35 (.invokestatic 150) 3 38 := ⟨by decide +kernel, rfl⟩
theorem eX4_forbid_38 : Dn mX4_forbid 38 (.iconst 0) 1 39 := ⟨by decide +kernel, rfl⟩
theorem eX4_forbid_39 : Dn mX4_forbid 39 (.istore 4) 2 41 := ⟨by decide +kernel, rfl⟩
theorem eX4_forbid_41 : Dn mX4_forbid 41 (.iload 4) 2 43 := ⟨by decide +kernel, rfl⟩
theorem eX4_forbid_43 : Dn mX4_forbid 43 (.iconst 1) 1 44 := ⟨by decide +kernel, rfl⟩
theorem eX4_forbid_44 : Dn mX4_forbid 44 (.aload_n 0) 1 45 := ⟨by decide +kernel, rfl⟩
theorem eX4_forbid_45 : Dn mX4_forbid 45 (.getfield 7) 3 48 := ⟨by decide +kernel, rfl⟩
theorem eX4_forbid_48 : Dn mX4_forbid 48 (.iconst 0) 1 49 := ⟨by decide +kernel, rfl⟩
theorem eX4_forbid_49 : Dn mX4_forbid 49 (.iaload) 1 50 := ⟨by decide +kernel, rfl⟩
theorem eX4_forbid_50 : Dn mX4_forbid 50 (.ishl) 1 51 := ⟨by decide +kernel, rfl⟩
theorem eX4_forbid_51 : Dj mX4_forbid 51 (.if_icmp .ge 114) (114) 54 165 := ⟨by decide +kernel, rfl, rfl⟩
theorem eX4_forbid_54 : Dn mX4_forbid 54 (.iload_n 3) 1 55 := ⟨by decide +kernel, rfl⟩
theorem eX4_forbid_55 : Dj mX4_forbid 55 (.ifCond .lt 15) (15) 58 70 := ⟨by decide +kernel, rfl, rfl⟩
theorem eX4_forbid_58 : Dn mX4_forbid 58 (.iload 4) 2 60 := ⟨by decide +kernel, rfl⟩
theorem eX4_forbid_60 : Dn mX4_forbid 60 (.invokestatic 111) 3 63 := ⟨by decide +kernel, rfl⟩
theorem eX4_forbid_63 : Dn mX4_forbid 63 (.iload_n 3) 1 64 := ⟨by decide +kernel, rfl⟩
theorem eX4_forbid_64 : Dn mX4_forbid 64 (.invokestatic 111) 3 67 := ⟨by decide +kernel, rfl⟩
theorem eX4_forbid_67 : Dj mX4_forbid 67 (.if_icmp .ge 92) (92) 70 159 := ⟨by decide +kernel, rfl, rfl⟩
theorem eX4_forbid_70 : Dn mX4_forbid 70 (.iconst 0) 1 71 := ⟨by decide +kernel, rfl⟩
theorem eX4_forbid_71 : Dn mX4_forbid 71 (.istore 5) 2 73 := ⟨by decide +kernel, rfl⟩
theorem eX4_forbid_73 : Dn mX4_forbid 73 (.iload 5) 2 75 := ⟨by decide +kernel, rfl⟩
theorem eX4_forbid_75 : Dn mX4_forbid 75 (.aload_n 0) 1 76 := ⟨by decide +kernel, rfl⟩
theorem eX4_forbid_76 : Dn mX4_forbid 76 (.getfield 7) 3 79 := ⟨by decide +kernel, rfl⟩
theorem eX4_forbid_79 : Dn mX4_forbid 79 (.iconst 0) 1 80 := ⟨by decide +kernel, rfl⟩
theorem eX4_forbid_80 : Dn mX4_forbid 80 (.iaload) 1 81 := ⟨by decide +kernel, rfl⟩
theorem eX4_forbid_81 : Dj mX4_forbid 81 (.if_icmp .ge 51) (51) 84 132 := ⟨by decide +kernel, rfl, rfl⟩
theorem eX4_forbid_84 : Dn mX4_forbid 84 (.aload_n 0) 1 85 := ⟨by decide +kernel, rfl⟩
theorem eX4_forbid_85 : Dn mX4_forbid 85 (.iload 5) 2 87 := ⟨by decide +kernel, rfl⟩
theorem eX4_forbid_87 : Dn mX4_forbid 87 (.iconst 2) 1 88 := ⟨by decide +kernel, rfl⟩
theorem eX4_forbid_88 : Dn mX4_forbid 88 (.invokevirtual 71) 3 91 := ⟨by decide +kernel, rfl⟩
theorem eX4_forbid_91 : Dn mX4_forbid 91 (.istore 6) 2 93 := ⟨by decide +kernel, rfl⟩
theorem eX4_forbid_93 : Dn mX4_forbid 93 (.aload_n 0) 1 94 := ⟨by decide +kernel, rfl⟩
theorem eX4_forbid_94 : Dn mX4_forbid 94 (.getfield 7) 3 97 := ⟨by decide +kernel, rfl⟩
theorem eX4_forbid_97 : Dn mX4_forbid 97 (.iload 5) 2 99 := ⟨by decide +kernel, rfl⟩
theorem eX4_forbid_99 : Dn mX4_forbid 99 (.iconst 2) 1 100 := ⟨by decide +kernel, rfl⟩
theorem eX4_forbid_100 : Dn mX4_forbid 100 (.invokestatic 59) 3 103 := ⟨by decide +kernel, rfl⟩
theorem eX4_forbid_103 : Dn mX4_forbid 103 (.iload 6) 2 105 := ⟨by decide +kernel, rfl⟩
theorem eX4_forbid_105 : Dj mX4_forbid 105 (.ifCond .lt 18) (18) 108 123 := ⟨by decide +kernel, rfl, rfl⟩
theorem eX4_forbid_108 : Dn mX4_forbid 108 (.iload 4) 2 110 := ⟨by decide +kernel, rfl⟩
theorem eX4_forbid_110 : Dn mX4_forbid 110 (.iload 6) 2 112 := ⟨by decide +kernel, rfl⟩
theorem eX4_forbid_112 : Dn mX4_forbid 112 (.ishr) 1 113 := ⟨by decide +kernel, rfl⟩
theorem eX4_forbid_113 : Dn mX4_forbid 113 (.iconst 1) 1 114 := ⟨by decide +kernel, rfl⟩
theorem eX4_forbid_114 : Dn mX4_forbid 114 (.iand) 1 115 := ⟨by decide +kernel, rfl⟩
theorem eX4_forbid_115 : Dn mX4_forbid 115 (.iconst 1) 1 116 := ⟨by decide +kernel, rfl⟩
theorem eX4_forbid_116 : Dj mX4_forbid 116 (.if_icmp .ne 7) (7) 119 123 := ⟨by decide +kernel, rfl, rfl⟩
theorem eX4_forbid_119 : Dn mX4_forbid 119 (.iconst (-1)) 1 120 := ⟨by decide +kernel, rfl⟩
theorem eX4_forbid_120 : Dj mX4_forbid 120 (.goto 5) (5) 123 125 := ⟨by decide +kernel, rfl, rfl⟩
theorem eX4_forbid_123 : Dn mX4_forbid 123 (.iload 6) 2 125 := ⟨by decide +kernel, rfl⟩
theorem eX4_forbid_125 : Dn mX4_forbid 125 (.iastore) 1 126 := ⟨by decide +kernel, rfl⟩
theorem eX4_forbid_126 : Dn mX4_forbid 126 (.iinc 5 1) 3 129 := ⟨by decide +kernel, rfl⟩
theorem eX4_forbid_129 : Dj mX4_forbid 129 (.goto (-56)) (-56) 132 73 := ⟨by decide +kernel, rfl, rfl⟩
theorem eX4_forbid_132 : Dn mX4_forbid 132 (.aload_n 0) 1 133 := ⟨by decide +kernel, rfl⟩
theorem eX4_forbid_133 : Dn mX4_forbid 133 (.iload_n 1) 1 134 := ⟨by decide +kernel, rfl⟩
theorem eX4_forbid_134 : Dn mX4_forbid 134 (.invokevirtual 167) 3 137 := ⟨by decide +kernel, rfl⟩
theorem eX4_forbid_137 : Dn mX4_forbid 137 (.iload_n 2) 1 138 := ⟨by decide +kernel, rfl⟩
theorem eX4_forbid_138 : Dj mX4_forbid 138 (.if_icmp .ne 8) (8) 141 146 := ⟨by decide +kernel, rfl, rfl⟩
theorem eX4_forbid_141 : Dn mX4_forbid 141 (.iload 4) 2 143 := ⟨by decide +kernel, rfl⟩
theorem eX4_forbid_143 : Dj mX4_forbid 143 (.goto 4) (4) 146 147 := ⟨by decide +kernel, rfl, rfl⟩
theorem eX4_forbid_146 : Dn mX4_forbid 146 (.iload_n 3) 1 147 := ⟨by decide +kernel, rfl⟩
theorem eX4_forbid_147 : Dn mX4_forbid 147 (.istore_n 3) 1 148 := ⟨by decide +kernel, rfl⟩
theorem eX4_forbid_148 : Dn mX4_forbid 148 (.aload_n 0) 1 149 := ⟨by decide +kernel, rfl⟩
theorem eX4_forbid_149 : Dn mX4_forbid 149 (.getfield 19) 3 152 := ⟨by decide +kernel, rfl⟩
theorem eX4_forbid_152 : Dn mX4_forbid 152 (.aload_n 0) 1 153 := ⟨by decide +kernel, rfl⟩
theorem eX4_forbid_153 : Dn mX4_forbid 153 (.getfield 7) 3 156 := ⟨by decide +kernel, rfl⟩
theorem eX4_forbid_156 : Dn mX4_forbid 156 (.invokestatic 150) 3 159 := ⟨by decide +kernel, rfl⟩
theorem eX4_forbid_159 : Dn mX4_forbid 159 (.iinc 4 1) 3 162 := ⟨by decide +kernel, rfl⟩
theorem eX4_forbid_162 : Dj mX4_forbid 162 (.goto (-121)) (-121) 165 41 := ⟨by decide +kernel, rfl, rfl⟩
theorem eX4_forbid_165 : Dn mX4_forbid 165 (.iload_n 3) 1 166 := ⟨by decide +kernel, rfl⟩
theorem eX4_forbid_166 : Dn mX4_forbid 166 (.ireturn) 1 167 := ⟨by decide +kernel, rfl⟩
theorem eX4_biscuitsFor_0 : Dn mX4_biscuitsFor 0 (.aload_n 0) 1 1 := ⟨by decide +kernel, rfl⟩
theorem eX4_biscuitsFor_1 : Dn mX4_biscuitsFor 1 (.iload_n 1) 1 2 := ⟨by decide +kernel, rfl⟩
theorem eX4_biscuitsFor_2 : Dn mX4_biscuitsFor 2 (.iload_n 2) 1 3 := ⟨by decide +kernel, rfl⟩
theorem eX4_biscuitsFor_3 : Dn mX4_biscuitsFor 3 (.invokevirtual 163) 3 6 := ⟨by decide +kernel, rfl⟩
theorem eX4_biscuitsFor_6 : Dj mX4_biscuitsFor 6 (.ifCond .ne 10) (10) 9 16 := ⟨by decide +kernel, rfl, rfl⟩
theorem eX4_biscuitsFor_9 : Dn mX4_biscuitsFor 9 (.aload_n 0) 1 10 := ⟨by decide +kernel, rfl⟩
theorem eX4_biscuitsFor_10 : Dn mX4_biscuitsFor 10 (.ldc 37) 2 12 := ⟨by decide +kernel, rfl⟩
theorem eX4_biscuitsFor_12 : Dn mX4_biscuitsFor 12 (.invokevirtual 39) 3 15 := ⟨by decide +kernel, rfl⟩
theorem eX4_biscuitsFor_15 : Dn mX4_biscuitsFor 15 (.ireturn) 1 16 := ⟨by decide +kernel, rfl⟩
theorem eX4_biscuitsFor_16 : Dn mX4_biscuitsFor 16 (.aload_n 0) 1 17 := ⟨by decide +kernel, rfl⟩
theorem eX4_biscuitsFor_17 : Dn mX4_biscuitsFor 17 (.iload_n 1) 1 18 := ⟨by decide +kernel, rfl⟩
theorem eX4_biscuitsFor_18 : Dn mX4_biscuitsFor 18 (.iconst 4) 1 19 := ⟨by decide +kernel, rfl⟩
theorem eX4_biscuitsFor_19 : Dn mX4_biscuitsFor 19 (.invokestatic 59) 3 22 := ⟨by decide +kernel, rfl⟩
theorem eX4_biscuitsFor_22 : Dn mX4_biscuitsFor 22 (.bipush 99) 2 24 := ⟨by decide +kernel, rfl⟩
theorem eX4_biscuitsFor_24 : Dn mX4_biscuitsFor 24 (.invokevirtual 53) 3 27 := ⟨by decide +kernel, rfl⟩
theorem eX4_biscuitsFor_27 : Dn mX4_biscuitsFor 27 (.istore_n 3) 1 28 := ⟨by decide +kernel, rfl⟩
theorem eX4_biscuitsFor_28 : Dn mX4_biscuitsFor 28 (.aload_n 0) 1 29 := ⟨by decide +kernel, rfl⟩
theorem eX4_biscuitsFor_29 : Dn mX4_biscuitsFor 29 (.iload_n 1) 1 30 := ⟨by decide +kernel, rfl⟩
theorem eX4_biscuitsFor_30 : Dn mX4_biscuitsFor 30 (.iconst 3) 1 31 := ⟨by decide +kernel, rfl⟩
theorem eX4_biscuitsFor_31 : Dn mX4_biscuitsFor 31 (.invokestatic 59) 3 34 := ⟨by decide +kernel, rfl⟩
theorem eX4_biscuitsFor_34 : Dn mX4_biscuitsFor 34 (.iload_n 2) 1 35 := ⟨by decide +kernel, rfl⟩
theorem eX4_biscuitsFor_35 : Dn mX4_biscuitsFor 35 (.invokevirtual 158) 3 38 := ⟨by decide +kernel, rfl⟩
theorem eX4_biscuitsFor_38 : Dn mX4_biscuitsFor 38 (.istore 4) 2 40 := ⟨by decide +kernel, rfl⟩
theorem eX4_biscuitsFor_40 : Dn mX4_biscuitsFor 40 (.iconst (-1)) 1 41 := ⟨by decide +kernel, rfl⟩
theorem eX4_biscuitsFor_41 : Dn mX4_biscuitsFor 41 (.istore 5) 2 43 := ⟨by decide +kernel, rfl⟩
theorem eX4_biscuitsFor_43 : Dn mX4_biscuitsFor 43 (.iconst 0) 1 44 := ⟨by decide +kernel, rfl⟩
theorem eX4_biscuitsFor_44 : Dn mX4_biscuitsFor 44 (.istore 6) 2 46 := ⟨by decide +kernel, rfl⟩
theorem eX4_biscuitsFor_46 : Dn mX4_biscuitsFor 46 (.iload 6) 2 48 := ⟨by decide +kernel, rfl⟩
theorem eX4_biscuitsFor_48 : Dn mX4_biscuitsFor 48 (.bipush 99) 2 50 := ⟨by decide +kernel, rfl⟩
theorem eX4_biscuitsFor_50 : Dj mX4_biscuitsFor 50 (.if_icmp .gt 49) (49) 53 99 := ⟨by decide +kernel, rfl, rfl⟩
theorem eX4_biscuitsFor_53 : Dn mX4_biscuitsFor 53 (.iload 5) 2 55 := ⟨by decide +kernel, rfl⟩
theorem eX4_biscuitsFor_55 : Dj mX4_biscuitsFor 55 (.ifCond .ge 44) (44) 58 99 := ⟨by decide +kernel, rfl, rfl⟩
theorem eX4_biscuitsFor_58 : Dn mX4_biscuitsFor 58 (.aload_n 0) 1 59 := ⟨by decide +kernel, rfl⟩
theorem eX4_biscuitsFor_59 : Dn mX4_biscuitsFor 59 (.getfield 7) 3 62 := ⟨by decide +kernel, rfl⟩
theorem eX4_biscuitsFor_62 : Dn mX4_biscuitsFor 62 (.iload_n 1) 1 63 := ⟨by decide +kernel, rfl⟩
theorem eX4_biscuitsFor_63 : Dn mX4_biscuitsFor 63 (.iconst 4) 1 64 := ⟨by decide +kernel, rfl⟩
theorem eX4_biscuitsFor_64 : Dn mX4_biscuitsFor 64 (.invokestatic 59) 3 67 := ⟨by decide +kernel, rfl⟩
theorem eX4_biscuitsFor_67 : Dn mX4_biscuitsFor 67 (.iload 6) 2 69 := ⟨by decide +kernel, rfl⟩
theorem eX4_biscuitsFor_69 : Dn mX4_biscuitsFor 69 (.iastore) 1 70 := ⟨by decide +kernel, rfl⟩
theorem eX4_biscuitsFor_70 : Dn mX4_biscuitsFor 70 (.aload_n 0) 1 71 := ⟨by decide +kernel, rfl⟩
theorem eX4_biscuitsFor_71 : Dn mX4_biscuitsFor 71 (.iload_n 1) 1 72 := ⟨by decide +kernel, rfl⟩
theorem eX4_biscuitsFor_72 : Dn mX4_biscuitsFor 72 (.iconst 3) 1 73 := ⟨by decide +kernel, rfl⟩
theorem eX4_biscuitsFor_73 : Dn mX4_biscuitsFor 73 (.invokestatic 59) 3 76 := ⟨by decide +kernel, rfl⟩
theorem eX4_biscuitsFor_76 : Dn mX4_biscuitsFor 76 (.iload_n 2) 1 77 := ⟨by decide +kernel, rfl⟩
theorem eX4_biscuitsFor_77 : Dn mX4_biscuitsFor 77 (.invokevirtual 158) 3 80 := ⟨by decide +kernel, rfl⟩
theorem eX4_biscuitsFor_80 : Dn mX4_biscuitsFor 80 (.iload 4) 2 82 := ⟨by decide +kernel, rfl⟩
theorem eX4_biscuitsFor_82 : Dj mX4_biscuitsFor 82 (.if_icmp .ne 8) (8) 85 90 := ⟨by decide +kernel, rfl, rfl⟩
theorem eX4_biscuitsFor_85 : Dn mX4_biscuitsFor 85 (.iload 6) 2 87 := ⟨by decide +kernel, rfl⟩
theorem eX4_biscuitsFor_87 : Dj mX4_biscuitsFor 87 (.goto 4) (4) 90 91 := ⟨by decide +kernel, rfl, rfl⟩
theorem eX4_biscuitsFor_90 : Dn mX4_biscuitsFor 90 (.iconst (-1)) 1 91 := ⟨by decide +kernel, rfl⟩
theorem eX4_biscuitsFor_91 : Dn mX4_biscuitsFor 91 (.istore 5) 2 93 := ⟨by decide +kernel, rfl⟩
theorem eX4_biscuitsFor_93 : Dn mX4_biscuitsFor 93 (.iinc 6 1) 3 96 := ⟨by decide +kernel, rfl⟩
theorem eX4_biscuitsFor_96 : Dj mX4_biscuitsFor 96 (.goto (-50)) (-50) 99 46 := ⟨by decide +kernel, rfl, rfl⟩
theorem eX4_biscuitsFor_99 : Dn mX4_biscuitsFor 99 (.aload_n 0) 1 100 := ⟨by decide +kernel, rfl⟩
theorem eX4_biscuitsFor_100 : Dn mX4_biscuitsFor 100 (.getfield 7) 3 103 := ⟨by decide +kernel, rfl⟩
theorem eX4_biscuitsFor_103 : Dn mX4_biscuitsFor 103 (.iload_n 1) 1 104 := ⟨by decide +kernel, rfl⟩
theorem eX4_biscuitsFor_104 : Dn mX4_biscuitsFor 104 (.iconst 4) 1 105 := ⟨by decide +kernel, rfl⟩
theorem eX4_biscuitsFor_105 : Dn mX4_biscuitsFor 105 (.invokestatic 59) 3 108 := ⟨by decide +kernel, rfl⟩
theorem eX4_biscuitsFor_108 : Dn mX4_biscuitsFor 108 (.iload_n 3) 1 109 := ⟨by decide +kernel, rfl⟩
theorem eX4_biscuitsFor_109 : Dn mX4_biscuitsFor 109 (.iastore) 1 110 := ⟨by decide +kernel, rfl⟩
theorem eX4_biscuitsFor_110 : Dn mX4_biscuitsFor 110 (.iload 5) 2 112 := ⟨by decide +kernel, rfl⟩
theorem eX4_biscuitsFor_112 : Dn mX4_biscuitsFor 112 (.ireturn) 1 113 := ⟨by decide +kernel, rfl⟩
theorem eX4_isTold_0 : Dn mX4_isTold 0 (.aload_n 0) 1 1 := ⟨by decide +kernel, rfl⟩
theorem eX4_isTold_1 : Dn mX4_isTold 1 (.getfield 7) 3 4 := ⟨by decide +kernel, rfl⟩
theorem eX4_isTold_4 : Dn mX4_isTold 4 (.aload_n 0) 1 5 := ⟨by decide +kernel, rfl⟩
theorem eX4_isTold_5 : Dn mX4_isTold 5 (.getfield 19) 3 8 := ⟨by decide +kernel, rfl⟩
theorem eX4_isTold_8 : Dn mX4_isTold 8 (.invokestatic 150) 3 11 := ⟨by decide +kernel, rfl⟩
theorem eX4_isTold_11 : Dn mX4_isTold 11 (.aload_n 0) 1 12 := ⟨by decide +kernel, rfl⟩
theorem eX4_isTold_12 : Dn mX4_isTold 12 (.invokevirtual 124) 3 15 := ⟨by decide +kernel, rfl⟩
theorem eX4_isTold_15 : Dn mX4_isTold 15 (.iconst 1) 1 16 := ⟨by decide +kernel, rfl⟩
theorem eX4_isTold_16 : Dn mX4_isTold 16 (.istore_n 3) 1 17 := ⟨by decide +kernel, rfl⟩
theorem eX4_isTold_17 : Dn mX4_isTold 17 (.iconst 0) 1 18 := ⟨by decide +kernel, rfl⟩
theorem eX4_isTold_18 : Dn mX4_isTold 18 (.istore 4) 2 20 := ⟨by decide +kernel, rfl⟩
theorem eX4_isTold_20 : Dn mX4_isTold 20 (.iload 4) 2 22 := ⟨by decide +kernel, rfl⟩
theorem eX4_isTold_22 : Dn mX4_isTold 22 (.aload_n 0) 1 23 := ⟨by decide +kernel, rfl⟩
theorem eX4_isTold_23 : Dn mX4_isTold 23 (.getfield 31) 3 26 := ⟨by decide +kernel, rfl⟩
theorem eX4_isTold_26 : Dn mX4_isTold 26 (.iload_n 1) 1 27 := ⟨by decide +kernel, rfl⟩
theorem eX4_isTold_27 : Dn mX4_isTold 27 (.iaload) 1 28 := ⟨by decide +kernel, rfl⟩
theorem eX4_isTold_28 : Dj mX4_isTold 28 (.if_icmp .ge 60) (60) 31 88 := ⟨by decide +kernel, rfl, rfl⟩
theorem eX4_isTold_31 : Dn mX4_isTold 31 (.iload 4) 2 33 := ⟨by decide +kernel, rfl⟩
theorem eX4_isTold_33 : Dn mX4_isTold 33 (.bipush 8) 2 35 := ⟨by decide +kernel, rfl⟩
theorem eX4_isTold_35 : Dj mX4_isTold 35 (.if_icmp .ge 53) (53) 38 88 := ⟨by decide +kernel, rfl, rfl⟩
theorem eX4_isTold_38 : Dn mX4_isTold 38 (.aload_n 0) 1 39 := ⟨by decide +kernel, rfl⟩
theorem eX4_isTold_39 : Dn mX4_isTold 39 (.getfield 34) 3 42 := ⟨by decide +kernel, rfl⟩
theorem eX4_isTold_42 : Dn mX4_isTold 42 (.bipush 40) 2 44 := ⟨by decide +kernel, rfl⟩
theorem eX4_isTold_44 : Dn mX4_isTold 44 (.iload_n 1) 1 45 := ⟨by decide +kernel, rfl⟩
theorem eX4_isTold_45 : Dn mX4_isTold 45 (.imul) 1 46 := ⟨by decide +kernel, rfl⟩
theorem eX4_isTold_46 : Dn mX4_isTold 46 (.iload 4) 2 48 := ⟨by decide +kernel, rfl⟩
theorem eX4_isTold_48 : Dn mX4_isTold 48 (.iadd) 1 49 := ⟨by decide +kernel, rfl⟩
theorem eX4_isTold_49 : Dn mX4_isTold 49 (.iaload) 1 50 := ⟨by decide +kernel, rfl⟩
theorem eX4_isTold_50 : Dn mX4_isTold 50 (.istore 5) 2 52 := ⟨by decide +kernel, rfl⟩
theorem eX4_isTold_52 : Dn mX4_isTold 52 (.iload_n 3) 1 53 := ⟨by decide +kernel, rfl⟩
theorem eX4_isTold_53 : Dn mX4_isTold 53 (.iload 5) 2 55 := ⟨by decide +kernel, rfl⟩
theorem eX4_isTold_55 : Dn mX4_isTold 55 (.bipush (-2)) 2 57 := ⟨by decide +kernel, rfl⟩
theorem eX4_isTold_57 : Dj mX4_isTold 57 (.if_icmp .eq 18) (18) 60 75 := ⟨by decide +kernel, rfl, rfl⟩
theorem eX4_isTold_60 : Dn mX4_isTold 60 (.iload 5) 2 62 := ⟨by decide +kernel, rfl⟩
theorem eX4_isTold_62 : Dn mX4_isTold 62 (.aload_n 0) 1 63 := ⟨by decide +kernel, rfl⟩
theorem eX4_isTold_63 : Dn mX4_isTold 63 (.iload_n 2) 1 64 := ⟨by decide +kernel, rfl⟩
theorem eX4_isTold_64 : Dn mX4_isTold 64 (.bipush 6) 2 66 := ⟨by decide +kernel, rfl⟩
theorem eX4_isTold_66 : Dn mX4_isTold 66 (.iload 4) 2 68 := ⟨by decide +kernel, rfl⟩
theorem eX4_isTold_68 : Dn mX4_isTold 68 (.iadd) 1 69 := ⟨by decide +kernel, rfl⟩
theorem eX4_isTold_69 : Dn mX4_isTold 69 (.invokevirtual 71) 3 72 := ⟨by decide +kernel, rfl⟩
theorem eX4_isTold_72 : Dj mX4_isTold 72 (.if_icmp .ne 7) (7) 75 79 := ⟨by decide +kernel, rfl, rfl⟩
theorem eX4_isTold_75 : Dn mX4_isTold 75 (.iconst 1) 1 76 := ⟨by decide +kernel, rfl⟩
theorem eX4_isTold_76 : Dj mX4_isTold 76 (.goto 4) (4) 79 80 := ⟨by decide +kernel, rfl, rfl⟩
theorem eX4_isTold_79 : Dn mX4_isTold 79 (.iconst 0) 1 80 := ⟨by decide +kernel, rfl⟩
theorem eX4_isTold_80 : Dn mX4_isTold 80 (.iand) 1 81 := ⟨by decide +kernel, rfl⟩
theorem eX4_isTold_81 : Dn mX4_isTold 81 (.istore_n 3) 1 82 := ⟨by decide +kernel, rfl⟩
theorem eX4_isTold_82 : Dn mX4_isTold 82 (.iinc 4 1) 3 85 := ⟨by decide +kernel, rfl⟩
theorem eX4_isTold_85 : Dj mX4_isTold 85 (.goto (-65)) (-65) 88 20 := ⟨by decide +kernel, rfl, rfl⟩
theorem eX4_isTold_88 : Dn mX4_isTold 88 (.aload_n 0) 1 89 := ⟨by decide +kernel, rfl⟩
theorem eX4_isTold_89 : Dn mX4_isTold 89 (.getfield 19) 3 92 := ⟨by decide +kernel, rfl⟩
theorem eX4_isTold_92 : Dn mX4_isTold 92 (.aload_n 0) 1 93 := ⟨by decide +kernel, rfl⟩
theorem eX4_isTold_93 : Dn mX4_isTold 93 (.getfield 7) 3 96 := ⟨by decide +kernel, rfl⟩
theorem eX4_isTold_96 : Dn mX4_isTold 96 (.invokestatic 150) 3 99 := ⟨by decide +kernel, rfl⟩
theorem eX4_isTold_99 : Dn mX4_isTold 99 (.iload_n 3) 1 100 := ⟨by decide +kernel, rfl⟩
theorem eX4_isTold_100 : Dn mX4_isTold 100 (.ireturn) 1 101 := ⟨by decide +kernel, rfl⟩
theorem eX4_wantsFor_0 : Dn mX4_wantsFor 0 (.aload_n 0) 1 1 := ⟨by decide +kernel, rfl⟩
theorem eX4_wantsFor_1 : Dn mX4_wantsFor 1 (.iload_n 1) 1 2 := ⟨by decide +kernel, rfl⟩
theorem eX4_wantsFor_2 : Dn mX4_wantsFor 2 (.invokevirtual 175) 3 5 := ⟨by decide +kernel, rfl⟩
theorem eX4_wantsFor_5 : Dj mX4_wantsFor 5 (.ifCond .eq 11) (11) 8 16 := ⟨by decide +kernel, rfl, rfl⟩
theorem eX4_wantsFor_8 : Dn mX4_wantsFor 8 (.aload_n 0) 1 9 := ⟨by decide +kernel, rfl⟩
theorem eX4_wantsFor_9 : Dn mX4_wantsFor 9 (.iload_n 1) 1 10 := ⟨by decide +kernel, rfl⟩
theorem eX4_wantsFor_10 : Dn mX4_wantsFor 10 (.invokevirtual 175) 3 13 := ⟨by decide +kernel, rfl⟩
theorem eX4_wantsFor_13 : Dj mX4_wantsFor 13 (.goto 17) (17) 16 30 := ⟨by decide +kernel, rfl, rfl⟩
theorem eX4_wantsFor_16 : Dn mX4_wantsFor 16 (.aload_n 0) 1 17 := ⟨by decide +kernel, rfl⟩
theorem eX4_wantsFor_17 : Dn mX4_wantsFor 17 (.iload_n 2) 1 18 := ⟨by decide +kernel, rfl⟩
theorem eX4_wantsFor_18 : Dn mX4_wantsFor 18 (.invokevirtual 77) 3 21 := ⟨by decide +kernel, rfl⟩
theorem eX4_wantsFor_21 : Dj mX4_wantsFor 21 (.ifCond .eq 7) (7) 24 28 := ⟨by decide +kernel, rfl, rfl⟩
theorem eX4_wantsFor_24 : Dn mX4_wantsFor 24 (.iconst 0) 1 25 := ⟨by decide +kernel, rfl⟩
theorem eX4_wantsFor_25 : Dj mX4_wantsFor 25 (.goto 5) (5) 28 30 := ⟨by decide +kernel, rfl, rfl⟩
theorem eX4_wantsFor_28 : Dn mX4_wantsFor 28 (.ldc 37) 2 30 := ⟨by decide +kernel, rfl⟩
theorem eX4_wantsFor_30 : Dn mX4_wantsFor 30 (.ireturn) 1 31 := ⟨by decide +kernel, rfl⟩
theorem eX4_sources_0 : Dn mX4_sources 0 (.aload_n 0) 1 1 := ⟨by decide +kernel, rfl⟩
theorem eX4_sources_1 : Dn mX4_sources 1 (.iload_n 1) 1 2 := ⟨by decide +kernel, rfl⟩
theorem eX4_sources_2 : Dn mX4_sources 2 (.iload_n 2) 1 3 := ⟨by decide +kernel, rfl⟩
theorem eX4_sources_3 : Dn mX4_sources 3 (.invokevirtual 178) 3 6 := ⟨by decide +kernel, rfl⟩
theorem eX4_sources_6 : Dn mX4_sources 6 (.istore_n 3) 1 7 := ⟨by decide +kernel, rfl⟩
theorem eX4_sources_7 : Dn mX4_sources 7 (.iload_n 3) 1 8 := ⟨by decide +kernel, rfl⟩
theorem eX4_sources_8 : Dj mX4_sources 8 (.ifCond .eq 9) (9) 11 17 := ⟨by decide +kernel, rfl, rfl⟩
theorem eX4_sources_11 : Dn mX4_sources 11 (.aload_n 0) 1 12 := ⟨by decide +kernel, rfl⟩
theorem eX4_sources_12 : Dn mX4_sources 12 (.iload_n 3) 1 13 := ⟨by decide +kernel, rfl⟩
theorem eX4_sources_13 : Dn mX4_sources 13 (.invokevirtual 39) 3 16 := ⟨by decide +kernel, rfl⟩
theorem eX4_sources_16 : Dn mX4_sources 16 (.ireturn) 1 17 := ⟨by decide +kernel, rfl⟩
theorem eX4_sources_17 : Dn mX4_sources 17 (.aload_n 0) 1 18 := ⟨by decide +kernel, rfl⟩
theorem eX4_sources_18 : Dn mX4_sources 18 (.iload_n 2) 1 19 := ⟨by decide +kernel, rfl⟩
theorem eX4_sources_19 : Dn mX4_sources 19 (.iconst 2) 1 20 := ⟨by decide +kernel, rfl⟩
theorem eX4_sources_20 : Dn mX4_sources 20 (.invokevirtual 71) 3 23 := ⟨by decide +kernel, rfl⟩
theorem eX4_sources_23 : Dn mX4_sources 23 (.istore 4) 2 25 := ⟨by decide +kernel, rfl⟩
theorem eX4_sources_25 : Dn mX4_sources 25 (.iconst 0) 1 26 := ⟨by decide +kernel, rfl⟩
theorem eX4_sources_26 : Dn mX4_sources 26 (.istore 5) 2 28 := ⟨by decide +kernel, rfl⟩
theorem eX4_sources_28 : Dn mX4_sources 28 (.iconst 0) 1 29 := ⟨by decide +kernel, rfl⟩
theorem eX4_sources_29 : Dn mX4_sources 29 (.istore 6) 2 31 := ⟨by decide +kernel, rfl⟩
theorem eX4_sources_31 : Dn mX4_sources 31 (.iload 6) 2 33 := ⟨by decide +kernel, rfl⟩
theorem eX4_sources_33 : Dn mX4_sources 33 (.aload_n 0) 1 34 := ⟨by decide +kernel, rfl⟩
theorem eX4_sources_34 : Dn mX4_sources 34 (.getfield 7) 3 37 := ⟨by decide +kernel, rfl⟩
theorem eX4_sources_37 : Dn mX4_sources 37 (.iconst 0) 1 38 := ⟨by decide +kernel, rfl⟩
theorem eX4_sources_38 : Dn mX4_sources 38 (.iaload) 1 39 := ⟨by decide +kernel, rfl⟩
theorem eX4_sources_39 : Dj mX4_sources 39 (.if_icmp .ge 49) (49) 42 88 := ⟨by decide +kernel, rfl, rfl⟩
theorem eX4_sources_42 : Dn mX4_sources 42 (.iload 6) 2 44 := ⟨by decide +kernel, rfl⟩
theorem eX4_sources_44 : Dn mX4_sources 44 (.iload_n 2) 1 45 := ⟨by decide +kernel, rfl⟩
theorem eX4_sources_45 : Dj mX4_sources 45 (.if_icmp .eq 37) (37) 48 82 := ⟨by decide +kernel, rfl, rfl⟩
theorem eX4_sources_48 : Dn mX4_sources 48 (.aload_n 0) 1 49 := ⟨by decide +kernel, rfl⟩
theorem eX4_sources_49 : Dn mX4_sources 49 (.getfield 7) 3 52 := ⟨by decide +kernel, rfl⟩
theorem eX4_sources_52 : Dn mX4_sources 52 (.iload_n 2) 1 53 := ⟨by decide +kernel, rfl⟩
theorem eX4_sources_53 : Dn mX4_sources 53 (.iconst 2) 1 54 := ⟨by decide +kernel, rfl⟩
theorem eX4_sources_54 : Dn mX4_sources 54 (.invokestatic 59) 3 57 := ⟨by decide +kernel, rfl⟩
theorem eX4_sources_57 : Dn mX4_sources 57 (.iload 6) 2 59 := ⟨by decide +kernel, rfl⟩
theorem eX4_sources_59 : Dn mX4_sources 59 (.iastore) 1 60 := ⟨by decide +kernel, rfl⟩
theorem eX4_sources_60 : Dn mX4_sources 60 (.iload 5) 2 62 := ⟨by decide +kernel, rfl⟩
theorem eX4_sources_62 : Dn mX4_sources 62 (.aload_n 0) 1 63 := ⟨by decide +kernel, rfl⟩
theorem eX4_sources_63 : Dn mX4_sources 63 (.iload_n 1) 1 64 := ⟨by decide +kernel, rfl⟩
theorem eX4_sources_64 : Dn mX4_sources 64 (.iload_n 2) 1 65 := ⟨by decide +kernel, rfl⟩
theorem eX4_sources_65 : Dn mX4_sources 65 (.invokevirtual 181) 3 68 := ⟨by decide +kernel, rfl⟩
theorem eX4_sources_68 : Dj mX4_sources 68 (.ifCond .eq 10) (10) 71 78 := ⟨by decide +kernel, rfl, rfl⟩
theorem eX4_sources_71 : Dn mX4_sources 71 (.iconst 1) 1 72 := ⟨by decide +kernel, rfl⟩
theorem eX4_sources_72 : Dn mX4_sources 72 (.iload 6) 2 74 := ⟨by decide +kernel, rfl⟩
theorem eX4_sources_74 : Dn mX4_sources 74 (.ishl) 1 75 := ⟨by decide +kernel, rfl⟩
theorem eX4_sources_75 : Dj mX4_sources 75 (.goto 4) (4) 78 79 := ⟨by decide +kernel, rfl, rfl⟩
theorem eX4_sources_78 : Dn mX4_sources 78 (.iconst 0) 1 79 := ⟨by decide +kernel, rfl⟩
theorem eX4_sources_79 : Dn mX4_sources 79 (.ior) 1 80 := ⟨by decide +kernel, rfl⟩
theorem eX4_sources_80 : Dn mX4_sources 80 (.istore 5) 2 82 := ⟨by decide +kernel, rfl⟩
theorem eX4_sources_82 : Dn mX4_sources 82 (.iinc 6 1) 3 85 := ⟨by decide +kernel, rfl⟩
theorem eX4_sources_85 : Dj mX4_sources 85 (.goto (-54)) (-54) 88 31 := ⟨by decide +kernel, rfl, rfl⟩
theorem eX4_sources_88 : Dn mX4_sources 88 (.aload_n 0) 1 89 := ⟨by decide +kernel, rfl⟩
theorem eX4_sources_89 : Dn mX4_sources 89 (.getfield 7) 3 92 := ⟨by decide +kernel, rfl⟩
theorem eX4_sources_92 : Dn mX4_sources 92 (.iload_n 2) 1 93 := ⟨by decide +kernel, rfl⟩
theorem eX4_sources_93 : Dn mX4_sources 93 (.iconst 2) 1 94 := ⟨by decide +kernel, rfl⟩
theorem eX4_sources_94 : Dn mX4_sources 94 (.invokestatic 59) 3 97 := ⟨by decide +kernel, rfl⟩
theorem eX4_sources_97 : Dn mX4_sources 97 (.iload 4) 2 99 := ⟨by decide +kernel, rfl⟩
theorem eX4_sources_99 : Dn mX4_sources 99 (.iastore) 1 100 := ⟨by decide +kernel, rfl⟩
theorem eX4_sources_100 : Dn mX4_sources 100 (.iload 5) 2 102 := ⟨by decide +kernel, rfl⟩
theorem eX4_sources_102 : Dn mX4_sources 102 (.ireturn) 1 103 := ⟨by decide +kernel, rfl⟩
theorem eX4_findsFits_0 : Dn mX4_findsFits 0 (.aload_n 0) 1 1 := ⟨by decide +kernel, rfl⟩
theorem eX4_findsFits_1 : Dn mX4_findsFits 1 (.iload_n 2) 1 2 := ⟨by decide +kernel, rfl⟩
theorem eX4_findsFits_2 : Dn mX4_findsFits 2 (.iconst 1) 1 3 := ⟨by decide +kernel, rfl⟩
theorem eX4_findsFits_3 : Dn mX4_findsFits 3 (.invokevirtual 71) 3 6 := ⟨by decide +kernel, rfl⟩
theorem eX4_findsFits_6 : Dn mX4_findsFits 6 (.istore_n 3) 1 7 := ⟨by decide +kernel, rfl⟩
theorem eX4_findsFits_7 : Dn mX4_findsFits 7 (.aload_n 0) 1 8 := ⟨by decide +kernel, rfl⟩
theorem eX4_findsFits_8 : Dn mX4_findsFits 8 (.iconst 0) 1 9 := ⟨by decide +kernel, rfl⟩
theorem eX4_findsFits_9 : Dn mX4_findsFits 9 (.putfield 184) 3 12 := ⟨by decide +kernel, rfl⟩
theorem eX4_findsFits_12 : Dn mX4_findsFits 12 (.sipush 255) 3 15 := ⟨by decide +kernel, rfl⟩
theorem eX4_findsFits_15 : Dn mX4_findsFits 15 (.istore 4) 2 17 := ⟨by decide +kernel, rfl⟩
theorem eX4_findsFits_17 : Dn mX4_findsFits 17 (.iload 4) 2 19 := ⟨by decide +kernel, rfl⟩
theorem eX4_findsFits_19 : Dj mX4_findsFits 19 (.ifCond .lt 46) (46) 22 65 := ⟨by decide +kernel, rfl, rfl⟩
theorem eX4_findsFits_22 : Dn mX4_findsFits 22 (.aload_n 0) 1 23 := ⟨by decide +kernel, rfl⟩
theorem eX4_findsFits_23 : Dn mX4_findsFits 23 (.getfield 7) 3 26 := ⟨by decide +kernel, rfl⟩
theorem eX4_findsFits_26 : Dn mX4_findsFits 26 (.iload_n 2) 1 27 := ⟨by decide +kernel, rfl⟩
theorem eX4_findsFits_27 : Dn mX4_findsFits 27 (.iconst 1) 1 28 := ⟨by decide +kernel, rfl⟩
theorem eX4_findsFits_28 : Dn mX4_findsFits 28 (.invokestatic 59) 3 31 := ⟨by decide +kernel, rfl⟩
theorem eX4_findsFits_31 : Dn mX4_findsFits 31 (.iload 4) 2 33 := ⟨by decide +kernel, rfl⟩
theorem eX4_findsFits_33 : Dn mX4_findsFits 33 (.iastore) 1 34 := ⟨by decide +kernel, rfl⟩
theorem eX4_findsFits_34 : Dn mX4_findsFits 34 (.aload_n 0) 1 35 := ⟨by decide +kernel, rfl⟩
theorem eX4_findsFits_35 : Dn mX4_findsFits 35 (.iload_n 1) 1 36 := ⟨by decide +kernel, rfl⟩
theorem eX4_findsFits_36 : Dn mX4_findsFits 36 (.iload_n 2) 1 37 := ⟨by decide +kernel, rfl⟩
theorem eX4_findsFits_37 : Dn mX4_findsFits 37 (.invokevirtual 181) 3 40 := ⟨by decide +kernel, rfl⟩
theorem eX4_findsFits_40 : Dj mX4_findsFits 40 (.ifCond .eq 19) (19) 43 59 := ⟨by decide +kernel, rfl, rfl⟩
theorem eX4_findsFits_43 : Dn mX4_findsFits 43 (.aload_n 0) 1 44 := ⟨by decide +kernel, rfl⟩
theorem eX4_findsFits_44 : Dn mX4_findsFits 44 (.dup) 1 45 := ⟨by decide +kernel, rfl⟩
theorem eX4_findsFits_45 : Dn mX4_findsFits 45 (.getfield 184) 3 48 := ⟨by decide +kernel, rfl⟩
theorem eX4_findsFits_48 : Dn mX4_findsFits 48 (.iconst 1) 1 49 := ⟨by decide +kernel, rfl⟩
theorem eX4_findsFits_49 : Dn mX4_findsFits 49 (.iadd) 1 50 := ⟨by decide +kernel, rfl⟩
theorem eX4_findsFits_50 : Dn mX4_findsFits 50 (.putfield 184) 3 53 := ⟨by decide +kernel, rfl⟩
theorem eX4_findsFits_53 : Dn mX4_findsFits 53 (.aload_n 0) 1 54 := ⟨by decide +kernel, rfl⟩
theorem eX4_findsFits_54 : Dn mX4_findsFits 54 (.iload 4) 2 56 := ⟨by decide +kernel, rfl⟩
theorem eX4_findsFits_56 : Dn mX4_findsFits 56 (.putfield 188) 3 59 := ⟨by decide +kernel, rfl⟩
theorem eX4_findsFits_59 : Dn mX4_findsFits 59 (.iinc 4 (-1)) 3 62 := ⟨by decide +kernel, rfl⟩
theorem eX4_findsFits_62 : Dj mX4_findsFits 62 (.goto (-45)) (-45) 65 17 := ⟨by decide +kernel, rfl, rfl⟩
theorem eX4_findsFits_65 : Dn mX4_findsFits 65 (.aload_n 0) 1 66 := ⟨by decide +kernel, rfl⟩
theorem eX4_findsFits_66 : Dn mX4_findsFits 66 (.getfield 7) 3 69 := ⟨by decide +kernel, rfl⟩
theorem eX4_findsFits_69 : Dn mX4_findsFits 69 (.iload_n 2) 1 70 := ⟨by decide +kernel, rfl⟩
theorem eX4_findsFits_70 : Dn mX4_findsFits 70 (.iconst 1) 1 71 := ⟨by decide +kernel, rfl⟩
theorem eX4_findsFits_71 : Dn mX4_findsFits 71 (.invokestatic 59) 3 74 := ⟨by decide +kernel, rfl⟩
theorem eX4_findsFits_74 : Dn mX4_findsFits 74 (.iload_n 3) 1 75 := ⟨by decide +kernel, rfl⟩
theorem eX4_findsFits_75 : Dn mX4_findsFits 75 (.iastore) 1 76 := ⟨by decide +kernel, rfl⟩
theorem eX4_findsFits_76 : Dn mX4_findsFits 76 (.return_) 1 77 := ⟨by decide +kernel, rfl⟩
theorem eX4_fits_0 : Dn mX4_fits 0 (.aload_n 0) 1 1 := ⟨by decide +kernel, rfl⟩
theorem eX4_fits_1 : Dn mX4_fits 1 (.iload_n 1) 1 2 := ⟨by decide +kernel, rfl⟩
theorem eX4_fits_2 : Dn mX4_fits 2 (.iload_n 2) 1 3 := ⟨by decide +kernel, rfl⟩
theorem eX4_fits_3 : Dn mX4_fits 3 (.invokevirtual 178) 3 6 := ⟨by decide +kernel, rfl⟩
theorem eX4_fits_6 : Dn mX4_fits 6 (.istore_n 3) 1 7 := ⟨by decide +kernel, rfl⟩
theorem eX4_fits_7 : Dn mX4_fits 7 (.iload_n 3) 1 8 := ⟨by decide +kernel, rfl⟩
theorem eX4_fits_8 : Dj mX4_fits 8 (.ifCond .eq 9) (9) 11 17 := ⟨by decide +kernel, rfl, rfl⟩
theorem eX4_fits_11 : Dn mX4_fits 11 (.aload_n 0) 1 12 := ⟨by decide +kernel, rfl⟩
theorem eX4_fits_12 : Dn mX4_fits 12 (.iload_n 3) 1 13 := ⟨by decide +kernel, rfl⟩
theorem eX4_fits_13 : Dn mX4_fits 13 (.invokevirtual 39) 3 16 := ⟨by decide +kernel, rfl⟩
theorem eX4_fits_16 : Dn mX4_fits 16 (.ireturn) 1 17 := ⟨by decide +kernel, rfl⟩
theorem eX4_fits_17 : Dn mX4_fits 17 (.aload_n 0) 1 18 := ⟨by decide +kernel, rfl⟩
theorem eX4_fits_18 : Dn mX4_fits 18 (.iload_n 1) 1 19 := ⟨by decide +kernel, rfl⟩
theorem eX4_fits_19 : Dn mX4_fits 19 (.iload_n 2) 1 20 := ⟨by decide +kernel, rfl⟩
theorem eX4_fits_20 : Dn mX4_fits 20 (.invokevirtual 191) 3 23 := ⟨by decide +kernel, rfl⟩
theorem eX4_fits_23 : Dn mX4_fits 23 (.aload_n 0) 1 24 := ⟨by decide +kernel, rfl⟩
theorem eX4_fits_24 : Dn mX4_fits 24 (.getfield 184) 3 27 := ⟨by decide +kernel, rfl⟩
theorem eX4_fits_27 : Dn mX4_fits 27 (.ireturn) 1 28 := ⟨by decide +kernel, rfl⟩
theorem eX4_knew_0 : Dn mX4_knew 0 (.aload_n 0) 1 1 := ⟨by decide +kernel, rfl⟩
theorem eX4_knew_1 : Dn mX4_knew 1 (.iload_n 1) 1 2 := ⟨by decide +kernel, rfl⟩
theorem eX4_knew_2 : Dn mX4_knew 2 (.iload_n 2) 1 3 := ⟨by decide +kernel, rfl⟩
theorem eX4_knew_3 : Dn mX4_knew 3 (.invokevirtual 178) 3 6 := ⟨by decide +kernel, rfl⟩
theorem eX4_knew_6 : Dn mX4_knew 6 (.istore_n 3) 1 7 := ⟨by decide +kernel, rfl⟩
theorem eX4_knew_7 : Dn mX4_knew 7 (.iload_n 3) 1 8 := ⟨by decide +kernel, rfl⟩
theorem eX4_knew_8 : Dj mX4_knew 8 (.ifCond .eq 9) (9) 11 17 := ⟨by decide +kernel, rfl, rfl⟩
theorem eX4_knew_11 : Dn mX4_knew 11 (.aload_n 0) 1 12 := ⟨by decide +kernel, rfl⟩
theorem eX4_knew_12 : Dn mX4_knew 12 (.iload_n 3) 1 13 := ⟨by decide +kernel, rfl⟩
theorem eX4_knew_13 : Dn mX4_knew 13 (.invokevirtual 39) 3 16 := ⟨by decide +kernel, rfl⟩
theorem eX4_knew_16 : Dn mX4_knew 16 (.ireturn) 1 17 := ⟨by decide +kernel, rfl⟩
theorem eX4_knew_17 : Dn mX4_knew 17 (.aload_n 0) 1 18 := ⟨by decide +kernel, rfl⟩
theorem eX4_knew_18 : Dn mX4_knew 18 (.iload_n 1) 1 19 := ⟨by decide +kernel, rfl⟩
theorem eX4_knew_19 : Dn mX4_knew 19 (.iload_n 2) 1 20 := ⟨by decide +kernel, rfl⟩
theorem eX4_knew_20 : Dn mX4_knew 20 (.invokevirtual 191) 3 23 := ⟨by decide +kernel, rfl⟩
theorem eX4_knew_23 : Dn mX4_knew 23 (.aload_n 0) 1 24 := ⟨by decide +kernel, rfl⟩
theorem eX4_knew_24 : Dn mX4_knew 24 (.getfield 184) 3 27 := ⟨by decide +kernel, rfl⟩
theorem eX4_knew_27 : Dj mX4_knew 27 (.ifCond .le 10) (10) 30 37 := ⟨by decide +kernel, rfl, rfl⟩
theorem eX4_knew_30 : Dn mX4_knew 30 (.aload_n 0) 1 31 := ⟨by decide +kernel, rfl⟩
theorem eX4_knew_31 : Dn mX4_knew 31 (.getfield 188) 3 34 := ⟨by decide +kernel, rfl⟩
theorem eX4_knew_34 : Dj mX4_knew 34 (.goto 9) (9) 37 43 := ⟨by decide +kernel, rfl, rfl⟩
theorem eX4_knew_37 : Dn mX4_knew 37 (.aload_n 0) 1 38 := ⟨by decide +kernel, rfl⟩
theorem eX4_knew_38 : Dn mX4_knew 38 (.ldc 38) 2 40 := ⟨by decide +kernel, rfl⟩
theorem eX4_knew_40 : Dn mX4_knew 40 (.invokevirtual 39) 3 43 := ⟨by decide +kernel, rfl⟩
theorem eX4_knew_43 : Dn mX4_knew 43 (.ireturn) 1 44 := ⟨by decide +kernel, rfl⟩
theorem eX4_kinds_0 : Dn mX4_kinds 0 (.aload_n 0) 1 1 := ⟨by decide +kernel, rfl⟩
theorem eX4_kinds_1 : Dn mX4_kinds 1 (.iload_n 1) 1 2 := ⟨by decide +kernel, rfl⟩
theorem eX4_kinds_2 : Dn mX4_kinds 2 (.iload_n 2) 1 3 := ⟨by decide +kernel, rfl⟩
theorem eX4_kinds_3 : Dn mX4_kinds 3 (.invokevirtual 178) 3 6 := ⟨by decide +kernel, rfl⟩
theorem eX4_kinds_6 : Dn mX4_kinds 6 (.istore_n 3) 1 7 := ⟨by decide +kernel, rfl⟩
theorem eX4_kinds_7 : Dn mX4_kinds 7 (.iload_n 3) 1 8 := ⟨by decide +kernel, rfl⟩
theorem eX4_kinds_8 : Dj mX4_kinds 8 (.ifCond .eq 9) (9) 11 17 := ⟨by decide +kernel, rfl, rfl⟩
theorem eX4_kinds_11 : Dn mX4_kinds 11 (.aload_n 0) 1 12 := ⟨by decide +kernel, rfl⟩
theorem eX4_kinds_12 : Dn mX4_kinds 12 (.iload_n 3) 1 13 := ⟨by decide +kernel, rfl⟩
theorem eX4_kinds_13 : Dn mX4_kinds 13 (.invokevirtual 39) 3 16 := ⟨by decide +kernel, rfl⟩
theorem eX4_kinds_16 : Dn mX4_kinds 16 (.ireturn) 1 17 := ⟨by decide +kernel, rfl⟩
theorem eX4_kinds_17 : Dn mX4_kinds 17 (.aload_n 0) 1 18 := ⟨by decide +kernel, rfl⟩
theorem eX4_kinds_18 : Dn mX4_kinds 18 (.iload_n 2) 1 19 := ⟨by decide +kernel, rfl⟩
theorem eX4_kinds_19 : Dn mX4_kinds 19 (.iconst 0) 1 20 := ⟨by decide +kernel, rfl⟩
theorem eX4_kinds_20 : Dn mX4_kinds 20 (.invokevirtual 71) 3 23 := ⟨by decide +kernel, rfl⟩
theorem eX4_kinds_23 : Dn mX4_kinds 23 (.istore 4) 2 25 := ⟨by decide +kernel, rfl⟩
theorem eX4_kinds_25 : Dn mX4_kinds 25 (.iconst 0) 1 26 := ⟨by decide +kernel, rfl⟩
theorem eX4_kinds_26 : Dn mX4_kinds 26 (.istore 5) 2 28 := ⟨by decide +kernel, rfl⟩
theorem eX4_kinds_28 : Dn mX4_kinds 28 (.iconst 0) 1 29 := ⟨by decide +kernel, rfl⟩
theorem eX4_kinds_29 : Dn mX4_kinds 29 (.istore 6) 2 31 := ⟨by decide +kernel, rfl⟩
theorem eX4_kinds_31 : Dn mX4_kinds 31 (.iload 6) 2 33 := ⟨by decide +kernel, rfl⟩
theorem eX4_kinds_33 : Dn mX4_kinds 33 (.bipush 6) 2 35 := ⟨by decide +kernel, rfl⟩
theorem eX4_kinds_35 : Dj mX4_kinds 35 (.if_icmp .gt 43) (43) 38 78 := ⟨by decide +kernel, rfl, rfl⟩
theorem eX4_kinds_38 : Dn mX4_kinds 38 (.aload_n 0) 1 39 := ⟨by decide +kernel, rfl⟩
theorem eX4_kinds_39 : Dn mX4_kinds 39 (.getfield 7) 3 42 := ⟨by decide +kernel, rfl⟩
theorem eX4_kinds_42 : Dn mX4_kinds 42 (.iload_n 2) 1 43 := ⟨by decide +kernel, rfl⟩
theorem eX4_kinds_43 : Dn mX4_kinds 43 (.iconst 0) 1 44 := ⟨by decide +kernel, rfl⟩
theorem eX4_kinds_44 : Dn mX4_kinds 44 (.invokestatic 59) 3 47 := ⟨by decide +kernel, rfl⟩
theorem eX4_kinds_47 : Dn mX4_kinds 47 (.iload 6) 2 49 := ⟨by decide +kernel, rfl⟩
theorem eX4_kinds_49 : Dn mX4_kinds 49 (.iastore) 1 50 := ⟨by decide +kernel, rfl⟩
theorem eX4_kinds_50 : Dn mX4_kinds 50 (.iload 5) 2 52 := ⟨by decide +kernel, rfl⟩
theorem eX4_kinds_52 : Dn mX4_kinds 52 (.aload_n 0) 1 53 := ⟨by decide +kernel, rfl⟩
theorem eX4_kinds_53 : Dn mX4_kinds 53 (.iload_n 1) 1 54 := ⟨by decide +kernel, rfl⟩
theorem eX4_kinds_54 : Dn mX4_kinds 54 (.iload_n 2) 1 55 := ⟨by decide +kernel, rfl⟩
theorem eX4_kinds_55 : Dn mX4_kinds 55 (.invokevirtual 181) 3 58 := ⟨by decide +kernel, rfl⟩
theorem eX4_kinds_58 : Dj mX4_kinds 58 (.ifCond .eq 10) (10) 61 68 := ⟨by decide +kernel, rfl, rfl⟩
theorem eX4_kinds_61 : Dn mX4_kinds 61 (.iconst 1) 1 62 := ⟨by decide +kernel, rfl⟩
theorem eX4_kinds_62 : Dn mX4_kinds 62 (.iload 6) 2 64 := ⟨by decide +kernel, rfl⟩
theorem eX4_kinds_64 : Dn mX4_kinds 64 (.ishl) 1 65 := ⟨by decide +kernel, rfl⟩
theorem eX4_kinds_65 : Dj mX4_kinds 65 (.goto 4) (4) 68 69 := ⟨by decide +kernel, rfl, rfl⟩
theorem eX4_kinds_68 : Dn mX4_kinds 68 (.iconst 0) 1 69 := ⟨by decide +kernel, rfl⟩
theorem eX4_kinds_69 : Dn mX4_kinds 69 (.ior) 1 70 := ⟨by decide +kernel, rfl⟩
theorem eX4_kinds_70 : Dn mX4_kinds 70 (.istore 5) 2 72 := ⟨by decide +kernel, rfl⟩
theorem eX4_kinds_72 : Dn mX4_kinds 72 (.iinc 6 1) 3 75 := ⟨by decide +kernel, rfl⟩
theorem eX4_kinds_75 : Dj mX4_kinds 75 (.goto (-44)) (-44) 78 31 := ⟨by decide +kernel, rfl, rfl⟩
theorem eX4_kinds_78 : Dn mX4_kinds 78 (.aload_n 0) 1 79 := ⟨by decide +kernel, rfl⟩
theorem eX4_kinds_79 : Dn mX4_kinds 79 (.getfield 7) 3 82 := ⟨by decide +kernel, rfl⟩
theorem eX4_kinds_82 : Dn mX4_kinds 82 (.iload_n 2) 1 83 := ⟨by decide +kernel, rfl⟩
theorem eX4_kinds_83 : Dn mX4_kinds 83 (.iconst 0) 1 84 := ⟨by decide +kernel, rfl⟩
theorem eX4_kinds_84 : Dn mX4_kinds 84 (.invokestatic 59) 3 87 := ⟨by decide +kernel, rfl⟩
theorem eX4_kinds_87 : Dn mX4_kinds 87 (.iload 4) 2 89 := ⟨by decide +kernel, rfl⟩
theorem eX4_kinds_89 : Dn mX4_kinds 89 (.iastore) 1 90 := ⟨by decide +kernel, rfl⟩
theorem eX4_kinds_90 : Dn mX4_kinds 90 (.iload 5) 2 92 := ⟨by decide +kernel, rfl⟩
theorem eX4_kinds_92 : Dn mX4_kinds 92 (.ireturn) 1 93 := ⟨by decide +kernel, rfl⟩
theorem eX4_draw_0 : Dn mX4_draw 0 (.aload_n 0) 1 1 := ⟨by decide +kernel, rfl⟩
theorem eX4_draw_1 : Dn mX4_draw 1 (.getfield 7) 3 4 := ⟨by decide +kernel, rfl⟩
theorem eX4_draw_4 : Dn mX4_draw 4 (.iconst 2) 1 5 := ⟨by decide +kernel, rfl⟩
theorem eX4_draw_5 : Dn mX4_draw 5 (.aload_n 0) 1 6 := ⟨by decide +kernel, rfl⟩
theorem eX4_draw_6 : Dn mX4_draw 6 (.getfield 7) 3 9 := ⟨by decide +kernel, rfl⟩
theorem eX4_draw_9 : Dn mX4_draw 9 (.iconst 2) 1 10 := ⟨by decide +kernel, rfl⟩
theorem eX4_draw_10 : Dn mX4_draw 10 (.iaload) 1 11 := ⟨by decide +kernel, rfl⟩
theorem eX4_draw_11 : Dn mX4_draw 11 (.ldc 194) 2 13 := ⟨by decide +kernel, rfl⟩
theorem eX4_draw_13 : Dn mX4_draw 13 (.imul) 1 14 := ⟨by decide +kernel, rfl⟩
theorem eX4_draw_14 : Dn mX4_draw 14 (.sipush 12345) 3 17 := ⟨by decide +kernel, rfl⟩
theorem eX4_draw_17 : Dn mX4_draw 17 (.iadd) 1 18 := ⟨by decide +kernel, rfl⟩
theorem eX4_draw_18 : Dn mX4_draw 18 (.iastore) 1 19 := ⟨by decide +kernel, rfl⟩
theorem eX4_draw_19 : Dn mX4_draw 19 (.aload_n 0) 1 20 := ⟨by decide +kernel, rfl⟩
theorem eX4_draw_20 : Dn mX4_draw 20 (.getfield 7) 3 23 := ⟨by decide +kernel, rfl⟩
theorem eX4_draw_23 : Dn mX4_draw 23 (.iconst 2) 1 24 := ⟨by decide +kernel, rfl⟩
theorem eX4_draw_24 : Dn mX4_draw 24 (.iaload) 1 25 := ⟨by decide +kernel, rfl⟩
theorem eX4_draw_25 : Dn mX4_draw 25 (.bipush 8) 2 27 := ⟨by decide +kernel, rfl⟩
theorem eX4_draw_27 : Dn mX4_draw 27 (.iushr) 1 28 := ⟨by decide +kernel, rfl⟩
theorem eX4_draw_28 : Dn mX4_draw 28 (.ireturn) 1 29 := ⟨by decide +kernel, rfl⟩
theorem eX4_seats_0 : Dn mX4_seats 0 (.iload_n 1) 1 1 := ⟨by decide +kernel, rfl⟩
theorem eX4_seats_1 : Dn mX4_seats 1 (.i2l) 1 2 := ⟨by decide +kernel, rfl⟩
theorem eX4_seats_2 : Dn mX4_seats 2 (.lconst 1) 1 3 := ⟨by decide +kernel, rfl⟩
theorem eX4_seats_3 : Dn mX4_seats 3 (.ldc2_w 161) 3 6 := ⟨by decide +kernel, rfl⟩
theorem eX4_seats_6 : Dn mX4_seats 6 (.invokestatic 49) 3 9 := ⟨by decide +kernel, rfl⟩
theorem eX4_seats_9 : Dj mX4_seats 9 (.ifCond .ne 10) (10) 12 19 := ⟨by decide +kernel, rfl, rfl⟩
theorem eX4_seats_12 : Dn mX4_seats 12 (.aload_n 0) 1 13 := ⟨by decide +kernel, rfl⟩
theorem eX4_seats_13 : Dn mX4_seats 13 (.ldc 37) 2 15 := ⟨by decide +kernel, rfl⟩
theorem eX4_seats_15 : Dn mX4_seats 15 (.invokevirtual 39) 3 18 := ⟨by decide +kernel, rfl⟩
theorem eX4_seats_18 : Dn mX4_seats 18 (.ireturn) 1 19 := ⟨by decide +kernel, rfl⟩
theorem eX4_seats_19 : Dn mX4_seats 19 (.aload_n 0) 1 20 := ⟨by decide +kernel, rfl⟩
theorem eX4_seats_20 : Dn mX4_seats 20 (.getfield 7) 3 23 := ⟨by decide +kernel, rfl⟩
theorem eX4_seats_23 : Dn mX4_seats 23 (.iconst 1) 1 24 := ⟨by decide +kernel, rfl⟩
theorem eX4_seats_24 : Dn mX4_seats 24 (.iaload) 1 25 := ⟨by decide +kernel, rfl⟩
theorem eX4_seats_25 : Dn mX4_seats 25 (.iload_n 1) 1 26 := ⟨by decide +kernel, rfl⟩
theorem eX4_seats_26 : Dn mX4_seats 26 (.iadd) 1 27 := ⟨by decide +kernel, rfl⟩
theorem eX4_seats_27 : Dn mX4_seats 27 (.ldc 129) 2 29 := ⟨by decide +kernel, rfl⟩
theorem eX4_seats_29 : Dj mX4_seats 29 (.if_icmp .le 10) (10) 32 39 := ⟨by decide +kernel, rfl, rfl⟩
theorem eX4_seats_32 : Dn mX4_seats 32 (.aload_n 0) 1 33 := ⟨by decide +kernel, rfl⟩
theorem eX4_seats_33 : Dn mX4_seats 33 (.ldc 130) 2 35 := ⟨by decide +kernel, rfl⟩
theorem eX4_seats_35 : Dn mX4_seats 35 (.invokevirtual 39) 3 38 := ⟨by decide +kernel, rfl⟩
theorem eX4_seats_38 : Dn mX4_seats 38 (.ireturn) 1 39 := ⟨by decide +kernel, rfl⟩
theorem eX4_seats_39 : Dn mX4_seats 39 (.iconst 0) 1 40 := ⟨by decide +kernel, rfl⟩
theorem eX4_seats_40 : Dn mX4_seats 40 (.istore_n 2) 1 41 := ⟨by decide +kernel, rfl⟩
theorem eX4_seats_41 : Dn mX4_seats 41 (.iload_n 2) 1 42 := ⟨by decide +kernel, rfl⟩
theorem eX4_seats_42 : Dn mX4_seats 42 (.iload_n 1) 1 43 := ⟨by decide +kernel, rfl⟩
theorem eX4_seats_43 : Dj mX4_seats 43 (.if_icmp .ge 65) (65) 46 108 := ⟨by decide +kernel, rfl, rfl⟩
theorem eX4_seats_46 : Dn mX4_seats 46 (.aload_n 0) 1 47 := ⟨by decide +kernel, rfl⟩
theorem eX4_seats_47 : Dn mX4_seats 47 (.invokevirtual 195) 3 50 := ⟨by decide +kernel, rfl⟩
theorem eX4_seats_50 : Dn mX4_seats 50 (.bipush 8) 2 52 := ⟨by decide +kernel, rfl⟩
theorem eX4_seats_52 : Dn mX4_seats 52 (.irem) 1 53 := ⟨by decide +kernel, rfl⟩
theorem eX4_seats_53 : Dn mX4_seats 53 (.istore_n 3) 1 54 := ⟨by decide +kernel, rfl⟩
theorem eX4_seats_54 : Dn mX4_seats 54 (.aload_n 0) 1 55 := ⟨by decide +kernel, rfl⟩
theorem eX4_seats_55 : Dn mX4_seats 55 (.invokevirtual 195) 3 58 := ⟨by decide +kernel, rfl⟩
theorem eX4_seats_58 : Dn mX4_seats 58 (.bipush 8) 2 60 := ⟨by decide +kernel, rfl⟩
theorem eX4_seats_60 : Dn mX4_seats 60 (.irem) 1 61 := ⟨by decide +kernel, rfl⟩
theorem eX4_seats_61 : Dn mX4_seats 61 (.istore 4) 2 63 := ⟨by decide +kernel, rfl⟩
theorem eX4_seats_63 : Dn mX4_seats 63 (.aload_n 0) 1 64 := ⟨by decide +kernel, rfl⟩
theorem eX4_seats_64 : Dn mX4_seats 64 (.iload_n 3) 1 65 := ⟨by decide +kernel, rfl⟩
theorem eX4_seats_65 : Dn mX4_seats 65 (.invokevirtual 77) 3 68 := ⟨by decide +kernel, rfl⟩
theorem eX4_seats_68 : Dj mX4_seats 68 (.ifCond .eq 30) (30) 71 98 := ⟨by decide +kernel, rfl, rfl⟩
theorem eX4_seats_71 : Dn mX4_seats 71 (.aload_n 0) 1 72 := ⟨by decide +kernel, rfl⟩
theorem eX4_seats_72 : Dn mX4_seats 72 (.iload 4) 2 74 := ⟨by decide +kernel, rfl⟩
theorem eX4_seats_74 : Dn mX4_seats 74 (.invokevirtual 77) 3 77 := ⟨by decide +kernel, rfl⟩
theorem eX4_seats_77 : Dj mX4_seats 77 (.ifCond .eq 21) (21) 80 98 := ⟨by decide +kernel, rfl, rfl⟩
theorem eX4_seats_80 : Dn mX4_seats 80 (.iload_n 3) 1 81 := ⟨by decide +kernel, rfl⟩
theorem eX4_seats_81 : Dn mX4_seats 81 (.iload 4) 2 83 := ⟨by decide +kernel, rfl⟩
theorem eX4_seats_83 : Dj mX4_seats 83 (.if_icmp .eq 15) (15) 86 98 := ⟨by decide +kernel, rfl, rfl⟩
theorem eX4_seats_86 : Dn mX4_seats 86 (.aload_n 0) 1 87 := ⟨by decide +kernel, rfl⟩
theorem eX4_seats_87 : Dn mX4_seats 87 (.getfield 7) 3 90 := ⟨by decide +kernel, rfl⟩
theorem eX4_seats_90 : Dn mX4_seats 90 (.iload_n 3) 1 91 := ⟨by decide +kernel, rfl⟩
theorem eX4_seats_91 : Dn mX4_seats 91 (.iconst 2) 1 92 := ⟨by decide +kernel, rfl⟩
theorem eX4_seats_92 : Dn mX4_seats 92 (.invokestatic 59) 3 95 := ⟨by decide +kernel, rfl⟩
theorem eX4_seats_95 : Dn mX4_seats 95 (.iload 4) 2 97 := ⟨by decide +kernel, rfl⟩
theorem eX4_seats_97 : Dn mX4_seats 97 (.iastore) 1 98 := ⟨by decide +kernel, rfl⟩
theorem eX4_seats_98 : Dn mX4_seats 98 (.aload_n 0) 1 99 := ⟨by decide +kernel, rfl⟩
theorem eX4_seats_99 : Dn mX4_seats 99 (.invokevirtual 124) 3 102 := ⟨by decide +kernel, rfl⟩
theorem eX4_seats_102 : Dn mX4_seats 102 (.iinc 2 1) 3 105 := ⟨by decide +kernel, rfl⟩
theorem eX4_seats_105 : Dj mX4_seats 105 (.goto (-64)) (-64) 108 41 := ⟨by decide +kernel, rfl, rfl⟩
theorem eX4_seats_108 : Dn mX4_seats 108 (.aload_n 0) 1 109 := ⟨by decide +kernel, rfl⟩
theorem eX4_seats_109 : Dn mX4_seats 109 (.iconst 3) 1 110 := ⟨by decide +kernel, rfl⟩
theorem eX4_seats_110 : Dn mX4_seats 110 (.invokevirtual 134) 3 113 := ⟨by decide +kernel, rfl⟩
theorem eX4_seats_113 : Dn mX4_seats 113 (.ireturn) 1 114 := ⟨by decide +kernel, rfl⟩
theorem eX4_odds_0 : Dn mX4_odds 0 (.aload_n 0) 1 1 := ⟨by decide +kernel, rfl⟩
theorem eX4_odds_1 : Dn mX4_odds 1 (.iload_n 1) 1 2 := ⟨by decide +kernel, rfl⟩
theorem eX4_odds_2 : Dn mX4_odds 2 (.invokevirtual 77) 3 5 := ⟨by decide +kernel, rfl⟩
theorem eX4_odds_5 : Dj mX4_odds 5 (.ifCond .eq 25) (25) 8 30 := ⟨by decide +kernel, rfl, rfl⟩
theorem eX4_odds_8 : Dn mX4_odds 8 (.iload_n 2) 1 9 := ⟨by decide +kernel, rfl⟩
theorem eX4_odds_9 : Dn mX4_odds 9 (.i2l) 1 10 := ⟨by decide +kernel, rfl⟩
theorem eX4_odds_10 : Dn mX4_odds 10 (.lconst 0) 1 11 := ⟨by decide +kernel, rfl⟩
theorem eX4_odds_11 : Dn mX4_odds 11 (.ldc2_w 161) 3 14 := ⟨by decide +kernel, rfl⟩
theorem eX4_odds_14 : Dn mX4_odds 14 (.invokestatic 49) 3 17 := ⟨by decide +kernel, rfl⟩
theorem eX4_odds_17 : Dj mX4_odds 17 (.ifCond .eq 13) (13) 20 30 := ⟨by decide +kernel, rfl, rfl⟩
theorem eX4_odds_20 : Dn mX4_odds 20 (.iload_n 3) 1 21 := ⟨by decide +kernel, rfl⟩
theorem eX4_odds_21 : Dn mX4_odds 21 (.i2l) 1 22 := ⟨by decide +kernel, rfl⟩
theorem eX4_odds_22 : Dn mX4_odds 22 (.lconst 0) 1 23 := ⟨by decide +kernel, rfl⟩
theorem eX4_odds_23 : Dn mX4_odds 23 (.lconst 1) 1 24 := ⟨by decide +kernel, rfl⟩
theorem eX4_odds_24 : Dn mX4_odds 24 (.invokestatic 49) 3 27 := ⟨by decide +kernel, rfl⟩
theorem eX4_odds_27 : Dj mX4_odds 27 (.ifCond .ne 11) (11) 30 38 := ⟨by decide +kernel, rfl, rfl⟩
theorem eX4_odds_30 : Dn mX4_odds 30 (.aload_n 0) 1 31 := ⟨by decide +kernel, rfl⟩
theorem eX4_odds_31 : Dn mX4_odds 31 (.ldc 37) 2 33 := ⟨by decide +kernel, rfl⟩
theorem eX4_odds_33 : Dn mX4_odds 33 (.invokevirtual 39) 3 36 := ⟨by decide +kernel, rfl⟩
theorem eX4_odds_36 : Dn mX4_odds 36 (.i2l) 1 37 := ⟨by decide +kernel, rfl⟩
theorem eX4_odds_37 : Dn mX4_odds 37 (.lreturn) 1 38 := ⟨by decide +kernel, rfl⟩
theorem eX4_odds_38 : Dn mX4_odds 38 (.lconst 1) 1 39 := ⟨by decide +kernel, rfl⟩
theorem eX4_odds_39 : Dn mX4_odds 39 (.lstore 4) 2 41 := ⟨by decide +kernel, rfl⟩
theorem eX4_odds_41 : Dn mX4_odds 41 (.lconst 1) 1 42 := ⟨by decide +kernel, rfl⟩
theorem eX4_odds_42 : Dn mX4_odds 42 (.lstore 6) 2 44 := ⟨by decide +kernel, rfl⟩
theorem eX4_odds_44 : Dn mX4_odds 44 (.aload_n 0) 1 45 := ⟨by decide +kernel, rfl⟩
theorem eX4_odds_45 : Dn mX4_odds 45 (.iload_n 1) 1 46 := ⟨by decide +kernel, rfl⟩
theorem eX4_odds_46 : Dn mX4_odds 46 (.iconst 1) 1 47 := ⟨by decide +kernel, rfl⟩
theorem eX4_odds_47 : Dn mX4_odds 47 (.invokevirtual 71) 3 50 := ⟨by decide +kernel, rfl⟩
theorem eX4_odds_50 : Dn mX4_odds 50 (.invokestatic 111) 3 53 := ⟨by decide +kernel, rfl⟩
theorem eX4_odds_53 : Dn mX4_odds 53 (.istore 8) 2 55 := ⟨by decide +kernel, rfl⟩
theorem eX4_odds_55 : Dn mX4_odds 55 (.iconst 0) 1 56 := ⟨by decide +kernel, rfl⟩
theorem eX4_odds_56 : Dn mX4_odds 56 (.istore 9) 2 58 := ⟨by decide +kernel, rfl⟩
theorem eX4_odds_58 : Dn mX4_odds 58 (.iload 9) 2 60 := ⟨by decide +kernel, rfl⟩
theorem eX4_odds_60 : Dn mX4_odds 60 (.iload_n 2) 1 61 := ⟨by decide +kernel, rfl⟩
theorem eX4_odds_61 : Dj mX4_odds 61 (.if_icmp .ge 25) (25) 64 86 := ⟨by decide +kernel, rfl, rfl⟩
theorem eX4_odds_64 : Dn mX4_odds 64 (.lload 4) 2 66 := ⟨by decide +kernel, rfl⟩
theorem eX4_odds_66 : Dn mX4_odds 66 (.iload 8) 2 68 := ⟨by decide +kernel, rfl⟩
theorem eX4_odds_68 : Dn mX4_odds 68 (.i2l) 1 69 := ⟨by decide +kernel, rfl⟩
theorem eX4_odds_69 : Dn mX4_odds 69 (.lmul) 1 70 := ⟨by decide +kernel, rfl⟩
theorem eX4_odds_70 : Dn mX4_odds 70 (.lstore 4) 2 72 := ⟨by decide +kernel, rfl⟩
theorem eX4_odds_72 : Dn mX4_odds 72 (.lload 6) 2 74 := ⟨by decide +kernel, rfl⟩
theorem eX4_odds_74 : Dn mX4_odds 74 (.ldc2_w 80) 3 77 := ⟨by decide +kernel, rfl⟩
theorem eX4_odds_77 : Dn mX4_odds 77 (.lmul) 1 78 := ⟨by decide +kernel, rfl⟩
theorem eX4_odds_78 : Dn mX4_odds 78 (.lstore 6) 2 80 := ⟨by decide +kernel, rfl⟩
theorem eX4_odds_80 : Dn mX4_odds 80 (.iinc 9 1) 3 83 := ⟨by decide +kernel, rfl⟩
theorem eX4_odds_83 : Dj mX4_odds 83 (.goto (-25)) (-25) 86 58 := ⟨by decide +kernel, rfl, rfl⟩
theorem eX4_odds_86 : Dn mX4_odds 86 (.lload 4) 2 88 := ⟨by decide +kernel, rfl⟩
theorem eX4_odds_88 : Dn mX4_odds 88 (.lconst 0) 1 89 := ⟨by decide +kernel, rfl⟩
theorem eX4_odds_89 : Dn mX4_odds 89 (.lcmp) 1 90 := ⟨by decide +kernel, rfl⟩
theorem eX4_odds_90 : Dj mX4_odds 90 (.ifCond .ne 7) (7) 93 97 := ⟨by decide +kernel, rfl, rfl⟩
theorem eX4_odds_93 : Dn mX4_odds 93 (.lconst 1) 1 94 := ⟨by decide +kernel, rfl⟩
theorem eX4_odds_94 : Dj mX4_odds 94 (.goto 5) (5) 97 99 := ⟨by decide +kernel, rfl, rfl⟩
theorem eX4_odds_97 : Dn mX4_odds 97 (.lload 6) 2 99 := ⟨by decide +kernel, rfl⟩
theorem eX4_odds_99 : Dn mX4_odds 99 (.lstore 6) 2 101 := ⟨by decide +kernel, rfl⟩
theorem eX4_odds_101 : Dn mX4_odds 101 (.lload 4) 2 103 := ⟨by decide +kernel, rfl⟩
theorem eX4_odds_103 : Dn mX4_odds 103 (.ldc2_w 198) 3 106 := ⟨by decide +kernel, rfl⟩
theorem eX4_odds_106 : Dn mX4_odds 106 (.lrem) 1 107 := ⟨by decide +kernel, rfl⟩
theorem eX4_odds_107 : Dn mX4_odds 107 (.lconst 0) 1 108 := ⟨by decide +kernel, rfl⟩
theorem eX4_odds_108 : Dn mX4_odds 108 (.lcmp) 1 109 := ⟨by decide +kernel, rfl⟩
theorem eX4_odds_109 : Dj mX4_odds 109 (.ifCond .ne 33) (33) 112 142 := ⟨by decide +kernel, rfl, rfl⟩
theorem eX4_odds_112 : Dn mX4_odds 112 (.lload 6) 2 114 := ⟨by decide +kernel, rfl⟩
theorem eX4_odds_114 : Dn mX4_odds 114 (.ldc2_w 198) 3 117 := ⟨by decide +kernel, rfl⟩
theorem eX4_odds_117 : Dn mX4_odds 117 (.lrem) 1 118 := ⟨by decide +kernel, rfl⟩
theorem eX4_odds_118 : Dn mX4_odds 118 (.lconst 0) 1 119 := ⟨by decide +kernel, rfl⟩
theorem eX4_odds_119 : Dn mX4_odds 119 (.lcmp) 1 120 := ⟨by decide +kernel, rfl⟩
theorem eX4_odds_120 : Dj mX4_odds 120 (.ifCond .ne 22) (22) 123 142 := ⟨by decide +kernel, rfl, rfl⟩
theorem eX4_odds_123 : Dn mX4_odds 123 (.lload 4) 2 125 := ⟨by decide +kernel, rfl⟩
theorem eX4_odds_125 : Dn mX4_odds 125 (.ldc2_w 198) 3 128 := ⟨by decide +kernel, rfl⟩
theorem eX4_odds_128 : Dn mX4_odds 128 (.ldiv) 1 129 := ⟨by decide +kernel, rfl⟩
theorem eX4_odds_129 : Dn mX4_odds 129 (.lstore 4) 2 131 := ⟨by decide +kernel, rfl⟩
theorem eX4_odds_131 : Dn mX4_odds 131 (.lload 6) 2 133 := ⟨by decide +kernel, rfl⟩
theorem eX4_odds_133 : Dn mX4_odds 133 (.ldc2_w 198) 3 136 := ⟨by decide +kernel, rfl⟩
theorem eX4_odds_136 : Dn mX4_odds 136 (.ldiv) 1 137 := ⟨by decide +kernel, rfl⟩
theorem eX4_odds_137 : Dn mX4_odds 137 (.lstore 6) 2 139 := ⟨by decide +kernel, rfl⟩
theorem eX4_odds_139 : Dj mX4_odds 139 (.goto (-38)) (-38) 142 101 := ⟨by decide +kernel, rfl, rfl⟩
theorem eX4_odds_142 : Dn mX4_odds 142 (.iload_n 3) 1 143 := ⟨by decide +kernel, rfl⟩
theorem eX4_odds_143 : Dj mX4_odds 143 (.ifCond .ne 8) (8) 146 151 := ⟨by decide +kernel, rfl, rfl⟩
theorem eX4_odds_146 : Dn mX4_odds 146 (.lload 4) 2 148 := ⟨by decide +kernel, rfl⟩
theorem eX4_odds_148 : Dj mX4_odds 148 (.goto 5) (5) 151 153 := ⟨by decide +kernel, rfl, rfl⟩
theorem eX4_odds_151 : Dn mX4_odds 151 (.lload 6) 2 153 := ⟨by decide +kernel, rfl⟩
theorem eX4_odds_153 : Dn mX4_odds 153 (.lreturn) 1 154 := ⟨by decide +kernel, rfl⟩
theorem eX4_seed_0 : Dn mX4_seed 0 (.aload_n 0) 1 1 := ⟨by decide +kernel, rfl⟩
theorem eX4_seed_1 : Dn mX4_seed 1 (.iconst 2) 1 2 := ⟨by decide +kernel, rfl⟩
theorem eX4_seed_2 : Dn mX4_seed 2 (.iload_n 1) 1 3 := ⟨by decide +kernel, rfl⟩
theorem eX4_seed_3 : Dn mX4_seed 3 (.invokevirtual 53) 3 6 := ⟨by decide +kernel, rfl⟩
theorem eX4_seed_6 : Dn mX4_seed 6 (.ireturn) 1 7 := ⟨by decide +kernel, rfl⟩
theorem eX4_feed_0 : Dn mX4_feed 0 (.iload_n 2) 1 1 := ⟨by decide +kernel, rfl⟩
theorem eX4_feed_1 : Dn mX4_feed 1 (.i2l) 1 2 := ⟨by decide +kernel, rfl⟩
theorem eX4_feed_2 : Dn mX4_feed 2 (.lconst 1) 1 3 := ⟨by decide +kernel, rfl⟩
theorem eX4_feed_3 : Dn mX4_feed 3 (.ldc2_w 200) 3 6 := ⟨by decide +kernel, rfl⟩
theorem eX4_feed_6 : Dn mX4_feed 6 (.invokestatic 49) 3 9 := ⟨by decide +kernel, rfl⟩
theorem eX4_feed_9 : Dj mX4_feed 9 (.ifCond .ne 10) (10) 12 19 := ⟨by decide +kernel, rfl, rfl⟩
theorem eX4_feed_12 : Dn mX4_feed 12 (.aload_n 0) 1 13 := ⟨by decide +kernel, rfl⟩
theorem eX4_feed_13 : Dn mX4_feed 13 (.ldc 37) 2 15 := ⟨by decide +kernel, rfl⟩
theorem eX4_feed_15 : Dn mX4_feed 15 (.invokevirtual 39) 3 18 := ⟨by decide +kernel, rfl⟩
theorem eX4_feed_18 : Dn mX4_feed 18 (.ireturn) 1 19 := ⟨by decide +kernel, rfl⟩
theorem eX4_feed_19 : Dn mX4_feed 19 (.aload_n 0) 1 20 := ⟨by decide +kernel, rfl⟩
theorem eX4_feed_20 : Dn mX4_feed 20 (.getfield 202) 3 23 := ⟨by decide +kernel, rfl⟩
theorem eX4_feed_23 : Dn mX4_feed 23 (.iload_n 2) 1 24 := ⟨by decide +kernel, rfl⟩
theorem eX4_feed_24 : Dn mX4_feed 24 (.iadd) 1 25 := ⟨by decide +kernel, rfl⟩
theorem eX4_feed_25 : Dn mX4_feed 25 (.bipush 120) 2 27 := ⟨by decide +kernel, rfl⟩
theorem eX4_feed_27 : Dj mX4_feed 27 (.if_icmp .le 10) (10) 30 37 := ⟨by decide +kernel, rfl, rfl⟩
theorem eX4_feed_30 : Dn mX4_feed 30 (.aload_n 0) 1 31 := ⟨by decide +kernel, rfl⟩
theorem eX4_feed_31 : Dn mX4_feed 31 (.ldc 66) 2 33 := ⟨by decide +kernel, rfl⟩
theorem eX4_feed_33 : Dn mX4_feed 33 (.invokevirtual 39) 3 36 := ⟨by decide +kernel, rfl⟩
theorem eX4_feed_36 : Dn mX4_feed 36 (.ireturn) 1 37 := ⟨by decide +kernel, rfl⟩
theorem eX4_feed_37 : Dn mX4_feed 37 (.iload_n 2) 1 38 := ⟨by decide +kernel, rfl⟩
theorem eX4_feed_38 : Dn mX4_feed 38 (.iconst 1) 1 39 := ⟨by decide +kernel, rfl⟩
theorem eX4_feed_39 : Dn mX4_feed 39 (.isub) 1 40 := ⟨by decide +kernel, rfl⟩
theorem eX4_feed_40 : Dn mX4_feed 40 (.istore_n 3) 1 41 := ⟨by decide +kernel, rfl⟩
theorem eX4_feed_41 : Dn mX4_feed 41 (.iload_n 3) 1 42 := ⟨by decide +kernel, rfl⟩
theorem eX4_feed_42 : Dj mX4_feed 42 (.ifCond .lt 38) (38) 45 80 := ⟨by decide +kernel, rfl, rfl⟩
theorem eX4_feed_45 : Dn mX4_feed 45 (.aload_n 0) 1 46 := ⟨by decide +kernel, rfl⟩
theorem eX4_feed_46 : Dn mX4_feed 46 (.getfield 25) 3 49 := ⟨by decide +kernel, rfl⟩
theorem eX4_feed_49 : Dn mX4_feed 49 (.aload_n 0) 1 50 := ⟨by decide +kernel, rfl⟩
theorem eX4_feed_50 : Dn mX4_feed 50 (.getfield 202) 3 53 := ⟨by decide +kernel, rfl⟩
theorem eX4_feed_53 : Dn mX4_feed 53 (.iload_n 1) 1 54 := ⟨by decide +kernel, rfl⟩
theorem eX4_feed_54 : Dn mX4_feed 54 (.bipush 8) 2 56 := ⟨by decide +kernel, rfl⟩
theorem eX4_feed_56 : Dn mX4_feed 56 (.iload_n 3) 1 57 := ⟨by decide +kernel, rfl⟩
theorem eX4_feed_57 : Dn mX4_feed 57 (.imul) 1 58 := ⟨by decide +kernel, rfl⟩
theorem eX4_feed_58 : Dn mX4_feed 58 (.ishr) 1 59 := ⟨by decide +kernel, rfl⟩
theorem eX4_feed_59 : Dn mX4_feed 59 (.sipush 255) 3 62 := ⟨by decide +kernel, rfl⟩
theorem eX4_feed_62 : Dn mX4_feed 62 (.iand) 1 63 := ⟨by decide +kernel, rfl⟩
theorem eX4_feed_63 : Dn mX4_feed 63 (.iastore) 1 64 := ⟨by decide +kernel, rfl⟩
theorem eX4_feed_64 : Dn mX4_feed 64 (.aload_n 0) 1 65 := ⟨by decide +kernel, rfl⟩
theorem eX4_feed_65 : Dn mX4_feed 65 (.dup) 1 66 := ⟨by decide +kernel, rfl⟩
theorem eX4_feed_66 : Dn mX4_feed 66 (.getfield 202) 3 69 := ⟨by decide +kernel, rfl⟩
theorem eX4_feed_69 : Dn mX4_feed 69 (.iconst 1) 1 70 := ⟨by decide +kernel, rfl⟩
theorem eX4_feed_70 : Dn mX4_feed 70 (.iadd) 1 71 := ⟨by decide +kernel, rfl⟩
theorem eX4_feed_71 : Dn mX4_feed 71 (.putfield 202) 3 74 := ⟨by decide +kernel, rfl⟩
theorem eX4_feed_74 : Dn mX4_feed 74 (.iinc 3 (-1)) 3 77 := ⟨by decide +kernel, rfl⟩
theorem eX4_feed_77 : Dj mX4_feed 77 (.goto (-36)) (-36) 80 41 := ⟨by decide +kernel, rfl, rfl⟩
theorem eX4_feed_80 : Dn mX4_feed 80 (.aload_n 0) 1 81 := ⟨by decide +kernel, rfl⟩
theorem eX4_feed_81 : Dn mX4_feed 81 (.getfield 202) 3 84 := ⟨by decide +kernel, rfl⟩
theorem eX4_feed_84 : Dn mX4_feed 84 (.ireturn) 1 85 := ⟨by decide +kernel, rfl⟩
theorem eX4_wipe_0 : Dn mX4_wipe 0 (.aload_n 0) 1 1 := ⟨by decide +kernel, rfl⟩
theorem eX4_wipe_1 : Dn mX4_wipe 1 (.getfield 202) 3 4 := ⟨by decide +kernel, rfl⟩
theorem eX4_wipe_4 : Dn mX4_wipe 4 (.istore_n 1) 1 5 := ⟨by decide +kernel, rfl⟩
theorem eX4_wipe_5 : Dn mX4_wipe 5 (.aload_n 0) 1 6 := ⟨by decide +kernel, rfl⟩
theorem eX4_wipe_6 : Dn mX4_wipe 6 (.iconst 0) 1 7 := ⟨by decide +kernel, rfl⟩
theorem eX4_wipe_7 : Dn mX4_wipe 7 (.putfield 202) 3 10 := ⟨by decide +kernel, rfl⟩
theorem eX4_wipe_10 : Dn mX4_wipe 10 (.iload_n 1) 1 11 := ⟨by decide +kernel, rfl⟩
theorem eX4_wipe_11 : Dn mX4_wipe 11 (.ireturn) 1 12 := ⟨by decide +kernel, rfl⟩
theorem eX4_isLetter_0 : Dn mX4_isLetter 0 (.iload_n 0) 1 1 := ⟨by decide +kernel, rfl⟩
theorem eX4_isLetter_1 : Dn mX4_isLetter 1 (.bipush 97) 2 3 := ⟨by decide +kernel, rfl⟩
theorem eX4_isLetter_3 : Dj mX4_isLetter 3 (.if_icmp .lt 13) (13) 6 16 := ⟨by decide +kernel, rfl, rfl⟩
theorem eX4_isLetter_6 : Dn mX4_isLetter 6 (.iload_n 0) 1 7 := ⟨by decide +kernel, rfl⟩
theorem eX4_isLetter_7 : Dn mX4_isLetter 7 (.bipush 122) 2 9 := ⟨by decide +kernel, rfl⟩
theorem eX4_isLetter_9 : Dj mX4_isLetter 9 (.if_icmp .gt 7) (7) 12 16 := ⟨by decide +kernel, rfl, rfl⟩
theorem eX4_isLetter_12 : Dn mX4_isLetter 12 (.iconst 1) 1 13 := ⟨by decide +kernel, rfl⟩
theorem eX4_isLetter_13 : Dj mX4_isLetter 13 (.goto 4) (4) 16 17 := ⟨by decide +kernel, rfl, rfl⟩
theorem eX4_isLetter_16 : Dn mX4_isLetter 16 (.iconst 0) 1 17 := ⟨by decide +kernel, rfl⟩
theorem eX4_isLetter_17 : Dn mX4_isLetter 17 (.ireturn) 1 18 := ⟨by decide +kernel, rfl⟩
theorem eX4_isDigit_0 : Dn mX4_isDigit 0 (.iload_n 0) 1 1 := ⟨by decide +kernel, rfl⟩
theorem eX4_isDigit_1 : Dn mX4_isDigit 1 (.bipush 48) 2 3 := ⟨by decide +kernel, rfl⟩
theorem eX4_isDigit_3 : Dj mX4_isDigit 3 (.if_icmp .lt 13) (13) 6 16 := ⟨by decide +kernel, rfl, rfl⟩
theorem eX4_isDigit_6 : Dn mX4_isDigit 6 (.iload_n 0) 1 7 := ⟨by decide +kernel, rfl⟩
theorem eX4_isDigit_7 : Dn mX4_isDigit 7 (.bipush 57) 2 9 := ⟨by decide +kernel, rfl⟩
theorem eX4_isDigit_9 : Dj mX4_isDigit 9 (.if_icmp .gt 7) (7) 12 16 := ⟨by decide +kernel, rfl, rfl⟩
theorem eX4_isDigit_12 : Dn mX4_isDigit 12 (.iconst 1) 1 13 := ⟨by decide +kernel, rfl⟩
theorem eX4_isDigit_13 : Dj mX4_isDigit 13 (.goto 4) (4) 16 17 := ⟨by decide +kernel, rfl, rfl⟩
theorem eX4_isDigit_16 : Dn mX4_isDigit 16 (.iconst 0) 1 17 := ⟨by decide +kernel, rfl⟩
theorem eX4_isDigit_17 : Dn mX4_isDigit 17 (.ireturn) 1 18 := ⟨by decide +kernel, rfl⟩
theorem eX4_byteAt_0 : Dn mX4_byteAt 0 (.iload_n 1) 1 1 := ⟨by decide +kernel, rfl⟩
theorem eX4_byteAt_1 : Dn mX4_byteAt 1 (.aload_n 0) 1 2 := ⟨by decide +kernel, rfl⟩
theorem eX4_byteAt_2 : Dn mX4_byteAt 2 (.getfield 202) 3 5 := ⟨by decide +kernel, rfl⟩
theorem eX4_byteAt_5 : Dj mX4_byteAt 5 (.if_icmp .ge 12) (12) 8 17 := ⟨by decide +kernel, rfl, rfl⟩
theorem eX4_byteAt_8 : Dn mX4_byteAt 8 (.aload_n 0) 1 9 := ⟨by decide +kernel, rfl⟩
theorem eX4_byteAt_9 : Dn mX4_byteAt 9 (.getfield 25) 3 12 := ⟨by decide +kernel, rfl⟩
theorem eX4_byteAt_12 : Dn mX4_byteAt 12 (.iload_n 1) 1 13 := ⟨by decide +kernel, rfl⟩
theorem eX4_byteAt_13 : Dn mX4_byteAt 13 (.iaload) 1 14 := ⟨by decide +kernel, rfl⟩
theorem eX4_byteAt_14 : Dj mX4_byteAt 14 (.goto 4) (4) 17 18 := ⟨by decide +kernel, rfl, rfl⟩
theorem eX4_byteAt_17 : Dn mX4_byteAt 17 (.iconst (-1)) 1 18 := ⟨by decide +kernel, rfl⟩
theorem eX4_byteAt_18 : Dn mX4_byteAt 18 (.ireturn) 1 19 := ⟨by decide +kernel, rfl⟩
theorem eX4_nextToken_0 : Dn mX4_nextToken 0 (.aload_n 0) 1 1 := ⟨by decide +kernel, rfl⟩
theorem eX4_nextToken_1 : Dn mX4_nextToken 1 (.aload_n 0) 1 2 := ⟨by decide +kernel, rfl⟩
theorem eX4_nextToken_2 : Dn mX4_nextToken 2 (.getfield 205) 3 5 := ⟨by decide +kernel, rfl⟩
theorem eX4_nextToken_5 : Dn mX4_nextToken 5 (.putfield 208) 3 8 := ⟨by decide +kernel, rfl⟩
theorem eX4_nextToken_8 : Dn mX4_nextToken 8 (.aload_n 0) 1 9 := ⟨by decide +kernel, rfl⟩
theorem eX4_nextToken_9 : Dn mX4_nextToken 9 (.aload_n 0) 1 10 := ⟨by decide +kernel, rfl⟩
theorem eX4_nextToken_10 : Dn mX4_nextToken 10 (.getfield 208) 3 13 := ⟨by decide +kernel, rfl⟩
theorem eX4_nextToken_13 : Dn mX4_nextToken 13 (.invokevirtual 211) 3 16 := ⟨by decide +kernel, rfl⟩
theorem eX4_nextToken_16 : Dn mX4_nextToken 16 (.bipush 32) 2 18 := ⟨by decide +kernel, rfl⟩
theorem eX4_nextToken_18 : Dj mX4_nextToken 18 (.if_icmp .ne 16) (16) 21 34 := ⟨by decide +kernel, rfl, rfl⟩
theorem eX4_nextToken_21 : Dn mX4_nextToken 21 (.aload_n 0) 1 22 := ⟨by decide +kernel, rfl⟩
theorem eX4_nextToken_22 : Dn mX4_nextToken 22 (.dup) 1 23 := ⟨by decide +kernel, rfl⟩
theorem eX4_nextToken_23 : Dn mX4_nextToken 23 (.getfield 208) 3 26 := ⟨by decide +kernel, rfl⟩
theorem eX4_nextToken_26 : Dn mX4_nextToken 26 (.iconst 1) 1 27 := ⟨by decide +kernel, rfl⟩
theorem eX4_nextToken_27 : Dn mX4_nextToken 27 (.iadd) 1 28 := ⟨by decide +kernel, rfl⟩
theorem eX4_nextToken_28 : Dn mX4_nextToken 28 (.putfield 208) 3 31 := ⟨by decide +kernel, rfl⟩
theorem eX4_nextToken_31 : Dj mX4_nextToken 31 (.goto (-23)) (-23) 34 8 := ⟨by decide +kernel, rfl, rfl⟩
theorem eX4_nextToken_34 : Dn mX4_nextToken 34 (.aload_n 0) 1 35 := ⟨by decide +kernel, rfl⟩
theorem eX4_nextToken_35 : Dn mX4_nextToken 35 (.aload_n 0) 1 36 := ⟨by decide +kernel, rfl⟩
theorem eX4_nextToken_36 : Dn mX4_nextToken 36 (.getfield 208) 3 39 := ⟨by decide +kernel, rfl⟩
theorem eX4_nextToken_39 : Dn mX4_nextToken 39 (.putfield 205) 3 42 := ⟨by decide +kernel, rfl⟩
theorem eX4_nextToken_42 : Dn mX4_nextToken 42 (.aload_n 0) 1 43 := ⟨by decide +kernel, rfl⟩
theorem eX4_nextToken_43 : Dn mX4_nextToken 43 (.aload_n 0) 1 44 := ⟨by decide +kernel, rfl⟩
theorem eX4_nextToken_44 : Dn mX4_nextToken 44 (.getfield 208) 3 47 := ⟨by decide +kernel, rfl⟩
theorem eX4_nextToken_47 : Dn mX4_nextToken 47 (.invokevirtual 211) 3 50 := ⟨by decide +kernel, rfl⟩
theorem eX4_nextToken_50 : Dn mX4_nextToken 50 (.istore_n 1) 1 51 := ⟨by decide +kernel, rfl⟩
theorem eX4_nextToken_51 : Dn mX4_nextToken 51 (.aload_n 0) 1 52 := ⟨by decide +kernel, rfl⟩
theorem eX4_nextToken_52 : Dn mX4_nextToken 52 (.iload_n 1) 1 53 := ⟨by decide +kernel, rfl⟩
theorem eX4_nextToken_53 : Dj mX4_nextToken 53 (.ifCond .ge 7) (7) 56 60 := ⟨by decide +kernel, rfl, rfl⟩
theorem eX4_nextToken_56 : Dn mX4_nextToken 56 (.iconst 0) 1 57 := ⟨by decide +kernel, rfl⟩
theorem eX4_nextToken_57 : Dj mX4_nextToken 57 (.goto 36) (36) 60 93 := ⟨by decide +kernel, rfl, rfl⟩
theorem eX4_nextToken_60 : Dn mX4_nextToken 60 (.iload_n 1) 1 61 := ⟨by decide +kernel, rfl⟩
theorem eX4_nextToken_61 : Dn mX4_nextToken 61 (.invokestatic 214) 3 64 := ⟨by decide +kernel, rfl⟩
theorem eX4_nextToken_64 : Dj mX4_nextToken 64 (.ifCond .eq 7) (7) 67 71 := ⟨by decide +kernel, rfl, rfl⟩
theorem eX4_nextToken_67 : Dn mX4_nextToken 67 (.iconst 1) 1 68 := ⟨by decide +kernel, rfl⟩
theorem eX4_nextToken_68 : Dj mX4_nextToken 68 (.goto 25) (25) 71 93 := ⟨by decide +kernel, rfl, rfl⟩
theorem eX4_nextToken_71 : Dn mX4_nextToken 71 (.iload_n 1) 1 72 := ⟨by decide +kernel, rfl⟩
theorem eX4_nextToken_72 : Dn mX4_nextToken 72 (.invokestatic 217) 3 75 := ⟨by decide +kernel, rfl⟩
theorem eX4_nextToken_75 : Dj mX4_nextToken 75 (.ifCond .eq 7) (7) 78 82 := ⟨by decide +kernel, rfl, rfl⟩
theorem eX4_nextToken_78 : Dn mX4_nextToken 78 (.iconst 2) 1 79 := ⟨by decide +kernel, rfl⟩
theorem eX4_nextToken_79 : Dj mX4_nextToken 79 (.goto 14) (14) 82 93 := ⟨by decide +kernel, rfl, rfl⟩
theorem eX4_nextToken_82 : Dn mX4_nextToken 82 (.iload_n 1) 1 83 := ⟨by decide +kernel, rfl⟩
theorem eX4_nextToken_83 : Dn mX4_nextToken 83 (.bipush 59) 2 85 := ⟨by decide +kernel, rfl⟩
theorem eX4_nextToken_85 : Dj mX4_nextToken 85 (.if_icmp .ne 7) (7) 88 92 := ⟨by decide +kernel, rfl, rfl⟩
theorem eX4_nextToken_88 : Dn mX4_nextToken 88 (.iconst 3) 1 89 := ⟨by decide +kernel, rfl⟩
theorem eX4_nextToken_89 : Dj mX4_nextToken 89 (.goto 4) (4) 92 93 := ⟨by decide +kernel, rfl, rfl⟩
theorem eX4_nextToken_92 : Dn mX4_nextToken 92 (.iconst 4) 1 93 := ⟨by decide +kernel, rfl⟩
theorem eX4_nextToken_93 : Dn mX4_nextToken 93 (.putfield 220) 3 96 := ⟨by decide +kernel, rfl⟩
theorem eX4_nextToken_96 : Dn mX4_nextToken 96 (.aload_n 0) 1 97 := ⟨by decide +kernel, rfl⟩
theorem eX4_nextToken_97 : Dn mX4_nextToken 97 (.iconst 0) 1 98 := ⟨by decide +kernel, rfl⟩
theorem eX4_nextToken_98 : Dn mX4_nextToken 98 (.putfield 223) 3 101 := ⟨by decide +kernel, rfl⟩
theorem eX4_nextToken_101 : Dn mX4_nextToken 101 (.aload_n 0) 1 102 := ⟨by decide +kernel, rfl⟩
theorem eX4_nextToken_102 : Dn mX4_nextToken 102 (.getfield 220) 3 105 := ⟨by decide +kernel, rfl⟩
theorem eX4_nextToken_105 : Dn mX4_nextToken 105 (.iconst 1) 1 106 := ⟨by decide +kernel, rfl⟩
theorem eX4_nextToken_106 : Dj mX4_nextToken 106 (.if_icmp .ne 30) (30) 109 136 := ⟨by decide +kernel, rfl, rfl⟩
theorem eX4_nextToken_109 : Dn mX4_nextToken 109 (.aload_n 0) 1 110 := ⟨by decide +kernel, rfl⟩
theorem eX4_nextToken_110 : Dn mX4_nextToken 110 (.aload_n 0) 1 111 := ⟨by decide +kernel, rfl⟩
theorem eX4_nextToken_111 : Dn mX4_nextToken 111 (.getfield 205) 3 114 := ⟨by decide +kernel, rfl⟩
theorem eX4_nextToken_114 : Dn mX4_nextToken 114 (.invokevirtual 211) 3 117 := ⟨by decide +kernel, rfl⟩
theorem eX4_nextToken_117 : Dn mX4_nextToken 117 (.invokestatic 214) 3 120 := ⟨by decide +kernel, rfl⟩
theorem eX4_nextToken_120 : Dj mX4_nextToken 120 (.ifCond .eq 16) (16) 123 136 := ⟨by decide +kernel, rfl, rfl⟩
theorem eX4_nextToken_123 : Dn mX4_nextToken 123 (.aload_n 0) 1 124 := ⟨by decide +kernel, rfl⟩
theorem eX4_nextToken_124 : Dn mX4_nextToken 124 (.dup) 1 125 := ⟨by decide +kernel, rfl⟩
theorem eX4_nextToken_125 : Dn mX4_nextToken 125 (.getfield 205) 3 128 := ⟨by decide +kernel, rfl⟩
theorem eX4_nextToken_128 : Dn mX4_nextToken 128 (.iconst 1) 1 129 := ⟨by decide +kernel, rfl⟩
theorem eX4_nextToken_129 : Dn mX4_nextToken 129 (.iadd) 1 130 := ⟨by decide +kernel, rfl⟩
theorem eX4_nextToken_130 : Dn mX4_nextToken 130 (.putfield 205) 3 133 := ⟨by decide +kernel, rfl⟩
theorem eX4_nextToken_133 : Dj mX4_nextToken 133 (.goto (-32)) (-32) 136 101 := ⟨by decide +kernel, rfl, rfl⟩
theorem eX4_nextToken_136 : Dn mX4_nextToken 136 (.aload_n 0) 1 137 := ⟨by decide +kernel, rfl⟩
theorem eX4_nextToken_137 : Dn mX4_nextToken 137 (.getfield 220) 3 140 := ⟨by decide +kernel, rfl⟩
theorem eX4_nextToken_140 : Dn mX4_nextToken 140 (.iconst 2) 1 141 := ⟨by decide +kernel, rfl⟩
theorem eX4_nextToken_141 : Dj mX4_nextToken 141 (.if_icmp .ne 70) (70) 144 211 := ⟨by decide +kernel, rfl, rfl⟩
theorem eX4_nextToken_144 : Dn mX4_nextToken 144 (.aload_n 0) 1 145 := ⟨by decide +kernel, rfl⟩
theorem eX4_nextToken_145 : Dn mX4_nextToken 145 (.aload_n 0) 1 146 := ⟨by decide +kernel, rfl⟩
theorem eX4_nextToken_146 : Dn mX4_nextToken 146 (.getfield 205) 3 149 := ⟨by decide +kernel, rfl⟩
theorem eX4_nextToken_149 : Dn mX4_nextToken 149 (.invokevirtual 211) 3 152 := ⟨by decide +kernel, rfl⟩
theorem eX4_nextToken_152 : Dn mX4_nextToken 152 (.invokestatic 217) 3 155 := ⟨by decide +kernel, rfl⟩
theorem eX4_nextToken_155 : Dj mX4_nextToken 155 (.ifCond .eq 56) (56) 158 211 := ⟨by decide +kernel, rfl, rfl⟩
theorem eX4_nextToken_158 : Dn mX4_nextToken 158 (.aload_n 0) 1 159 := ⟨by decide +kernel, rfl⟩
theorem eX4_nextToken_159 : Dn mX4_nextToken 159 (.aload_n 0) 1 160 := ⟨by decide +kernel, rfl⟩
theorem eX4_nextToken_160 : Dn mX4_nextToken 160 (.getfield 223) 3 163 := ⟨by decide +kernel, rfl⟩
theorem eX4_nextToken_163 : Dn mX4_nextToken 163 (.sipush 999) 3 166 := ⟨by decide +kernel, rfl⟩
theorem eX4_nextToken_166 : Dj mX4_nextToken 166 (.if_icmp .le 10) (10) 169 176 := ⟨by decide +kernel, rfl, rfl⟩
theorem eX4_nextToken_169 : Dn mX4_nextToken 169 (.aload_n 0) 1 170 := ⟨by decide +kernel, rfl⟩
theorem eX4_nextToken_170 : Dn mX4_nextToken 170 (.getfield 223) 3 173 := ⟨by decide +kernel, rfl⟩
theorem eX4_nextToken_173 : Dj mX4_nextToken 173 (.goto 22) (22) 176 195 := ⟨by decide +kernel, rfl, rfl⟩
theorem eX4_nextToken_176 : Dn mX4_nextToken 176 (.bipush 10) 2 178 := ⟨by decide +kernel, rfl⟩
theorem eX4_nextToken_178 : Dn mX4_nextToken 178 (.aload_n 0) 1 179 := ⟨by decide +kernel, rfl⟩
theorem eX4_nextToken_179 : Dn mX4_nextToken 179 (.getfield 223) 3 182 := ⟨by decide +kernel, rfl⟩
theorem eX4_nextToken_182 : Dn mX4_nextToken 182 (.imul) 1 183 := ⟨by decide +kernel, rfl⟩
theorem eX4_nextToken_183 : Dn mX4_nextToken 183 (.aload_n 0) 1 184 := ⟨by decide +kernel, rfl⟩
theorem eX4_nextToken_184 : Dn mX4_nextToken 184 (.aload_n 0) 1 185 := ⟨by decide +kernel, rfl⟩
theorem eX4_nextToken_185 : Dn mX4_nextToken 185 (.getfield 205) 3 188 := ⟨by decide +kernel, rfl⟩
theorem eX4_nextToken_188 : Dn mX4_nextToken 188 (.invokevirtual 211) 3 191 := ⟨by decide +kernel, rfl⟩
theorem eX4_nextToken_191 : Dn mX4_nextToken 191 (.iadd) 1 192 := ⟨by decide +kernel, rfl⟩
theorem eX4_nextToken_192 : Dn mX4_nextToken 192 (.bipush 48) 2 194 := ⟨by decide +kernel, rfl⟩
theorem eX4_nextToken_194 : Dn mX4_nextToken 194 (.isub) 1 195 := ⟨by decide +kernel, rfl⟩
theorem eX4_nextToken_195 : Dn mX4_nextToken 195 (.putfield 223) 3 198 := ⟨by decide +kernel, rfl⟩
theorem eX4_nextToken_198 : Dn mX4_nextToken 198 (.aload_n 0) 1 199 := ⟨by decide +kernel, rfl⟩
theorem eX4_nextToken_199 : Dn mX4_nextToken 199 (.dup) 1 200 := ⟨by decide +kernel, rfl⟩
theorem eX4_nextToken_200 : Dn mX4_nextToken 200 (.getfield 205) 3 203 := ⟨by decide +kernel, rfl⟩
theorem eX4_nextToken_203 : Dn mX4_nextToken 203 (.iconst 1) 1 204 := ⟨by decide +kernel, rfl⟩
theorem eX4_nextToken_204 : Dn mX4_nextToken 204 (.iadd) 1 205 := ⟨by decide +kernel, rfl⟩
theorem eX4_nextToken_205 : Dn mX4_nextToken 205 (.putfield 205) 3 208 := ⟨by decide +kernel, rfl⟩
theorem eX4_nextToken_208 : Dj mX4_nextToken 208 (.goto (-72)) (-72) 211 136 := ⟨by decide +kernel, rfl, rfl⟩
theorem eX4_nextToken_211 : Dn mX4_nextToken 211 (.aload_n 0) 1 212 := ⟨by decide +kernel, rfl⟩
theorem eX4_nextToken_212 : Dn mX4_nextToken 212 (.dup) 1 213 := ⟨by decide +kernel, rfl⟩
theorem eX4_nextToken_213 : Dn mX4_nextToken 213 (.getfield 205) 3 216 := ⟨by decide +kernel, rfl⟩
theorem eX4_nextToken_216 : Dn mX4_nextToken 216 (.aload_n 0) 1 217 := ⟨by decide +kernel, rfl⟩
theorem eX4_nextToken_217 : Dn mX4_nextToken 217 (.getfield 220) 3 220 := ⟨by decide +kernel, rfl⟩
theorem eX4_nextToken_220 : Dn mX4_nextToken 220 (.iconst 2) 1 221 := ⟨by decide +kernel, rfl⟩
theorem eX4_nextToken_221 : Dj mX4_nextToken 221 (.if_icmp .le 7) (7) 224 228 := ⟨by decide +kernel, rfl, rfl⟩
theorem eX4_nextToken_224 : Dn mX4_nextToken 224 (.iconst 1) 1 225 := ⟨by decide +kernel, rfl⟩
theorem eX4_nextToken_225 : Dj mX4_nextToken 225 (.goto 4) (4) 228 229 := ⟨by decide +kernel, rfl, rfl⟩
theorem eX4_nextToken_228 : Dn mX4_nextToken 228 (.iconst 0) 1 229 := ⟨by decide +kernel, rfl⟩
theorem eX4_nextToken_229 : Dn mX4_nextToken 229 (.iadd) 1 230 := ⟨by decide +kernel, rfl⟩
theorem eX4_nextToken_230 : Dn mX4_nextToken 230 (.putfield 205) 3 233 := ⟨by decide +kernel, rfl⟩
theorem eX4_nextToken_233 : Dn mX4_nextToken 233 (.return_) 1 234 := ⟨by decide +kernel, rfl⟩
theorem eX4_has3_0 : Dn mX4_has3 0 (.aload_n 0) 1 1 := ⟨by decide +kernel, rfl⟩
theorem eX4_has3_1 : Dn mX4_has3 1 (.aload_n 0) 1 2 := ⟨by decide +kernel, rfl⟩
theorem eX4_has3_2 : Dn mX4_has3 2 (.getfield 208) 3 5 := ⟨by decide +kernel, rfl⟩
theorem eX4_has3_5 : Dn mX4_has3 5 (.iload_n 1) 1 6 := ⟨by decide +kernel, rfl⟩
theorem eX4_has3_6 : Dn mX4_has3 6 (.iadd) 1 7 := ⟨by decide +kernel, rfl⟩
theorem eX4_has3_7 : Dn mX4_has3 7 (.invokevirtual 211) 3 10 := ⟨by decide +kernel, rfl⟩
theorem eX4_has3_10 : Dn mX4_has3 10 (.iload_n 2) 1 11 := ⟨by decide +kernel, rfl⟩
theorem eX4_has3_11 : Dj mX4_has3 11 (.if_icmp .ne 40) (40) 14 51 := ⟨by decide +kernel, rfl, rfl⟩
theorem eX4_has3_14 : Dn mX4_has3 14 (.aload_n 0) 1 15 := ⟨by decide +kernel, rfl⟩
theorem eX4_has3_15 : Dn mX4_has3 15 (.aload_n 0) 1 16 := ⟨by decide +kernel, rfl⟩
theorem eX4_has3_16 : Dn mX4_has3 16 (.getfield 208) 3 19 := ⟨by decide +kernel, rfl⟩
theorem eX4_has3_19 : Dn mX4_has3 19 (.iload_n 1) 1 20 := ⟨by decide +kernel, rfl⟩
theorem eX4_has3_20 : Dn mX4_has3 20 (.iadd) 1 21 := ⟨by decide +kernel, rfl⟩
theorem eX4_has3_21 : Dn mX4_has3 21 (.iconst 1) 1 22 := ⟨by decide +kernel, rfl⟩
theorem eX4_has3_22 : Dn mX4_has3 22 (.iadd) 1 23 := ⟨by decide +kernel, rfl⟩
theorem eX4_has3_23 : Dn mX4_has3 23 (.invokevirtual 211) 3 26 := ⟨by decide +kernel, rfl⟩
theorem eX4_has3_26 : Dn mX4_has3 26 (.iload_n 3) 1 27 := ⟨by decide +kernel, rfl⟩
theorem eX4_has3_27 : Dj mX4_has3 27 (.if_icmp .ne 24) (24) 30 51 := ⟨by decide +kernel, rfl, rfl⟩
theorem eX4_has3_30 : Dn mX4_has3 30 (.aload_n 0) 1 31 := ⟨by decide +kernel, rfl⟩
theorem eX4_has3_31 : Dn mX4_has3 31 (.aload_n 0) 1 32 := ⟨by decide +kernel, rfl⟩
theorem eX4_has3_32 : Dn mX4_has3 32 (.getfield 208) 3 35 := ⟨by decide +kernel, rfl⟩
theorem eX4_has3_35 : Dn mX4_has3 35 (.iload_n 1) 1 36 := ⟨by decide +kernel, rfl⟩
theorem eX4_has3_36 : Dn mX4_has3 36 (.iadd) 1 37 := ⟨by decide +kernel, rfl⟩
theorem eX4_has3_37 : Dn mX4_has3 37 (.iconst 2) 1 38 := ⟨by decide +kernel, rfl⟩
theorem eX4_has3_38 : Dn mX4_has3 38 (.iadd) 1 39 := ⟨by decide +kernel, rfl⟩
theorem eX4_has3_39 : Dn mX4_has3 39 (.invokevirtual 211) 3 42 := ⟨by decide +kernel, rfl⟩
theorem eX4_has3_42 : Dn mX4_has3 42 (.iload 4) 2 44 := ⟨by decide +kernel, rfl⟩
theorem eX4_has3_44 : Dj mX4_has3 44 (.if_icmp .ne 7) (7) 47 51 := ⟨by decide +kernel, rfl, rfl⟩
theorem eX4_has3_47 : Dn mX4_has3 47 (.iconst 1) 1 48 := ⟨by decide +kernel, rfl⟩
theorem eX4_has3_48 : Dj mX4_has3 48 (.goto 4) (4) 51 52 := ⟨by decide +kernel, rfl, rfl⟩
theorem eX4_has3_51 : Dn mX4_has3 51 (.iconst 0) 1 52 := ⟨by decide +kernel, rfl⟩
theorem eX4_has3_52 : Dn mX4_has3 52 (.ireturn) 1 53 := ⟨by decide +kernel, rfl⟩
theorem eX4_isWord_0 : Dn mX4_isWord 0 (.aload_n 0) 1 1 := ⟨by decide +kernel, rfl⟩
theorem eX4_isWord_1 : Dn mX4_isWord 1 (.getfield 220) 3 4 := ⟨by decide +kernel, rfl⟩
theorem eX4_isWord_4 : Dn mX4_isWord 4 (.iconst 1) 1 5 := ⟨by decide +kernel, rfl⟩
theorem eX4_isWord_5 : Dj mX4_isWord 5 (.if_icmp .ne 20) (20) 8 25 := ⟨by decide +kernel, rfl, rfl⟩
theorem eX4_isWord_8 : Dn mX4_isWord 8 (.aload_n 0) 1 9 := ⟨by decide +kernel, rfl⟩
theorem eX4_isWord_9 : Dn mX4_isWord 9 (.getfield 205) 3 12 := ⟨by decide +kernel, rfl⟩
theorem eX4_isWord_12 : Dn mX4_isWord 12 (.aload_n 0) 1 13 := ⟨by decide +kernel, rfl⟩
theorem eX4_isWord_13 : Dn mX4_isWord 13 (.getfield 208) 3 16 := ⟨by decide +kernel, rfl⟩
theorem eX4_isWord_16 : Dn mX4_isWord 16 (.isub) 1 17 := ⟨by decide +kernel, rfl⟩
theorem eX4_isWord_17 : Dn mX4_isWord 17 (.iload_n 1) 1 18 := ⟨by decide +kernel, rfl⟩
theorem eX4_isWord_18 : Dj mX4_isWord 18 (.if_icmp .ne 7) (7) 21 25 := ⟨by decide +kernel, rfl, rfl⟩
theorem eX4_isWord_21 : Dn mX4_isWord 21 (.iconst 1) 1 22 := ⟨by decide +kernel, rfl⟩
theorem eX4_isWord_22 : Dj mX4_isWord 22 (.goto 4) (4) 25 26 := ⟨by decide +kernel, rfl, rfl⟩
theorem eX4_isWord_25 : Dn mX4_isWord 25 (.iconst 0) 1 26 := ⟨by decide +kernel, rfl⟩
theorem eX4_isWord_26 : Dn mX4_isWord 26 (.ireturn) 1 27 := ⟨by decide +kernel, rfl⟩
theorem eX4_fails_0 : Dn mX4_fails 0 (.aload_n 0) 1 1 := ⟨by decide +kernel, rfl⟩
theorem eX4_fails_1 : Dn mX4_fails 1 (.aload_n 0) 1 2 := ⟨by decide +kernel, rfl⟩
theorem eX4_fails_2 : Dn mX4_fails 2 (.getfield 208) 3 5 := ⟨by decide +kernel, rfl⟩
theorem eX4_fails_5 : Dn mX4_fails 5 (.putfield 226) 3 8 := ⟨by decide +kernel, rfl⟩
theorem eX4_fails_8 : Dn mX4_fails 8 (.iconst 0) 1 9 := ⟨by decide +kernel, rfl⟩
theorem eX4_fails_9 : Dn mX4_fails 9 (.ireturn) 1 10 := ⟨by decide +kernel, rfl⟩
theorem eX4_isFour_0 : Dn mX4_isFour 0 (.aload_n 0) 1 1 := ⟨by decide +kernel, rfl⟩
theorem eX4_isFour_1 : Dn mX4_isFour 1 (.iconst 4) 1 2 := ⟨by decide +kernel, rfl⟩
theorem eX4_isFour_2 : Dn mX4_isFour 2 (.invokevirtual 229) 3 5 := ⟨by decide +kernel, rfl⟩
theorem eX4_isFour_5 : Dj mX4_isFour 5 (.ifCond .eq 30) (30) 8 35 := ⟨by decide +kernel, rfl, rfl⟩
theorem eX4_isFour_8 : Dn mX4_isFour 8 (.aload_n 0) 1 9 := ⟨by decide +kernel, rfl⟩
theorem eX4_isFour_9 : Dn mX4_isFour 9 (.iconst 0) 1 10 := ⟨by decide +kernel, rfl⟩
theorem eX4_isFour_10 : Dn mX4_isFour 10 (.iload_n 1) 1 11 := ⟨by decide +kernel, rfl⟩
theorem eX4_isFour_11 : Dn mX4_isFour 11 (.iload_n 2) 1 12 := ⟨by decide +kernel, rfl⟩
theorem eX4_isFour_12 : Dn mX4_isFour 12 (.iload_n 3) 1 13 := ⟨by decide +kernel, rfl⟩
theorem eX4_isFour_13 : Dn mX4_isFour 13 (.invokevirtual 232) 3 16 := ⟨by decide +kernel, rfl⟩
theorem eX4_isFour_16 : Dj mX4_isFour 16 (.ifCond .eq 19) (19) 19 35 := ⟨by decide +kernel, rfl, rfl⟩
theorem eX4_isFour_19 : Dn mX4_isFour 19 (.aload_n 0) 1 20 := ⟨by decide +kernel, rfl⟩
theorem eX4_isFour_20 : Dn mX4_isFour 20 (.iconst 1) 1 21 := ⟨by decide +kernel, rfl⟩
theorem eX4_isFour_21 : Dn mX4_isFour 21 (.iload_n 2) 1 22 := ⟨by decide +kernel, rfl⟩
theorem eX4_isFour_22 : Dn mX4_isFour 22 (.iload_n 3) 1 23 := ⟨by decide +kernel, rfl⟩
theorem eX4_isFour_23 : Dn mX4_isFour 23 (.iload 4) 2 25 := ⟨by decide +kernel, rfl⟩
theorem eX4_isFour_25 : Dn mX4_isFour 25 (.invokevirtual 232) 3 28 := ⟨by decide +kernel, rfl⟩
theorem eX4_isFour_28 : Dj mX4_isFour 28 (.ifCond .eq 7) (7) 31 35 := ⟨by decide +kernel, rfl, rfl⟩
theorem eX4_isFour_31 : Dn mX4_isFour 31 (.iconst 1) 1 32 := ⟨by decide +kernel, rfl⟩
theorem eX4_isFour_32 : Dj mX4_isFour 32 (.goto 4) (4) 35 36 := ⟨by decide +kernel, rfl, rfl⟩
theorem eX4_isFour_35 : Dn mX4_isFour 35 (.iconst 0) 1 36 := ⟨by decide +kernel, rfl⟩
theorem eX4_isFour_36 : Dn mX4_isFour 36 (.ireturn) 1 37 := ⟨by decide +kernel, rfl⟩
theorem eX4_isFive_0 : Dn mX4_isFive 0 (.aload_n 0) 1 1 := ⟨by decide +kernel, rfl⟩
theorem eX4_isFive_1 : Dn mX4_isFive 1 (.iconst 5) 1 2 := ⟨by decide +kernel, rfl⟩
theorem eX4_isFive_2 : Dn mX4_isFive 2 (.invokevirtual 229) 3 5 := ⟨by decide +kernel, rfl⟩
theorem eX4_isFive_5 : Dj mX4_isFive 5 (.ifCond .eq 31) (31) 8 36 := ⟨by decide +kernel, rfl, rfl⟩
theorem eX4_isFive_8 : Dn mX4_isFive 8 (.aload_n 0) 1 9 := ⟨by decide +kernel, rfl⟩
theorem eX4_isFive_9 : Dn mX4_isFive 9 (.iconst 0) 1 10 := ⟨by decide +kernel, rfl⟩
theorem eX4_isFive_10 : Dn mX4_isFive 10 (.iload_n 1) 1 11 := ⟨by decide +kernel, rfl⟩
theorem eX4_isFive_11 : Dn mX4_isFive 11 (.iload_n 2) 1 12 := ⟨by decide +kernel, rfl⟩
theorem eX4_isFive_12 : Dn mX4_isFive 12 (.iload_n 3) 1 13 := ⟨by decide +kernel, rfl⟩
theorem eX4_isFive_13 : Dn mX4_isFive 13 (.invokevirtual 232) 3 16 := ⟨by decide +kernel, rfl⟩
theorem eX4_isFive_16 : Dj mX4_isFive 16 (.ifCond .eq 20) (20) 19 36 := ⟨by decide +kernel, rfl, rfl⟩
theorem eX4_isFive_19 : Dn mX4_isFive 19 (.aload_n 0) 1 20 := ⟨by decide +kernel, rfl⟩
theorem eX4_isFive_20 : Dn mX4_isFive 20 (.iconst 2) 1 21 := ⟨by decide +kernel, rfl⟩
theorem eX4_isFive_21 : Dn mX4_isFive 21 (.iload_n 3) 1 22 := ⟨by decide +kernel, rfl⟩
theorem eX4_isFive_22 : Dn mX4_isFive 22 (.iload 4) 2 24 := ⟨by decide +kernel, rfl⟩
theorem eX4_isFive_24 : Dn mX4_isFive 24 (.iload 5) 2 26 := ⟨by decide +kernel, rfl⟩
theorem eX4_isFive_26 : Dn mX4_isFive 26 (.invokevirtual 232) 3 29 := ⟨by decide +kernel, rfl⟩
theorem eX4_isFive_29 : Dj mX4_isFive 29 (.ifCond .eq 7) (7) 32 36 := ⟨by decide +kernel, rfl, rfl⟩
theorem eX4_isFive_32 : Dn mX4_isFive 32 (.iconst 1) 1 33 := ⟨by decide +kernel, rfl⟩
theorem eX4_isFive_33 : Dj mX4_isFive 33 (.goto 4) (4) 36 37 := ⟨by decide +kernel, rfl, rfl⟩
theorem eX4_isFive_36 : Dn mX4_isFive 36 (.iconst 0) 1 37 := ⟨by decide +kernel, rfl⟩
theorem eX4_isFive_37 : Dn mX4_isFive 37 (.ireturn) 1 38 := ⟨by decide +kernel, rfl⟩
theorem eX4_isSix_0 : Dn mX4_isSix 0 (.aload_n 0) 1 1 := ⟨by decide +kernel, rfl⟩
theorem eX4_isSix_1 : Dn mX4_isSix 1 (.bipush 6) 2 3 := ⟨by decide +kernel, rfl⟩
theorem eX4_isSix_3 : Dn mX4_isSix 3 (.invokevirtual 229) 3 6 := ⟨by decide +kernel, rfl⟩
theorem eX4_isSix_6 : Dj mX4_isSix 6 (.ifCond .eq 32) (32) 9 38 := ⟨by decide +kernel, rfl, rfl⟩
theorem eX4_isSix_9 : Dn mX4_isSix 9 (.aload_n 0) 1 10 := ⟨by decide +kernel, rfl⟩
theorem eX4_isSix_10 : Dn mX4_isSix 10 (.iconst 0) 1 11 := ⟨by decide +kernel, rfl⟩
theorem eX4_isSix_11 : Dn mX4_isSix 11 (.iload_n 1) 1 12 := ⟨by decide +kernel, rfl⟩
theorem eX4_isSix_12 : Dn mX4_isSix 12 (.iload_n 2) 1 13 := ⟨by decide +kernel, rfl⟩
theorem eX4_isSix_13 : Dn mX4_isSix 13 (.iload_n 3) 1 14 := ⟨by decide +kernel, rfl⟩
theorem eX4_isSix_14 : Dn mX4_isSix 14 (.invokevirtual 232) 3 17 := ⟨by decide +kernel, rfl⟩
theorem eX4_isSix_17 : Dj mX4_isSix 17 (.ifCond .eq 21) (21) 20 38 := ⟨by decide +kernel, rfl, rfl⟩
theorem eX4_isSix_20 : Dn mX4_isSix 20 (.aload_n 0) 1 21 := ⟨by decide +kernel, rfl⟩
theorem eX4_isSix_21 : Dn mX4_isSix 21 (.iconst 3) 1 22 := ⟨by decide +kernel, rfl⟩
theorem eX4_isSix_22 : Dn mX4_isSix 22 (.iload 4) 2 24 := ⟨by decide +kernel, rfl⟩
theorem eX4_isSix_24 : Dn mX4_isSix 24 (.iload 5) 2 26 := ⟨by decide +kernel, rfl⟩
theorem eX4_isSix_26 : Dn mX4_isSix 26 (.iload 6) 2 28 := ⟨by decide +kernel, rfl⟩
theorem eX4_isSix_28 : Dn mX4_isSix 28 (.invokevirtual 232) 3 31 := ⟨by decide +kernel, rfl⟩
theorem eX4_isSix_31 : Dj mX4_isSix 31 (.ifCond .eq 7) (7) 34 38 := ⟨by decide +kernel, rfl, rfl⟩
theorem eX4_isSix_34 : Dn mX4_isSix 34 (.iconst 1) 1 35 := ⟨by decide +kernel, rfl⟩
theorem eX4_isSix_35 : Dj mX4_isSix 35 (.goto 4) (4) 38 39 := ⟨by decide +kernel, rfl, rfl⟩
theorem eX4_isSix_38 : Dn mX4_isSix 38 (.iconst 0) 1 39 := ⟨by decide +kernel, rfl⟩
theorem eX4_isSix_39 : Dn mX4_isSix 39 (.ireturn) 1 40 := ⟨by decide +kernel, rfl⟩
theorem eX4_isNumber_0 : Dn mX4_isNumber 0 (.aload_n 0) 1 1 := ⟨by decide +kernel, rfl⟩
theorem eX4_isNumber_1 : Dn mX4_isNumber 1 (.getfield 220) 3 4 := ⟨by decide +kernel, rfl⟩
theorem eX4_isNumber_4 : Dn mX4_isNumber 4 (.iconst 2) 1 5 := ⟨by decide +kernel, rfl⟩
theorem eX4_isNumber_5 : Dj mX4_isNumber 5 (.if_icmp .ne 18) (18) 8 23 := ⟨by decide +kernel, rfl, rfl⟩
theorem eX4_isNumber_8 : Dn mX4_isNumber 8 (.aload_n 0) 1 9 := ⟨by decide +kernel, rfl⟩
theorem eX4_isNumber_9 : Dn mX4_isNumber 9 (.getfield 223) 3 12 := ⟨by decide +kernel, rfl⟩
theorem eX4_isNumber_12 : Dn mX4_isNumber 12 (.i2l) 1 13 := ⟨by decide +kernel, rfl⟩
theorem eX4_isNumber_13 : Dn mX4_isNumber 13 (.iload_n 1) 1 14 := ⟨by decide +kernel, rfl⟩
theorem eX4_isNumber_14 : Dn mX4_isNumber 14 (.i2l) 1 15 := ⟨by decide +kernel, rfl⟩
theorem eX4_isNumber_15 : Dn mX4_isNumber 15 (.iload_n 2) 1 16 := ⟨by decide +kernel, rfl⟩
theorem eX4_isNumber_16 : Dn mX4_isNumber 16 (.i2l) 1 17 := ⟨by decide +kernel, rfl⟩
theorem eX4_isNumber_17 : Dn mX4_isNumber 17 (.invokestatic 49) 3 20 := ⟨by decide +kernel, rfl⟩
theorem eX4_isNumber_20 : Dj mX4_isNumber 20 (.ifCond .ne 10) (10) 23 30 := ⟨by decide +kernel, rfl, rfl⟩
theorem eX4_isNumber_23 : Dn mX4_isNumber 23 (.aload_n 0) 1 24 := ⟨by decide +kernel, rfl⟩
theorem eX4_isNumber_24 : Dn mX4_isNumber 24 (.invokevirtual 236) 3 27 := ⟨by decide +kernel, rfl⟩
theorem eX4_isNumber_27 : Dj mX4_isNumber 27 (.ifCond .eq 7) (7) 30 34 := ⟨by decide +kernel, rfl, rfl⟩
theorem eX4_isNumber_30 : Dn mX4_isNumber 30 (.iconst 1) 1 31 := ⟨by decide +kernel, rfl⟩
theorem eX4_isNumber_31 : Dj mX4_isNumber 31 (.goto 4) (4) 34 35 := ⟨by decide +kernel, rfl, rfl⟩
theorem eX4_isNumber_34 : Dn mX4_isNumber 34 (.iconst 0) 1 35 := ⟨by decide +kernel, rfl⟩
theorem eX4_isNumber_35 : Dn mX4_isNumber 35 (.ireturn) 1 36 := ⟨by decide +kernel, rfl⟩
theorem eX4_kindHere_0 : Dn mX4_kindHere 0 (.aload_n 0) 1 1 := ⟨by decide +kernel, rfl⟩
theorem eX4_kindHere_1 : Dn mX4_kindHere 1 (.bipush 99) 2 3 := ⟨by decide +kernel, rfl⟩
theorem eX4_kindHere_3 : Dn mX4_kindHere 3 (.bipush 104) 2 5 := ⟨by decide +kernel, rfl⟩
theorem eX4_kindHere_5 : Dn mX4_kindHere 5 (.bipush 105) 2 7 := ⟨by decide +kernel, rfl⟩
theorem eX4_kindHere_7 : Dn mX4_kindHere 7 (.bipush 108) 2 9 := ⟨by decide +kernel, rfl⟩
theorem eX4_kindHere_9 : Dn mX4_kindHere 9 (.bipush 100) 2 11 := ⟨by decide +kernel, rfl⟩
theorem eX4_kindHere_11 : Dn mX4_kindHere 11 (.invokevirtual 240) 3 14 := ⟨by decide +kernel, rfl⟩
theorem eX4_kindHere_14 : Dj mX4_kindHere 14 (.ifCond .eq 5) (5) 17 19 := ⟨by decide +kernel, rfl, rfl⟩
theorem eX4_kindHere_17 : Dn mX4_kindHere 17 (.iconst 0) 1 18 := ⟨by decide +kernel, rfl⟩
theorem eX4_kindHere_18 : Dn mX4_kindHere 18 (.ireturn) 1 19 := ⟨by decide +kernel, rfl⟩
theorem eX4_kindHere_19 : Dn mX4_kindHere 19 (.aload_n 0) 1 20 := ⟨by decide +kernel, rfl⟩
theorem eX4_kindHere_20 : Dn mX4_kindHere 20 (.iconst 3) 1 21 := ⟨by decide +kernel, rfl⟩
theorem eX4_kindHere_21 : Dn mX4_kindHere 21 (.invokevirtual 229) 3 24 := ⟨by decide +kernel, rfl⟩
theorem eX4_kindHere_24 : Dj mX4_kindHere 24 (.ifCond .eq 19) (19) 27 43 := ⟨by decide +kernel, rfl, rfl⟩
theorem eX4_kindHere_27 : Dn mX4_kindHere 27 (.aload_n 0) 1 28 := ⟨by decide +kernel, rfl⟩
theorem eX4_kindHere_28 : Dn mX4_kindHere 28 (.iconst 0) 1 29 := ⟨by decide +kernel, rfl⟩
theorem eX4_kindHere_29 : Dn mX4_kindHere 29 (.bipush 115) 2 31 := ⟨by decide +kernel, rfl⟩
theorem eX4_kindHere_31 : Dn mX4_kindHere 31 (.bipush 108) 2 33 := ⟨by decide +kernel, rfl⟩
theorem eX4_kindHere_33 : Dn mX4_kindHere 33 (.bipush 121) 2 35 := ⟨by decide +kernel, rfl⟩
theorem eX4_kindHere_35 : Dn mX4_kindHere 35 (.invokevirtual 232) 3 38 := ⟨by decide +kernel, rfl⟩
theorem eX4_kindHere_38 : Dj mX4_kindHere 38 (.ifCond .eq 5) (5) 41 43 := ⟨by decide +kernel, rfl, rfl⟩
theorem eX4_kindHere_41 : Dn mX4_kindHere 41 (.iconst 1) 1 42 := ⟨by decide +kernel, rfl⟩
theorem eX4_kindHere_42 : Dn mX4_kindHere 42 (.ireturn) 1 43 := ⟨by decide +kernel, rfl⟩
theorem eX4_kindHere_43 : Dn mX4_kindHere 43 (.aload_n 0) 1 44 := ⟨by decide +kernel, rfl⟩
theorem eX4_kindHere_44 : Dn mX4_kindHere 44 (.bipush 115) 2 46 := ⟨by decide +kernel, rfl⟩
theorem eX4_kindHere_46 : Dn mX4_kindHere 46 (.bipush 108) 2 48 := ⟨by decide +kernel, rfl⟩
theorem eX4_kindHere_48 : Dn mX4_kindHere 48 (.bipush 111) 2 50 := ⟨by decide +kernel, rfl⟩
theorem eX4_kindHere_50 : Dn mX4_kindHere 50 (.bipush 112) 2 52 := ⟨by decide +kernel, rfl⟩
theorem eX4_kindHere_52 : Dn mX4_kindHere 52 (.bipush 112) 2 54 := ⟨by decide +kernel, rfl⟩
theorem eX4_kindHere_54 : Dn mX4_kindHere 54 (.bipush 121) 2 56 := ⟨by decide +kernel, rfl⟩
theorem eX4_kindHere_56 : Dn mX4_kindHere 56 (.invokevirtual 244) 3 59 := ⟨by decide +kernel, rfl⟩
theorem eX4_kindHere_59 : Dj mX4_kindHere 59 (.ifCond .eq 5) (5) 62 64 := ⟨by decide +kernel, rfl, rfl⟩
theorem eX4_kindHere_62 : Dn mX4_kindHere 62 (.iconst 2) 1 63 := ⟨by decide +kernel, rfl⟩
theorem eX4_kindHere_63 : Dn mX4_kindHere 63 (.ireturn) 1 64 := ⟨by decide +kernel, rfl⟩
theorem eX4_kindHere_64 : Dn mX4_kindHere 64 (.aload_n 0) 1 65 := ⟨by decide +kernel, rfl⟩
theorem eX4_kindHere_65 : Dn mX4_kindHere 65 (.bipush 115) 2 67 := ⟨by decide +kernel, rfl⟩
theorem eX4_kindHere_67 : Dn mX4_kindHere 67 (.bipush 101) 2 69 := ⟨by decide +kernel, rfl⟩
theorem eX4_kindHere_69 : Dn mX4_kindHere 69 (.bipush 118) 2 71 := ⟨by decide +kernel, rfl⟩
theorem eX4_kindHere_71 : Dn mX4_kindHere 71 (.bipush 101) 2 73 := ⟨by decide +kernel, rfl⟩
theorem eX4_kindHere_73 : Dn mX4_kindHere 73 (.bipush 110) 2 75 := ⟨by decide +kernel, rfl⟩
theorem eX4_kindHere_75 : Dn mX4_kindHere 75 (.invokevirtual 240) 3 78 := ⟨by decide +kernel, rfl⟩
theorem eX4_kindHere_78 : Dj mX4_kindHere 78 (.ifCond .eq 5) (5) 81 83 := ⟨by decide +kernel, rfl, rfl⟩
theorem eX4_kindHere_81 : Dn mX4_kindHere 81 (.iconst 3) 1 82 := ⟨by decide +kernel, rfl⟩
theorem eX4_kindHere_82 : Dn mX4_kindHere 82 (.ireturn) 1 83 := ⟨by decide +kernel, rfl⟩
theorem eX4_kindHere_83 : Dn mX4_kindHere 83 (.aload_n 0) 1 84 := ⟨by decide +kernel, rfl⟩
theorem eX4_kindHere_84 : Dn mX4_kindHere 84 (.bipush 108) 2 86 := ⟨by decide +kernel, rfl⟩
theorem eX4_kindHere_86 : Dn mX4_kindHere 86 (.bipush 97) 2 88 := ⟨by decide +kernel, rfl⟩
theorem eX4_kindHere_88 : Dn mX4_kindHere 88 (.bipush 122) 2 90 := ⟨by decide +kernel, rfl⟩
theorem eX4_kindHere_90 : Dn mX4_kindHere 90 (.bipush 121) 2 92 := ⟨by decide +kernel, rfl⟩
theorem eX4_kindHere_92 : Dn mX4_kindHere 92 (.invokevirtual 248) 3 95 := ⟨by decide +kernel, rfl⟩
theorem eX4_kindHere_95 : Dj mX4_kindHere 95 (.ifCond .eq 5) (5) 98 100 := ⟨by decide +kernel, rfl, rfl⟩
theorem eX4_kindHere_98 : Dn mX4_kindHere 98 (.iconst 4) 1 99 := ⟨by decide +kernel, rfl⟩
theorem eX4_kindHere_99 : Dn mX4_kindHere 99 (.ireturn) 1 100 := ⟨by decide +kernel, rfl⟩
theorem eX4_kindHere_100 : Dn mX4_kindHere 100 (.aload_n 0) 1 101 := ⟨by decide +kernel, rfl⟩
theorem eX4_kindHere_101 : Dn mX4_kindHere 101 (.bipush 104) 2 103 := ⟨by decide +kernel, rfl⟩
theorem eX4_kindHere_103 : Dn mX4_kindHere 103 (.bipush 111) 2 105 := ⟨by decide +kernel, rfl⟩
theorem eX4_kindHere_105 : Dn mX4_kindHere 105 (.bipush 110) 2 107 := ⟨by decide +kernel, rfl⟩
theorem eX4_kindHere_107 : Dn mX4_kindHere 107 (.bipush 101) 2 109 := ⟨by decide +kernel, rfl⟩
theorem eX4_kindHere_109 : Dn mX4_kindHere 109 (.bipush 115) 2 111 := ⟨by decide +kernel, rfl⟩
theorem eX4_kindHere_111 : Dn mX4_kindHere 111 (.bipush 116) 2 113 := ⟨by decide +kernel, rfl⟩
theorem eX4_kindHere_113 : Dn mX4_kindHere 113 (.invokevirtual 244) 3 116 := ⟨by decide +kernel, rfl⟩
theorem eX4_kindHere_116 : Dj mX4_kindHere 116 (.ifCond .eq 5) (5) 119 121 := ⟨by decide +kernel, rfl, rfl⟩
theorem eX4_kindHere_119 : Dn mX4_kindHere 119 (.iconst 5) 1 120 := ⟨by decide +kernel, rfl⟩
theorem eX4_kindHere_120 : Dn mX4_kindHere 120 (.ireturn) 1 121 := ⟨by decide +kernel, rfl⟩
theorem eX4_kindHere_121 : Dn mX4_kindHere 121 (.aload_n 0) 1 122 := ⟨by decide +kernel, rfl⟩
theorem eX4_kindHere_122 : Dn mX4_kindHere 122 (.bipush 115) 2 124 := ⟨by decide +kernel, rfl⟩
theorem eX4_kindHere_124 : Dn mX4_kindHere 124 (.bipush 101) 2 126 := ⟨by decide +kernel, rfl⟩
theorem eX4_kindHere_126 : Dn mX4_kindHere 126 (.bipush 108) 2 128 := ⟨by decide +kernel, rfl⟩
theorem eX4_kindHere_128 : Dn mX4_kindHere 128 (.bipush 108) 2 130 := ⟨by decide +kernel, rfl⟩
theorem eX4_kindHere_130 : Dn mX4_kindHere 130 (.bipush 101) 2 132 := ⟨by decide +kernel, rfl⟩
theorem eX4_kindHere_132 : Dn mX4_kindHere 132 (.bipush 114) 2 134 := ⟨by decide +kernel, rfl⟩
theorem eX4_kindHere_134 : Dn mX4_kindHere 134 (.invokevirtual 244) 3 137 := ⟨by decide +kernel, rfl⟩
theorem eX4_kindHere_137 : Dj mX4_kindHere 137 (.ifCond .eq 8) (8) 140 145 := ⟨by decide +kernel, rfl, rfl⟩
theorem eX4_kindHere_140 : Dn mX4_kindHere 140 (.bipush 6) 2 142 := ⟨by decide +kernel, rfl⟩
theorem eX4_kindHere_142 : Dj mX4_kindHere 142 (.goto 4) (4) 145 146 := ⟨by decide +kernel, rfl, rfl⟩
theorem eX4_kindHere_145 : Dn mX4_kindHere 145 (.iconst (-1)) 1 146 := ⟨by decide +kernel, rfl⟩
theorem eX4_kindHere_146 : Dn mX4_kindHere 146 (.ireturn) 1 147 := ⟨by decide +kernel, rfl⟩
theorem eX4_perhaps_0 : Dn mX4_perhaps 0 (.iload_n 1) 1 1 := ⟨by decide +kernel, rfl⟩
theorem eX4_perhaps_1 : Dj mX4_perhaps 1 (.ifCond .ne 5) (5) 4 6 := ⟨by decide +kernel, rfl, rfl⟩
theorem eX4_perhaps_4 : Dn mX4_perhaps 4 (.iconst 1) 1 5 := ⟨by decide +kernel, rfl⟩
theorem eX4_perhaps_5 : Dn mX4_perhaps 5 (.ireturn) 1 6 := ⟨by decide +kernel, rfl⟩
theorem eX4_perhaps_6 : Dn mX4_perhaps 6 (.aload_n 0) 1 7 := ⟨by decide +kernel, rfl⟩
theorem eX4_perhaps_7 : Dn mX4_perhaps 7 (.invokevirtual 251) 3 10 := ⟨by decide +kernel, rfl⟩
theorem eX4_perhaps_10 : Dn mX4_perhaps 10 (.aload_n 0) 1 11 := ⟨by decide +kernel, rfl⟩
theorem eX4_perhaps_11 : Dn mX4_perhaps 11 (.iload_n 3) 1 12 := ⟨by decide +kernel, rfl⟩
theorem eX4_perhaps_12 : Dn mX4_perhaps 12 (.iload 4) 2 14 := ⟨by decide +kernel, rfl⟩
theorem eX4_perhaps_14 : Dn mX4_perhaps 14 (.invokevirtual 254) 3 17 := ⟨by decide +kernel, rfl⟩
theorem eX4_perhaps_17 : Dj mX4_perhaps 17 (.ifCond .ne 5) (5) 20 22 := ⟨by decide +kernel, rfl, rfl⟩
theorem eX4_perhaps_20 : Dn mX4_perhaps 20 (.iconst 0) 1 21 := ⟨by decide +kernel, rfl⟩
theorem eX4_perhaps_21 : Dn mX4_perhaps 21 (.ireturn) 1 22 := ⟨by decide +kernel, rfl⟩
theorem eX4_perhaps_22 : Dn mX4_perhaps 22 (.aload_n 0) 1 23 := ⟨by decide +kernel, rfl⟩
theorem eX4_perhaps_23 : Dn mX4_perhaps 23 (.getfield 7) 3 26 := ⟨by decide +kernel, rfl⟩
theorem eX4_perhaps_26 : Dn mX4_perhaps 26 (.iload_n 2) 1 27 := ⟨by decide +kernel, rfl⟩
theorem eX4_perhaps_27 : Dn mX4_perhaps 27 (.aload_n 0) 1 28 := ⟨by decide +kernel, rfl⟩
theorem eX4_perhaps_28 : Dn mX4_perhaps 28 (.getfield 223) 3 31 := ⟨by decide +kernel, rfl⟩
theorem eX4_perhaps_31 : Dn mX4_perhaps 31 (.iastore) 1 32 := ⟨by decide +kernel, rfl⟩
theorem eX4_perhaps_32 : Dn mX4_perhaps 32 (.aload_n 0) 1 33 := ⟨by decide +kernel, rfl⟩
theorem eX4_perhaps_33 : Dn mX4_perhaps 33 (.invokevirtual 251) 3 36 := ⟨by decide +kernel, rfl⟩
theorem eX4_perhaps_36 : Dn mX4_perhaps 36 (.iconst 1) 1 37 := ⟨by decide +kernel, rfl⟩
theorem eX4_perhaps_37 : Dn mX4_perhaps 37 (.ireturn) 1 38 := ⟨by decide +kernel, rfl⟩
theorem eX4_childHere_0 : Dn mX4_childHere 0 (.aload_n 0) 1 1 := ⟨by decide +kernel, rfl⟩
theorem eX4_childHere_1 : Dn mX4_childHere 1 (.getfield 7) 3 4 := ⟨by decide +kernel, rfl⟩
theorem eX4_childHere_4 : Dn mX4_childHere 4 (.iconst 0) 1 5 := ⟨by decide +kernel, rfl⟩
theorem eX4_childHere_5 : Dn mX4_childHere 5 (.iaload) 1 6 := ⟨by decide +kernel, rfl⟩
theorem eX4_childHere_6 : Dn mX4_childHere 6 (.bipush 8) 2 8 := ⟨by decide +kernel, rfl⟩
theorem eX4_childHere_8 : Dj mX4_childHere 8 (.if_icmp .ne 8) (8) 11 16 := ⟨by decide +kernel, rfl, rfl⟩
theorem eX4_childHere_11 : Dn mX4_childHere 11 (.aload_n 0) 1 12 := ⟨by decide +kernel, rfl⟩
theorem eX4_childHere_12 : Dn mX4_childHere 12 (.invokevirtual 236) 3 15 := ⟨by decide +kernel, rfl⟩
theorem eX4_childHere_15 : Dn mX4_childHere 15 (.ireturn) 1 16 := ⟨by decide +kernel, rfl⟩
theorem eX4_childHere_16 : Dn mX4_childHere 16 (.aload_n 0) 1 17 := ⟨by decide +kernel, rfl⟩
theorem eX4_childHere_17 : Dn mX4_childHere 17 (.iload_n 1) 1 18 := ⟨by decide +kernel, rfl⟩
theorem eX4_childHere_18 : Dn mX4_childHere 18 (.iconst 0) 1 19 := ⟨by decide +kernel, rfl⟩
theorem eX4_childHere_19 : Dn mX4_childHere 19 (.invokevirtual 67) 3 22 := ⟨by decide +kernel, rfl⟩
theorem eX4_childHere_22 : Dn mX4_childHere 22 (.aload_n 0) 1 23 := ⟨by decide +kernel, rfl⟩
theorem eX4_childHere_23 : Dn mX4_childHere 23 (.getfield 7) 3 26 := ⟨by decide +kernel, rfl⟩
theorem eX4_childHere_26 : Dn mX4_childHere 26 (.iconst 0) 1 27 := ⟨by decide +kernel, rfl⟩
theorem eX4_childHere_27 : Dn mX4_childHere 27 (.iaload) 1 28 := ⟨by decide +kernel, rfl⟩
theorem eX4_childHere_28 : Dn mX4_childHere 28 (.iconst 1) 1 29 := ⟨by decide +kernel, rfl⟩
theorem eX4_childHere_29 : Dn mX4_childHere 29 (.isub) 1 30 := ⟨by decide +kernel, rfl⟩
theorem eX4_childHere_30 : Dn mX4_childHere 30 (.istore_n 2) 1 31 := ⟨by decide +kernel, rfl⟩
theorem eX4_childHere_31 : Dn mX4_childHere 31 (.aload_n 0) 1 32 := ⟨by decide +kernel, rfl⟩
theorem eX4_childHere_32 : Dn mX4_childHere 32 (.invokevirtual 251) 3 35 := ⟨by decide +kernel, rfl⟩
theorem eX4_childHere_35 : Dn mX4_childHere 35 (.aload_n 0) 1 36 := ⟨by decide +kernel, rfl⟩
theorem eX4_childHere_36 : Dn mX4_childHere 36 (.aload_n 0) 1 37 := ⟨by decide +kernel, rfl⟩
theorem eX4_childHere_37 : Dn mX4_childHere 37 (.bipush 107) 2 39 := ⟨by decide +kernel, rfl⟩
theorem eX4_childHere_39 : Dn mX4_childHere 39 (.bipush 110) 2 41 := ⟨by decide +kernel, rfl⟩
theorem eX4_childHere_41 : Dn mX4_childHere 41 (.bipush 111) 2 43 := ⟨by decide +kernel, rfl⟩
theorem eX4_childHere_43 : Dn mX4_childHere 43 (.bipush 119) 2 45 := ⟨by decide +kernel, rfl⟩
theorem eX4_childHere_45 : Dn mX4_childHere 45 (.bipush 115) 2 47 := ⟨by decide +kernel, rfl⟩
theorem eX4_childHere_47 : Dn mX4_childHere 47 (.invokevirtual 240) 3 50 := ⟨by decide +kernel, rfl⟩
theorem eX4_childHere_50 : Dn mX4_childHere 50 (.iload_n 2) 1 51 := ⟨by decide +kernel, rfl⟩
theorem eX4_childHere_51 : Dn mX4_childHere 51 (.iconst 1) 1 52 := ⟨by decide +kernel, rfl⟩
theorem eX4_childHere_52 : Dn mX4_childHere 52 (.invokestatic 59) 3 55 := ⟨by decide +kernel, rfl⟩
theorem eX4_childHere_55 : Dn mX4_childHere 55 (.iconst 0) 1 56 := ⟨by decide +kernel, rfl⟩
theorem eX4_childHere_56 : Dn mX4_childHere 56 (.sipush 255) 3 59 := ⟨by decide +kernel, rfl⟩
theorem eX4_childHere_59 : Dn mX4_childHere 59 (.invokevirtual 257) 3 62 := ⟨by decide +kernel, rfl⟩
theorem eX4_childHere_62 : Dj mX4_childHere 62 (.ifCond .eq 107) (107) 65 169 := ⟨by decide +kernel, rfl, rfl⟩
theorem eX4_childHere_65 : Dn mX4_childHere 65 (.aload_n 0) 1 66 := ⟨by decide +kernel, rfl⟩
theorem eX4_childHere_66 : Dn mX4_childHere 66 (.aload_n 0) 1 67 := ⟨by decide +kernel, rfl⟩
theorem eX4_childHere_67 : Dn mX4_childHere 67 (.bipush 102) 2 69 := ⟨by decide +kernel, rfl⟩
theorem eX4_childHere_69 : Dn mX4_childHere 69 (.bipush 114) 2 71 := ⟨by decide +kernel, rfl⟩
theorem eX4_childHere_71 : Dn mX4_childHere 71 (.bipush 111) 2 73 := ⟨by decide +kernel, rfl⟩
theorem eX4_childHere_73 : Dn mX4_childHere 73 (.bipush 109) 2 75 := ⟨by decide +kernel, rfl⟩
theorem eX4_childHere_75 : Dn mX4_childHere 75 (.invokevirtual 248) 3 78 := ⟨by decide +kernel, rfl⟩
theorem eX4_childHere_78 : Dn mX4_childHere 78 (.iload_n 2) 1 79 := ⟨by decide +kernel, rfl⟩
theorem eX4_childHere_79 : Dn mX4_childHere 79 (.iconst 2) 1 80 := ⟨by decide +kernel, rfl⟩
theorem eX4_childHere_80 : Dn mX4_childHere 80 (.invokestatic 59) 3 83 := ⟨by decide +kernel, rfl⟩
theorem eX4_childHere_83 : Dn mX4_childHere 83 (.iconst 0) 1 84 := ⟨by decide +kernel, rfl⟩
theorem eX4_childHere_84 : Dn mX4_childHere 84 (.iload_n 2) 1 85 := ⟨by decide +kernel, rfl⟩
theorem eX4_childHere_85 : Dn mX4_childHere 85 (.iconst 1) 1 86 := ⟨by decide +kernel, rfl⟩
theorem eX4_childHere_86 : Dn mX4_childHere 86 (.isub) 1 87 := ⟨by decide +kernel, rfl⟩
theorem eX4_childHere_87 : Dn mX4_childHere 87 (.invokevirtual 257) 3 90 := ⟨by decide +kernel, rfl⟩
theorem eX4_childHere_90 : Dj mX4_childHere 90 (.ifCond .eq 79) (79) 93 169 := ⟨by decide +kernel, rfl, rfl⟩
theorem eX4_childHere_93 : Dn mX4_childHere 93 (.aload_n 0) 1 94 := ⟨by decide +kernel, rfl⟩
theorem eX4_childHere_94 : Dn mX4_childHere 94 (.aload_n 0) 1 95 := ⟨by decide +kernel, rfl⟩
theorem eX4_childHere_95 : Dn mX4_childHere 95 (.bipush 8) 2 97 := ⟨by decide +kernel, rfl⟩
theorem eX4_childHere_97 : Dn mX4_childHere 97 (.invokevirtual 229) 3 100 := ⟨by decide +kernel, rfl⟩
theorem eX4_childHere_100 : Dj mX4_childHere 100 (.ifCond .eq 49) (49) 103 149 := ⟨by decide +kernel, rfl, rfl⟩
theorem eX4_childHere_103 : Dn mX4_childHere 103 (.aload_n 0) 1 104 := ⟨by decide +kernel, rfl⟩
theorem eX4_childHere_104 : Dn mX4_childHere 104 (.iconst 0) 1 105 := ⟨by decide +kernel, rfl⟩
theorem eX4_childHere_105 : Dn mX4_childHere 105 (.bipush 98) 2 107 := ⟨by decide +kernel, rfl⟩
theorem eX4_childHere_107 : Dn mX4_childHere 107 (.bipush 105) 2 109 := ⟨by decide +kernel, rfl⟩
theorem eX4_childHere_109 : Dn mX4_childHere 109 (.bipush 115) 2 111 := ⟨by decide +kernel, rfl⟩
theorem eX4_childHere_111 : Dn mX4_childHere 111 (.invokevirtual 232) 3 114 := ⟨by decide +kernel, rfl⟩
theorem eX4_childHere_114 : Dj mX4_childHere 114 (.ifCond .eq 35) (35) 117 149 := ⟨by decide +kernel, rfl, rfl⟩
theorem eX4_childHere_117 : Dn mX4_childHere 117 (.aload_n 0) 1 118 := ⟨by decide +kernel, rfl⟩
theorem eX4_childHere_118 : Dn mX4_childHere 118 (.iconst 3) 1 119 := ⟨by decide +kernel, rfl⟩
theorem eX4_childHere_119 : Dn mX4_childHere 119 (.bipush 99) 2 121 := ⟨by decide +kernel, rfl⟩
theorem eX4_childHere_121 : Dn mX4_childHere 121 (.bipush 117) 2 123 := ⟨by decide +kernel, rfl⟩
theorem eX4_childHere_123 : Dn mX4_childHere 123 (.bipush 105) 2 125 := ⟨by decide +kernel, rfl⟩
theorem eX4_childHere_125 : Dn mX4_childHere 125 (.invokevirtual 232) 3 128 := ⟨by decide +kernel, rfl⟩
theorem eX4_childHere_128 : Dj mX4_childHere 128 (.ifCond .eq 21) (21) 131 149 := ⟨by decide +kernel, rfl, rfl⟩
theorem eX4_childHere_131 : Dn mX4_childHere 131 (.aload_n 0) 1 132 := ⟨by decide +kernel, rfl⟩
theorem eX4_childHere_132 : Dn mX4_childHere 132 (.iconst 5) 1 133 := ⟨by decide +kernel, rfl⟩
theorem eX4_childHere_133 : Dn mX4_childHere 133 (.bipush 105) 2 135 := ⟨by decide +kernel, rfl⟩
theorem eX4_childHere_135 : Dn mX4_childHere 135 (.bipush 116) 2 137 := ⟨by decide +kernel, rfl⟩
theorem eX4_childHere_137 : Dn mX4_childHere 137 (.bipush 115) 2 139 := ⟨by decide +kernel, rfl⟩
theorem eX4_childHere_139 : Dn mX4_childHere 139 (.invokevirtual 232) 3 142 := ⟨by decide +kernel, rfl⟩
theorem eX4_childHere_142 : Dj mX4_childHere 142 (.ifCond .eq 7) (7) 145 149 := ⟨by decide +kernel, rfl, rfl⟩
theorem eX4_childHere_145 : Dn mX4_childHere 145 (.iconst 1) 1 146 := ⟨by decide +kernel, rfl⟩
theorem eX4_childHere_146 : Dj mX4_childHere 146 (.goto 4) (4) 149 150 := ⟨by decide +kernel, rfl, rfl⟩
theorem eX4_childHere_149 : Dn mX4_childHere 149 (.iconst 0) 1 150 := ⟨by decide +kernel, rfl⟩
theorem eX4_childHere_150 : Dn mX4_childHere 150 (.iload_n 2) 1 151 := ⟨by decide +kernel, rfl⟩
theorem eX4_childHere_151 : Dn mX4_childHere 151 (.iconst 4) 1 152 := ⟨by decide +kernel, rfl⟩
theorem eX4_childHere_152 : Dn mX4_childHere 152 (.invokestatic 59) 3 155 := ⟨by decide +kernel, rfl⟩
theorem eX4_childHere_155 : Dn mX4_childHere 155 (.iconst 0) 1 156 := ⟨by decide +kernel, rfl⟩
theorem eX4_childHere_156 : Dn mX4_childHere 156 (.sipush 999) 3 159 := ⟨by decide +kernel, rfl⟩
theorem eX4_childHere_159 : Dn mX4_childHere 159 (.invokevirtual 257) 3 162 := ⟨by decide +kernel, rfl⟩
theorem eX4_childHere_162 : Dj mX4_childHere 162 (.ifCond .eq 7) (7) 165 169 := ⟨by decide +kernel, rfl, rfl⟩
theorem eX4_childHere_165 : Dn mX4_childHere 165 (.iconst 1) 1 166 := ⟨by decide +kernel, rfl⟩
theorem eX4_childHere_166 : Dj mX4_childHere 166 (.goto 4) (4) 169 170 := ⟨by decide +kernel, rfl, rfl⟩
theorem eX4_childHere_169 : Dn mX4_childHere 169 (.iconst 0) 1 170 := ⟨by decide +kernel, rfl⟩
theorem eX4_childHere_170 : Dn mX4_childHere 170 (.ireturn) 1 171 := ⟨by decide +kernel, rfl⟩
theorem eX4_rightHere_0 : Dn mX4_rightHere 0 (.aload_n 0) 1 1 := ⟨by decide +kernel, rfl⟩
theorem eX4_rightHere_1 : Dn mX4_rightHere 1 (.invokevirtual 251) 3 4 := ⟨by decide +kernel, rfl⟩
theorem eX4_rightHere_4 : Dn mX4_rightHere 4 (.aload_n 0) 1 5 := ⟨by decide +kernel, rfl⟩
theorem eX4_rightHere_5 : Dn mX4_rightHere 5 (.iconst 0) 1 6 := ⟨by decide +kernel, rfl⟩
theorem eX4_rightHere_6 : Dn mX4_rightHere 6 (.bipush 7) 2 8 := ⟨by decide +kernel, rfl⟩
theorem eX4_rightHere_8 : Dn mX4_rightHere 8 (.invokevirtual 254) 3 11 := ⟨by decide +kernel, rfl⟩
theorem eX4_rightHere_11 : Dj mX4_rightHere 11 (.ifCond .eq 24) (24) 14 35 := ⟨by decide +kernel, rfl, rfl⟩
theorem eX4_rightHere_14 : Dn mX4_rightHere 14 (.aload_n 0) 1 15 := ⟨by decide +kernel, rfl⟩
theorem eX4_rightHere_15 : Dn mX4_rightHere 15 (.iconst 1) 1 16 := ⟨by decide +kernel, rfl⟩
theorem eX4_rightHere_16 : Dn mX4_rightHere 16 (.iconst 4) 1 17 := ⟨by decide +kernel, rfl⟩
theorem eX4_rightHere_17 : Dn mX4_rightHere 17 (.aload_n 0) 1 18 := ⟨by decide +kernel, rfl⟩
theorem eX4_rightHere_18 : Dn mX4_rightHere 18 (.getfield 223) 3 21 := ⟨by decide +kernel, rfl⟩
theorem eX4_rightHere_21 : Dn mX4_rightHere 21 (.iadd) 1 22 := ⟨by decide +kernel, rfl⟩
theorem eX4_rightHere_22 : Dn mX4_rightHere 22 (.iconst 0) 1 23 := ⟨by decide +kernel, rfl⟩
theorem eX4_rightHere_23 : Dn mX4_rightHere 23 (.bipush 99) 2 25 := ⟨by decide +kernel, rfl⟩
theorem eX4_rightHere_25 : Dn mX4_rightHere 25 (.invokevirtual 257) 3 28 := ⟨by decide +kernel, rfl⟩
theorem eX4_rightHere_28 : Dj mX4_rightHere 28 (.ifCond .eq 7) (7) 31 35 := ⟨by decide +kernel, rfl, rfl⟩
theorem eX4_rightHere_31 : Dn mX4_rightHere 31 (.iconst 1) 1 32 := ⟨by decide +kernel, rfl⟩
theorem eX4_rightHere_32 : Dj mX4_rightHere 32 (.goto 4) (4) 35 36 := ⟨by decide +kernel, rfl, rfl⟩
theorem eX4_rightHere_35 : Dn mX4_rightHere 35 (.iconst 0) 1 36 := ⟨by decide +kernel, rfl⟩
theorem eX4_rightHere_36 : Dn mX4_rightHere 36 (.ireturn) 1 37 := ⟨by decide +kernel, rfl⟩
theorem eX4_itemHere_0 : Dn mX4_itemHere 0 (.aload_n 0) 1 1 := ⟨by decide +kernel, rfl⟩
theorem eX4_itemHere_1 : Dn mX4_itemHere 1 (.invokevirtual 261) 3 4 := ⟨by decide +kernel, rfl⟩
theorem eX4_itemHere_4 : Dn mX4_itemHere 4 (.istore_n 1) 1 5 := ⟨by decide +kernel, rfl⟩
theorem eX4_itemHere_5 : Dn mX4_itemHere 5 (.iload_n 1) 1 6 := ⟨by decide +kernel, rfl⟩
theorem eX4_itemHere_6 : Dj mX4_itemHere 6 (.ifCond .lt 9) (9) 9 15 := ⟨by decide +kernel, rfl, rfl⟩
theorem eX4_itemHere_9 : Dn mX4_itemHere 9 (.aload_n 0) 1 10 := ⟨by decide +kernel, rfl⟩
theorem eX4_itemHere_10 : Dn mX4_itemHere 10 (.iload_n 1) 1 11 := ⟨by decide +kernel, rfl⟩
theorem eX4_itemHere_11 : Dn mX4_itemHere 11 (.invokevirtual 264) 3 14 := ⟨by decide +kernel, rfl⟩
theorem eX4_itemHere_14 : Dn mX4_itemHere 14 (.ireturn) 1 15 := ⟨by decide +kernel, rfl⟩
theorem eX4_itemHere_15 : Dn mX4_itemHere 15 (.aload_n 0) 1 16 := ⟨by decide +kernel, rfl⟩
theorem eX4_itemHere_16 : Dn mX4_itemHere 16 (.bipush 114) 2 18 := ⟨by decide +kernel, rfl⟩
theorem eX4_itemHere_18 : Dn mX4_itemHere 18 (.bipush 105) 2 20 := ⟨by decide +kernel, rfl⟩
theorem eX4_itemHere_20 : Dn mX4_itemHere 20 (.bipush 103) 2 22 := ⟨by decide +kernel, rfl⟩
theorem eX4_itemHere_22 : Dn mX4_itemHere 22 (.bipush 104) 2 24 := ⟨by decide +kernel, rfl⟩
theorem eX4_itemHere_24 : Dn mX4_itemHere 24 (.bipush 116) 2 26 := ⟨by decide +kernel, rfl⟩
theorem eX4_itemHere_26 : Dn mX4_itemHere 26 (.invokevirtual 240) 3 29 := ⟨by decide +kernel, rfl⟩
theorem eX4_itemHere_29 : Dj mX4_itemHere 29 (.ifCond .eq 8) (8) 32 37 := ⟨by decide +kernel, rfl, rfl⟩
theorem eX4_itemHere_32 : Dn mX4_itemHere 32 (.aload_n 0) 1 33 := ⟨by decide +kernel, rfl⟩
theorem eX4_itemHere_33 : Dn mX4_itemHere 33 (.invokevirtual 267) 3 36 := ⟨by decide +kernel, rfl⟩
theorem eX4_itemHere_36 : Dn mX4_itemHere 36 (.ireturn) 1 37 := ⟨by decide +kernel, rfl⟩
theorem eX4_itemHere_37 : Dn mX4_itemHere 37 (.aload_n 0) 1 38 := ⟨by decide +kernel, rfl⟩
theorem eX4_itemHere_38 : Dn mX4_itemHere 38 (.bipush 108) 2 40 := ⟨by decide +kernel, rfl⟩
theorem eX4_itemHere_40 : Dn mX4_itemHere 40 (.bipush 105) 2 42 := ⟨by decide +kernel, rfl⟩
theorem eX4_itemHere_42 : Dn mX4_itemHere 42 (.bipush 109) 2 44 := ⟨by decide +kernel, rfl⟩
theorem eX4_itemHere_44 : Dn mX4_itemHere 44 (.bipush 105) 2 46 := ⟨by decide +kernel, rfl⟩
theorem eX4_itemHere_46 : Dn mX4_itemHere 46 (.bipush 116) 2 48 := ⟨by decide +kernel, rfl⟩
theorem eX4_itemHere_48 : Dn mX4_itemHere 48 (.invokevirtual 240) 3 51 := ⟨by decide +kernel, rfl⟩
theorem eX4_itemHere_51 : Dj mX4_itemHere 51 (.ifCond .eq 15) (15) 54 66 := ⟨by decide +kernel, rfl, rfl⟩
theorem eX4_itemHere_54 : Dn mX4_itemHere 54 (.aload_n 0) 1 55 := ⟨by decide +kernel, rfl⟩
theorem eX4_itemHere_55 : Dn mX4_itemHere 55 (.iconst 1) 1 56 := ⟨by decide +kernel, rfl⟩
theorem eX4_itemHere_56 : Dn mX4_itemHere 56 (.iconst 3) 1 57 := ⟨by decide +kernel, rfl⟩
theorem eX4_itemHere_57 : Dn mX4_itemHere 57 (.iconst 1) 1 58 := ⟨by decide +kernel, rfl⟩
theorem eX4_itemHere_58 : Dn mX4_itemHere 58 (.bipush 9) 2 60 := ⟨by decide +kernel, rfl⟩
theorem eX4_itemHere_60 : Dn mX4_itemHere 60 (.invokevirtual 257) 3 63 := ⟨by decide +kernel, rfl⟩
theorem eX4_itemHere_63 : Dj mX4_itemHere 63 (.goto 7) (7) 66 70 := ⟨by decide +kernel, rfl, rfl⟩
theorem eX4_itemHere_66 : Dn mX4_itemHere 66 (.aload_n 0) 1 67 := ⟨by decide +kernel, rfl⟩
theorem eX4_itemHere_67 : Dn mX4_itemHere 67 (.invokevirtual 236) 3 70 := ⟨by decide +kernel, rfl⟩
theorem eX4_itemHere_70 : Dn mX4_itemHere 70 (.ireturn) 1 71 := ⟨by decide +kernel, rfl⟩
theorem eX4_text_0 : Dn mX4_text 0 (.aload_n 0) 1 1 := ⟨by decide +kernel, rfl⟩
theorem eX4_text_1 : Dn mX4_text 1 (.getfield 7) 3 4 := ⟨by decide +kernel, rfl⟩
theorem eX4_text_4 : Dn mX4_text 4 (.aload_n 0) 1 5 := ⟨by decide +kernel, rfl⟩
theorem eX4_text_5 : Dn mX4_text 5 (.getfield 16) 3 8 := ⟨by decide +kernel, rfl⟩
theorem eX4_text_8 : Dn mX4_text 8 (.invokestatic 150) 3 11 := ⟨by decide +kernel, rfl⟩
theorem eX4_text_11 : Dn mX4_text 11 (.aload_n 0) 1 12 := ⟨by decide +kernel, rfl⟩
theorem eX4_text_12 : Dn mX4_text 12 (.iconst 0) 1 13 := ⟨by decide +kernel, rfl⟩
theorem eX4_text_13 : Dn mX4_text 13 (.putfield 205) 3 16 := ⟨by decide +kernel, rfl⟩
theorem eX4_text_16 : Dn mX4_text 16 (.aload_n 0) 1 17 := ⟨by decide +kernel, rfl⟩
theorem eX4_text_17 : Dn mX4_text 17 (.invokevirtual 251) 3 20 := ⟨by decide +kernel, rfl⟩
theorem eX4_text_20 : Dn mX4_text 20 (.iconst 1) 1 21 := ⟨by decide +kernel, rfl⟩
theorem eX4_text_21 : Dn mX4_text 21 (.istore_n 1) 1 22 := ⟨by decide +kernel, rfl⟩
theorem eX4_text_22 : Dn mX4_text 22 (.aload_n 0) 1 23 := ⟨by decide +kernel, rfl⟩
theorem eX4_text_23 : Dn mX4_text 23 (.invokevirtual 270) 3 26 := ⟨by decide +kernel, rfl⟩
theorem eX4_text_26 : Dn mX4_text 26 (.istore_n 2) 1 27 := ⟨by decide +kernel, rfl⟩
theorem eX4_text_27 : Dn mX4_text 27 (.iload_n 2) 1 28 := ⟨by decide +kernel, rfl⟩
theorem eX4_text_28 : Dj mX4_text 28 (.ifCond .eq 26) (26) 31 54 := ⟨by decide +kernel, rfl, rfl⟩
theorem eX4_text_31 : Dn mX4_text 31 (.aload_n 0) 1 32 := ⟨by decide +kernel, rfl⟩
theorem eX4_text_32 : Dn mX4_text 32 (.getfield 220) 3 35 := ⟨by decide +kernel, rfl⟩
theorem eX4_text_35 : Dn mX4_text 35 (.iconst 3) 1 36 := ⟨by decide +kernel, rfl⟩
theorem eX4_text_36 : Dj mX4_text 36 (.if_icmp .ne 18) (18) 39 54 := ⟨by decide +kernel, rfl, rfl⟩
theorem eX4_text_39 : Dn mX4_text 39 (.aload_n 0) 1 40 := ⟨by decide +kernel, rfl⟩
theorem eX4_text_40 : Dn mX4_text 40 (.invokevirtual 251) 3 43 := ⟨by decide +kernel, rfl⟩
theorem eX4_text_43 : Dn mX4_text 43 (.aload_n 0) 1 44 := ⟨by decide +kernel, rfl⟩
theorem eX4_text_44 : Dn mX4_text 44 (.invokevirtual 270) 3 47 := ⟨by decide +kernel, rfl⟩
theorem eX4_text_47 : Dn mX4_text 47 (.istore_n 2) 1 48 := ⟨by decide +kernel, rfl⟩
theorem eX4_text_48 : Dn mX4_text 48 (.iinc 1 1) 3 51 := ⟨by decide +kernel, rfl⟩
theorem eX4_text_51 : Dj mX4_text 51 (.goto (-24)) (-24) 54 27 := ⟨by decide +kernel, rfl, rfl⟩
theorem eX4_text_54 : Dn mX4_text 54 (.iload_n 2) 1 55 := ⟨by decide +kernel, rfl⟩
theorem eX4_text_55 : Dj mX4_text 55 (.ifCond .eq 21) (21) 58 76 := ⟨by decide +kernel, rfl, rfl⟩
theorem eX4_text_58 : Dn mX4_text 58 (.aload_n 0) 1 59 := ⟨by decide +kernel, rfl⟩
theorem eX4_text_59 : Dn mX4_text 59 (.getfield 220) 3 62 := ⟨by decide +kernel, rfl⟩
theorem eX4_text_62 : Dj mX4_text 62 (.ifCond .eq 10) (10) 65 72 := ⟨by decide +kernel, rfl, rfl⟩
theorem eX4_text_65 : Dn mX4_text 65 (.aload_n 0) 1 66 := ⟨by decide +kernel, rfl⟩
theorem eX4_text_66 : Dn mX4_text 66 (.invokevirtual 236) 3 69 := ⟨by decide +kernel, rfl⟩
theorem eX4_text_69 : Dj mX4_text 69 (.ifCond .eq 7) (7) 72 76 := ⟨by decide +kernel, rfl, rfl⟩
theorem eX4_text_72 : Dn mX4_text 72 (.iconst 1) 1 73 := ⟨by decide +kernel, rfl⟩
theorem eX4_text_73 : Dj mX4_text 73 (.goto 4) (4) 76 77 := ⟨by decide +kernel, rfl, rfl⟩
theorem eX4_text_76 : Dn mX4_text 76 (.iconst 0) 1 77 := ⟨by decide +kernel, rfl⟩
theorem eX4_text_77 : Dn mX4_text 77 (.istore_n 2) 1 78 := ⟨by decide +kernel, rfl⟩
theorem eX4_text_78 : Dn mX4_text 78 (.aload_n 0) 1 79 := ⟨by decide +kernel, rfl⟩
theorem eX4_text_79 : Dn mX4_text 79 (.iconst 0) 1 80 := ⟨by decide +kernel, rfl⟩
theorem eX4_text_80 : Dn mX4_text 80 (.putfield 202) 3 83 := ⟨by decide +kernel, rfl⟩
theorem eX4_text_83 : Dn mX4_text 83 (.iload_n 2) 1 84 := ⟨by decide +kernel, rfl⟩
theorem eX4_text_84 : Dj mX4_text 84 (.ifCond .ne 14) (14) 87 98 := ⟨by decide +kernel, rfl, rfl⟩
theorem eX4_text_87 : Dn mX4_text 87 (.aload_n 0) 1 88 := ⟨by decide +kernel, rfl⟩
theorem eX4_text_88 : Dn mX4_text 88 (.getfield 16) 3 91 := ⟨by decide +kernel, rfl⟩
theorem eX4_text_91 : Dn mX4_text 91 (.aload_n 0) 1 92 := ⟨by decide +kernel, rfl⟩
theorem eX4_text_92 : Dn mX4_text 92 (.getfield 7) 3 95 := ⟨by decide +kernel, rfl⟩
theorem eX4_text_95 : Dn mX4_text 95 (.invokestatic 150) 3 98 := ⟨by decide +kernel, rfl⟩
theorem eX4_text_98 : Dn mX4_text 98 (.iload_n 2) 1 99 := ⟨by decide +kernel, rfl⟩
theorem eX4_text_99 : Dj mX4_text 99 (.ifCond .eq 7) (7) 102 106 := ⟨by decide +kernel, rfl, rfl⟩
theorem eX4_text_102 : Dn mX4_text 102 (.iload_n 1) 1 103 := ⟨by decide +kernel, rfl⟩
theorem eX4_text_103 : Dj mX4_text 103 (.goto 9) (9) 106 112 := ⟨by decide +kernel, rfl, rfl⟩
theorem eX4_text_106 : Dn mX4_text 106 (.iconst (-1)) 1 107 := ⟨by decide +kernel, rfl⟩
theorem eX4_text_107 : Dn mX4_text 107 (.aload_n 0) 1 108 := ⟨by decide +kernel, rfl⟩
theorem eX4_text_108 : Dn mX4_text 108 (.getfield 226) 3 111 := ⟨by decide +kernel, rfl⟩
theorem eX4_text_111 : Dn mX4_text 111 (.isub) 1 112 := ⟨by decide +kernel, rfl⟩
theorem eX4_text_112 : Dn mX4_text 112 (.ireturn) 1 113 := ⟨by decide +kernel, rfl⟩
theorem eX4_hold_0 : Dn mX4_hold 0 (.iload_n 1) 1 1 := ⟨by decide +kernel, rfl⟩
theorem eX4_hold_1 : Dn mX4_hold 1 (.i2l) 1 2 := ⟨by decide +kernel, rfl⟩
theorem eX4_hold_2 : Dn mX4_hold 2 (.lconst 0) 1 3 := ⟨by decide +kernel, rfl⟩
theorem eX4_hold_3 : Dn mX4_hold 3 (.ldc2_w 57) 3 6 := ⟨by decide +kernel, rfl⟩
theorem eX4_hold_6 : Dn mX4_hold 6 (.invokestatic 49) 3 9 := ⟨by decide +kernel, rfl⟩
theorem eX4_hold_9 : Dj mX4_hold 9 (.ifCond .eq 16) (16) 12 25 := ⟨by decide +kernel, rfl, rfl⟩
theorem eX4_hold_12 : Dn mX4_hold 12 (.iload_n 2) 1 13 := ⟨by decide +kernel, rfl⟩
theorem eX4_hold_13 : Dn mX4_hold 13 (.iconst (-1)) 1 14 := ⟨by decide +kernel, rfl⟩
theorem eX4_hold_14 : Dj mX4_hold 14 (.if_icmp .eq 18) (18) 17 32 := ⟨by decide +kernel, rfl, rfl⟩
theorem eX4_hold_17 : Dn mX4_hold 17 (.aload_n 0) 1 18 := ⟨by decide +kernel, rfl⟩
theorem eX4_hold_18 : Dn mX4_hold 18 (.iload_n 2) 1 19 := ⟨by decide +kernel, rfl⟩
theorem eX4_hold_19 : Dn mX4_hold 19 (.invokevirtual 77) 3 22 := ⟨by decide +kernel, rfl⟩
theorem eX4_hold_22 : Dj mX4_hold 22 (.ifCond .ne 10) (10) 25 32 := ⟨by decide +kernel, rfl, rfl⟩
theorem eX4_hold_25 : Dn mX4_hold 25 (.aload_n 0) 1 26 := ⟨by decide +kernel, rfl⟩
theorem eX4_hold_26 : Dn mX4_hold 26 (.ldc 37) 2 28 := ⟨by decide +kernel, rfl⟩
theorem eX4_hold_28 : Dn mX4_hold 28 (.invokevirtual 39) 3 31 := ⟨by decide +kernel, rfl⟩
theorem eX4_hold_31 : Dn mX4_hold 31 (.ireturn) 1 32 := ⟨by decide +kernel, rfl⟩
theorem eX4_hold_32 : Dn mX4_hold 32 (.aload_n 0) 1 33 := ⟨by decide +kernel, rfl⟩
theorem eX4_hold_33 : Dn mX4_hold 33 (.getfield 7) 3 36 := ⟨by decide +kernel, rfl⟩
theorem eX4_hold_36 : Dn mX4_hold 36 (.bipush 124) 2 38 := ⟨by decide +kernel, rfl⟩
theorem eX4_hold_38 : Dn mX4_hold 38 (.iload_n 1) 1 39 := ⟨by decide +kernel, rfl⟩
theorem eX4_hold_39 : Dn mX4_hold 39 (.iadd) 1 40 := ⟨by decide +kernel, rfl⟩
theorem eX4_hold_40 : Dn mX4_hold 40 (.iload_n 2) 1 41 := ⟨by decide +kernel, rfl⟩
theorem eX4_hold_41 : Dn mX4_hold 41 (.iastore) 1 42 := ⟨by decide +kernel, rfl⟩
theorem eX4_hold_42 : Dn mX4_hold 42 (.iconst 1) 1 43 := ⟨by decide +kernel, rfl⟩
theorem eX4_hold_43 : Dn mX4_hold 43 (.ireturn) 1 44 := ⟨by decide +kernel, rfl⟩
theorem eX4_isUnder_0 : Dn mX4_isUnder 0 (.iload_n 1) 1 1 := ⟨by decide +kernel, rfl⟩
theorem eX4_isUnder_1 : Dj mX4_isUnder 1 (.ifCond .eq 44) (44) 4 45 := ⟨by decide +kernel, rfl, rfl⟩
theorem eX4_isUnder_4 : Dn mX4_isUnder 4 (.iload_n 0) 1 5 := ⟨by decide +kernel, rfl⟩
theorem eX4_isUnder_5 : Dn mX4_isUnder 5 (.iload_n 1) 1 6 := ⟨by decide +kernel, rfl⟩
theorem eX4_isUnder_6 : Dj mX4_isUnder 6 (.if_icmp .eq 39) (39) 9 45 := ⟨by decide +kernel, rfl, rfl⟩
theorem eX4_isUnder_9 : Dn mX4_isUnder 9 (.iload_n 1) 1 10 := ⟨by decide +kernel, rfl⟩
theorem eX4_isUnder_10 : Dn mX4_isUnder 10 (.iconst 2) 1 11 := ⟨by decide +kernel, rfl⟩
theorem eX4_isUnder_11 : Dj mX4_isUnder 11 (.if_icmp .ne 13) (13) 14 24 := ⟨by decide +kernel, rfl, rfl⟩
theorem eX4_isUnder_14 : Dn mX4_isUnder 14 (.iload_n 0) 1 15 := ⟨by decide +kernel, rfl⟩
theorem eX4_isUnder_15 : Dn mX4_isUnder 15 (.iconst 3) 1 16 := ⟨by decide +kernel, rfl⟩
theorem eX4_isUnder_16 : Dj mX4_isUnder 16 (.if_icmp .eq 29) (29) 19 45 := ⟨by decide +kernel, rfl, rfl⟩
theorem eX4_isUnder_19 : Dn mX4_isUnder 19 (.iload_n 0) 1 20 := ⟨by decide +kernel, rfl⟩
theorem eX4_isUnder_20 : Dn mX4_isUnder 20 (.iconst 4) 1 21 := ⟨by decide +kernel, rfl⟩
theorem eX4_isUnder_21 : Dj mX4_isUnder 21 (.if_icmp .eq 24) (24) 24 45 := ⟨by decide +kernel, rfl, rfl⟩
theorem eX4_isUnder_24 : Dn mX4_isUnder 24 (.iload_n 1) 1 25 := ⟨by decide +kernel, rfl⟩
theorem eX4_isUnder_25 : Dn mX4_isUnder 25 (.iconst 3) 1 26 := ⟨by decide +kernel, rfl⟩
theorem eX4_isUnder_26 : Dj mX4_isUnder 26 (.if_icmp .ne 8) (8) 29 34 := ⟨by decide +kernel, rfl, rfl⟩
theorem eX4_isUnder_29 : Dn mX4_isUnder 29 (.iload_n 0) 1 30 := ⟨by decide +kernel, rfl⟩
theorem eX4_isUnder_30 : Dn mX4_isUnder 30 (.iconst 4) 1 31 := ⟨by decide +kernel, rfl⟩
theorem eX4_isUnder_31 : Dj mX4_isUnder 31 (.if_icmp .eq 14) (14) 34 45 := ⟨by decide +kernel, rfl, rfl⟩
theorem eX4_isUnder_34 : Dn mX4_isUnder 34 (.iload_n 1) 1 35 := ⟨by decide +kernel, rfl⟩
theorem eX4_isUnder_35 : Dn mX4_isUnder 35 (.iconst 1) 1 36 := ⟨by decide +kernel, rfl⟩
theorem eX4_isUnder_36 : Dj mX4_isUnder 36 (.if_icmp .ne 13) (13) 39 49 := ⟨by decide +kernel, rfl, rfl⟩
theorem eX4_isUnder_39 : Dn mX4_isUnder 39 (.iload_n 0) 1 40 := ⟨by decide +kernel, rfl⟩
theorem eX4_isUnder_40 : Dn mX4_isUnder 40 (.bipush 6) 2 42 := ⟨by decide +kernel, rfl⟩
theorem eX4_isUnder_42 : Dj mX4_isUnder 42 (.if_icmp .ne 7) (7) 45 49 := ⟨by decide +kernel, rfl, rfl⟩
theorem eX4_isUnder_45 : Dn mX4_isUnder 45 (.iconst 1) 1 46 := ⟨by decide +kernel, rfl⟩
theorem eX4_isUnder_46 : Dj mX4_isUnder 46 (.goto 4) (4) 49 50 := ⟨by decide +kernel, rfl, rfl⟩
theorem eX4_isUnder_49 : Dn mX4_isUnder 49 (.iconst 0) 1 50 := ⟨by decide +kernel, rfl⟩
theorem eX4_isUnder_50 : Dn mX4_isUnder 50 (.ireturn) 1 51 := ⟨by decide +kernel, rfl⟩
theorem eX4_as_0 : Dn mX4_as 0 (.iload_n 1) 1 1 := ⟨by decide +kernel, rfl⟩
theorem eX4_as_1 : Dn mX4_as 1 (.i2l) 1 2 := ⟨by decide +kernel, rfl⟩
theorem eX4_as_2 : Dn mX4_as 2 (.lconst 0) 1 3 := ⟨by decide +kernel, rfl⟩
theorem eX4_as_3 : Dn mX4_as 3 (.ldc2_w 57) 3 6 := ⟨by decide +kernel, rfl⟩
theorem eX4_as_6 : Dn mX4_as 6 (.invokestatic 49) 3 9 := ⟨by decide +kernel, rfl⟩
theorem eX4_as_9 : Dj mX4_as 9 (.ifCond .eq 15) (15) 12 24 := ⟨by decide +kernel, rfl, rfl⟩
theorem eX4_as_12 : Dn mX4_as 12 (.iload_n 2) 1 13 := ⟨by decide +kernel, rfl⟩
theorem eX4_as_13 : Dn mX4_as 13 (.i2l) 1 14 := ⟨by decide +kernel, rfl⟩
theorem eX4_as_14 : Dn mX4_as 14 (.lconst 0) 1 15 := ⟨by decide +kernel, rfl⟩
theorem eX4_as_15 : Dn mX4_as 15 (.ldc2_w 62) 3 18 := ⟨by decide +kernel, rfl⟩
theorem eX4_as_18 : Dn mX4_as 18 (.invokestatic 49) 3 21 := ⟨by decide +kernel, rfl⟩
theorem eX4_as_21 : Dj mX4_as 21 (.ifCond .ne 10) (10) 24 31 := ⟨by decide +kernel, rfl, rfl⟩
theorem eX4_as_24 : Dn mX4_as 24 (.aload_n 0) 1 25 := ⟨by decide +kernel, rfl⟩
theorem eX4_as_25 : Dn mX4_as 25 (.ldc 37) 2 27 := ⟨by decide +kernel, rfl⟩
theorem eX4_as_27 : Dn mX4_as 27 (.invokevirtual 39) 3 30 := ⟨by decide +kernel, rfl⟩
theorem eX4_as_30 : Dn mX4_as 30 (.ireturn) 1 31 := ⟨by decide +kernel, rfl⟩
theorem eX4_as_31 : Dn mX4_as 31 (.aload_n 0) 1 32 := ⟨by decide +kernel, rfl⟩
theorem eX4_as_32 : Dn mX4_as 32 (.getfield 7) 3 35 := ⟨by decide +kernel, rfl⟩
theorem eX4_as_35 : Dn mX4_as 35 (.bipush 124) 2 37 := ⟨by decide +kernel, rfl⟩
theorem eX4_as_37 : Dn mX4_as 37 (.iload_n 1) 1 38 := ⟨by decide +kernel, rfl⟩
theorem eX4_as_38 : Dn mX4_as 38 (.iadd) 1 39 := ⟨by decide +kernel, rfl⟩
theorem eX4_as_39 : Dn mX4_as 39 (.iaload) 1 40 := ⟨by decide +kernel, rfl⟩
theorem eX4_as_40 : Dn mX4_as 40 (.istore_n 3) 1 41 := ⟨by decide +kernel, rfl⟩
theorem eX4_as_41 : Dn mX4_as 41 (.iload_n 3) 1 42 := ⟨by decide +kernel, rfl⟩
theorem eX4_as_42 : Dj mX4_as 42 (.ifCond .ge 11) (11) 45 53 := ⟨by decide +kernel, rfl, rfl⟩
theorem eX4_as_45 : Dn mX4_as 45 (.aload_n 0) 1 46 := ⟨by decide +kernel, rfl⟩
theorem eX4_as_46 : Dn mX4_as 46 (.ldc_w 273) 3 49 := ⟨by decide +kernel, rfl⟩
theorem eX4_as_49 : Dn mX4_as 49 (.invokevirtual 39) 3 52 := ⟨by decide +kernel, rfl⟩
theorem eX4_as_52 : Dn mX4_as 52 (.ireturn) 1 53 := ⟨by decide +kernel, rfl⟩
theorem eX4_as_53 : Dn mX4_as 53 (.aload_n 0) 1 54 := ⟨by decide +kernel, rfl⟩
theorem eX4_as_54 : Dn mX4_as 54 (.iload_n 3) 1 55 := ⟨by decide +kernel, rfl⟩
theorem eX4_as_55 : Dn mX4_as 55 (.iconst 0) 1 56 := ⟨by decide +kernel, rfl⟩
theorem eX4_as_56 : Dn mX4_as 56 (.invokevirtual 71) 3 59 := ⟨by decide +kernel, rfl⟩
theorem eX4_as_59 : Dn mX4_as 59 (.iload_n 2) 1 60 := ⟨by decide +kernel, rfl⟩
theorem eX4_as_60 : Dn mX4_as 60 (.invokestatic 274) 3 63 := ⟨by decide +kernel, rfl⟩
theorem eX4_as_63 : Dj mX4_as 63 (.ifCond .eq 7) (7) 66 70 := ⟨by decide +kernel, rfl, rfl⟩
theorem eX4_as_66 : Dn mX4_as 66 (.iload_n 3) 1 67 := ⟨by decide +kernel, rfl⟩
theorem eX4_as_67 : Dj mX4_as 67 (.goto 10) (10) 70 77 := ⟨by decide +kernel, rfl, rfl⟩
theorem eX4_as_70 : Dn mX4_as 70 (.aload_n 0) 1 71 := ⟨by decide +kernel, rfl⟩
theorem eX4_as_71 : Dn mX4_as 71 (.ldc_w 277) 3 74 := ⟨by decide +kernel, rfl⟩
theorem eX4_as_74 : Dn mX4_as 74 (.invokevirtual 39) 3 77 := ⟨by decide +kernel, rfl⟩
theorem eX4_as_77 : Dn mX4_as 77 (.ireturn) 1 78 := ⟨by decide +kernel, rfl⟩
theorem eX4_isSheet_0 : Dn mX4_isSheet 0 (.iload_n 0) 1 1 := ⟨by decide +kernel, rfl⟩
theorem eX4_isSheet_1 : Dj mX4_isSheet 1 (.ifCond .lt 12) (12) 4 13 := ⟨by decide +kernel, rfl, rfl⟩
theorem eX4_isSheet_4 : Dn mX4_isSheet 4 (.iload_n 0) 1 5 := ⟨by decide +kernel, rfl⟩
theorem eX4_isSheet_5 : Dn mX4_isSheet 5 (.iconst 4) 1 6 := ⟨by decide +kernel, rfl⟩
theorem eX4_isSheet_6 : Dj mX4_isSheet 6 (.if_icmp .ge 7) (7) 9 13 := ⟨by decide +kernel, rfl, rfl⟩
theorem eX4_isSheet_9 : Dn mX4_isSheet 9 (.iconst 1) 1 10 := ⟨by decide +kernel, rfl⟩
theorem eX4_isSheet_10 : Dj mX4_isSheet 10 (.goto 4) (4) 13 14 := ⟨by decide +kernel, rfl, rfl⟩
theorem eX4_isSheet_13 : Dn mX4_isSheet 13 (.iconst 0) 1 14 := ⟨by decide +kernel, rfl⟩
theorem eX4_isSheet_14 : Dn mX4_isSheet 14 (.ireturn) 1 15 := ⟨by decide +kernel, rfl⟩
theorem eX4_sheet_0 : Dn mX4_sheet 0 (.iload_n 1) 1 1 := ⟨by decide +kernel, rfl⟩
theorem eX4_sheet_1 : Dn mX4_sheet 1 (.invokestatic 278) 3 4 := ⟨by decide +kernel, rfl⟩
theorem eX4_sheet_4 : Dj mX4_sheet 4 (.ifCond .eq 25) (25) 7 29 := ⟨by decide +kernel, rfl, rfl⟩
theorem eX4_sheet_7 : Dn mX4_sheet 7 (.iload_n 2) 1 8 := ⟨by decide +kernel, rfl⟩
theorem eX4_sheet_8 : Dj mX4_sheet 8 (.ifCond .eq 28) (28) 11 36 := ⟨by decide +kernel, rfl, rfl⟩
theorem eX4_sheet_11 : Dn mX4_sheet 11 (.iload_n 2) 1 12 := ⟨by decide +kernel, rfl⟩
theorem eX4_sheet_12 : Dn mX4_sheet 12 (.bipush 8) 2 14 := ⟨by decide +kernel, rfl⟩
theorem eX4_sheet_14 : Dj mX4_sheet 14 (.if_icmp .eq 22) (22) 17 36 := ⟨by decide +kernel, rfl, rfl⟩
theorem eX4_sheet_17 : Dn mX4_sheet 17 (.iload_n 2) 1 18 := ⟨by decide +kernel, rfl⟩
theorem eX4_sheet_18 : Dn mX4_sheet 18 (.bipush 16) 2 20 := ⟨by decide +kernel, rfl⟩
theorem eX4_sheet_20 : Dj mX4_sheet 20 (.if_icmp .eq 16) (16) 23 36 := ⟨by decide +kernel, rfl, rfl⟩
theorem eX4_sheet_23 : Dn mX4_sheet 23 (.iload_n 2) 1 24 := ⟨by decide +kernel, rfl⟩
theorem eX4_sheet_24 : Dn mX4_sheet 24 (.bipush 32) 2 26 := ⟨by decide +kernel, rfl⟩
theorem eX4_sheet_26 : Dj mX4_sheet 26 (.if_icmp .eq 10) (10) 29 36 := ⟨by decide +kernel, rfl, rfl⟩
theorem eX4_sheet_29 : Dn mX4_sheet 29 (.aload_n 0) 1 30 := ⟨by decide +kernel, rfl⟩
theorem eX4_sheet_30 : Dn mX4_sheet 30 (.ldc 37) 2 32 := ⟨by decide +kernel, rfl⟩
theorem eX4_sheet_32 : Dn mX4_sheet 32 (.invokevirtual 39) 3 35 := ⟨by decide +kernel, rfl⟩
theorem eX4_sheet_35 : Dn mX4_sheet 35 (.ireturn) 1 36 := ⟨by decide +kernel, rfl⟩
theorem eX4_sheet_36 : Dn mX4_sheet 36 (.iload_n 3) 1 37 := ⟨by decide +kernel, rfl⟩
theorem eX4_sheet_37 : Dj mX4_sheet 37 (.ifCond .ge 11) (11) 40 48 := ⟨by decide +kernel, rfl, rfl⟩
theorem eX4_sheet_40 : Dn mX4_sheet 40 (.aload_n 0) 1 41 := ⟨by decide +kernel, rfl⟩
theorem eX4_sheet_41 : Dn mX4_sheet 41 (.ldc_w 281) 3 44 := ⟨by decide +kernel, rfl⟩
theorem eX4_sheet_44 : Dn mX4_sheet 44 (.invokevirtual 39) 3 47 := ⟨by decide +kernel, rfl⟩
theorem eX4_sheet_47 : Dn mX4_sheet 47 (.ireturn) 1 48 := ⟨by decide +kernel, rfl⟩
theorem eX4_sheet_48 : Dn mX4_sheet 48 (.iload_n 3) 1 49 := ⟨by decide +kernel, rfl⟩
theorem eX4_sheet_49 : Dn mX4_sheet 49 (.bipush 40) 2 51 := ⟨by decide +kernel, rfl⟩
theorem eX4_sheet_51 : Dj mX4_sheet 51 (.if_icmp .le 10) (10) 54 61 := ⟨by decide +kernel, rfl, rfl⟩
theorem eX4_sheet_54 : Dn mX4_sheet 54 (.aload_n 0) 1 55 := ⟨by decide +kernel, rfl⟩
theorem eX4_sheet_55 : Dn mX4_sheet 55 (.ldc 37) 2 57 := ⟨by decide +kernel, rfl⟩
theorem eX4_sheet_57 : Dn mX4_sheet 57 (.invokevirtual 39) 3 60 := ⟨by decide +kernel, rfl⟩
theorem eX4_sheet_60 : Dn mX4_sheet 60 (.ireturn) 1 61 := ⟨by decide +kernel, rfl⟩
theorem eX4_sheet_61 : Dn mX4_sheet 61 (.aload_n 0) 1 62 := ⟨by decide +kernel, rfl⟩
theorem eX4_sheet_62 : Dn mX4_sheet 62 (.getfield 28) 3 65 := ⟨by decide +kernel, rfl⟩
theorem eX4_sheet_65 : Dn mX4_sheet 65 (.iload_n 1) 1 66 := ⟨by decide +kernel, rfl⟩
theorem eX4_sheet_66 : Dn mX4_sheet 66 (.iload_n 2) 1 67 := ⟨by decide +kernel, rfl⟩
theorem eX4_sheet_67 : Dj mX4_sheet 67 (.ifCond .ne 7) (7) 70 74 := ⟨by decide +kernel, rfl, rfl⟩
theorem eX4_sheet_70 : Dn mX4_sheet 70 (.iconst (-1)) 1 71 := ⟨by decide +kernel, rfl⟩
theorem eX4_sheet_71 : Dj mX4_sheet 71 (.goto 4) (4) 74 75 := ⟨by decide +kernel, rfl, rfl⟩
theorem eX4_sheet_74 : Dn mX4_sheet 74 (.iload_n 2) 1 75 := ⟨by decide +kernel, rfl⟩
theorem eX4_sheet_75 : Dn mX4_sheet 75 (.iastore) 1 76 := ⟨by decide +kernel, rfl⟩
theorem eX4_sheet_76 : Dn mX4_sheet 76 (.aload_n 0) 1 77 := ⟨by decide +kernel, rfl⟩
theorem eX4_sheet_77 : Dn mX4_sheet 77 (.getfield 31) 3 80 := ⟨by decide +kernel, rfl⟩
theorem eX4_sheet_80 : Dn mX4_sheet 80 (.iload_n 1) 1 81 := ⟨by decide +kernel, rfl⟩
theorem eX4_sheet_81 : Dn mX4_sheet 81 (.iload_n 2) 1 82 := ⟨by decide +kernel, rfl⟩
theorem eX4_sheet_82 : Dj mX4_sheet 82 (.ifCond .ne 7) (7) 85 89 := ⟨by decide +kernel, rfl, rfl⟩
theorem eX4_sheet_85 : Dn mX4_sheet 85 (.iconst 0) 1 86 := ⟨by decide +kernel, rfl⟩
theorem eX4_sheet_86 : Dj mX4_sheet 86 (.goto 4) (4) 89 90 := ⟨by decide +kernel, rfl, rfl⟩
theorem eX4_sheet_89 : Dn mX4_sheet 89 (.iload_n 3) 1 90 := ⟨by decide +kernel, rfl⟩
theorem eX4_sheet_90 : Dn mX4_sheet 90 (.iastore) 1 91 := ⟨by decide +kernel, rfl⟩
theorem eX4_sheet_91 : Dn mX4_sheet 91 (.iconst 0) 1 92 := ⟨by decide +kernel, rfl⟩
theorem eX4_sheet_92 : Dn mX4_sheet 92 (.istore 4) 2 94 := ⟨by decide +kernel, rfl⟩
theorem eX4_sheet_94 : Dn mX4_sheet 94 (.iload 4) 2 96 := ⟨by decide +kernel, rfl⟩
theorem eX4_sheet_96 : Dn mX4_sheet 96 (.bipush 40) 2 98 := ⟨by decide +kernel, rfl⟩
theorem eX4_sheet_98 : Dj mX4_sheet 98 (.if_icmp .ge 22) (22) 101 120 := ⟨by decide +kernel, rfl, rfl⟩
theorem eX4_sheet_101 : Dn mX4_sheet 101 (.aload_n 0) 1 102 := ⟨by decide +kernel, rfl⟩
theorem eX4_sheet_102 : Dn mX4_sheet 102 (.getfield 34) 3 105 := ⟨by decide +kernel, rfl⟩
theorem eX4_sheet_105 : Dn mX4_sheet 105 (.bipush 40) 2 107 := ⟨by decide +kernel, rfl⟩
theorem eX4_sheet_107 : Dn mX4_sheet 107 (.iload_n 1) 1 108 := ⟨by decide +kernel, rfl⟩
theorem eX4_sheet_108 : Dn mX4_sheet 108 (.imul) 1 109 := ⟨by decide +kernel, rfl⟩
theorem eX4_sheet_109 : Dn mX4_sheet 109 (.iload 4) 2 111 := ⟨by decide +kernel, rfl⟩
theorem eX4_sheet_111 : Dn mX4_sheet 111 (.iadd) 1 112 := ⟨by decide +kernel, rfl⟩
theorem eX4_sheet_112 : Dn mX4_sheet 112 (.iconst 0) 1 113 := ⟨by decide +kernel, rfl⟩
theorem eX4_sheet_113 : Dn mX4_sheet 113 (.iastore) 1 114 := ⟨by decide +kernel, rfl⟩
theorem eX4_sheet_114 : Dn mX4_sheet 114 (.iinc 4 1) 3 117 := ⟨by decide +kernel, rfl⟩
theorem eX4_sheet_117 : Dj mX4_sheet 117 (.goto (-23)) (-23) 120 94 := ⟨by decide +kernel, rfl, rfl⟩
theorem eX4_sheet_120 : Dn mX4_sheet 120 (.aload_n 0) 1 121 := ⟨by decide +kernel, rfl⟩
theorem eX4_sheet_121 : Dn mX4_sheet 121 (.getfield 31) 3 124 := ⟨by decide +kernel, rfl⟩
theorem eX4_sheet_124 : Dn mX4_sheet 124 (.iload_n 1) 1 125 := ⟨by decide +kernel, rfl⟩
theorem eX4_sheet_125 : Dn mX4_sheet 125 (.iaload) 1 126 := ⟨by decide +kernel, rfl⟩
theorem eX4_sheet_126 : Dn mX4_sheet 126 (.ireturn) 1 127 := ⟨by decide +kernel, rfl⟩
theorem eX4_write_0 : Dn mX4_write 0 (.iload_n 1) 1 1 := ⟨by decide +kernel, rfl⟩
theorem eX4_write_1 : Dn mX4_write 1 (.invokestatic 278) 3 4 := ⟨by decide +kernel, rfl⟩
theorem eX4_write_4 : Dj mX4_write 4 (.ifCond .ne 10) (10) 7 14 := ⟨by decide +kernel, rfl, rfl⟩
theorem eX4_write_7 : Dn mX4_write 7 (.aload_n 0) 1 8 := ⟨by decide +kernel, rfl⟩
theorem eX4_write_8 : Dn mX4_write 8 (.ldc 37) 2 10 := ⟨by decide +kernel, rfl⟩
theorem eX4_write_10 : Dn mX4_write 10 (.invokevirtual 39) 3 13 := ⟨by decide +kernel, rfl⟩
theorem eX4_write_13 : Dn mX4_write 13 (.ireturn) 1 14 := ⟨by decide +kernel, rfl⟩
theorem eX4_write_14 : Dn mX4_write 14 (.aload_n 0) 1 15 := ⟨by decide +kernel, rfl⟩
theorem eX4_write_15 : Dn mX4_write 15 (.getfield 28) 3 18 := ⟨by decide +kernel, rfl⟩
theorem eX4_write_18 : Dn mX4_write 18 (.iload_n 1) 1 19 := ⟨by decide +kernel, rfl⟩
theorem eX4_write_19 : Dn mX4_write 19 (.iaload) 1 20 := ⟨by decide +kernel, rfl⟩
theorem eX4_write_20 : Dj mX4_write 20 (.ifCond .ge 11) (11) 23 31 := ⟨by decide +kernel, rfl, rfl⟩
theorem eX4_write_23 : Dn mX4_write 23 (.aload_n 0) 1 24 := ⟨by decide +kernel, rfl⟩
theorem eX4_write_24 : Dn mX4_write 24 (.ldc_w 273) 3 27 := ⟨by decide +kernel, rfl⟩
theorem eX4_write_27 : Dn mX4_write 27 (.invokevirtual 39) 3 30 := ⟨by decide +kernel, rfl⟩
theorem eX4_write_30 : Dn mX4_write 30 (.ireturn) 1 31 := ⟨by decide +kernel, rfl⟩
theorem eX4_write_31 : Dn mX4_write 31 (.iload_n 2) 1 32 := ⟨by decide +kernel, rfl⟩
theorem eX4_write_32 : Dn mX4_write 32 (.i2l) 1 33 := ⟨by decide +kernel, rfl⟩
theorem eX4_write_33 : Dn mX4_write 33 (.lconst 0) 1 34 := ⟨by decide +kernel, rfl⟩
theorem eX4_write_34 : Dn mX4_write 34 (.aload_n 0) 1 35 := ⟨by decide +kernel, rfl⟩
theorem eX4_write_35 : Dn mX4_write 35 (.getfield 31) 3 38 := ⟨by decide +kernel, rfl⟩
theorem eX4_write_38 : Dn mX4_write 38 (.iload_n 1) 1 39 := ⟨by decide +kernel, rfl⟩
theorem eX4_write_39 : Dn mX4_write 39 (.iaload) 1 40 := ⟨by decide +kernel, rfl⟩
theorem eX4_write_40 : Dn mX4_write 40 (.iconst 1) 1 41 := ⟨by decide +kernel, rfl⟩
theorem eX4_write_41 : Dn mX4_write 41 (.isub) 1 42 := ⟨by decide +kernel, rfl⟩
theorem eX4_write_42 : Dn mX4_write 42 (.i2l) 1 43 := ⟨by decide +kernel, rfl⟩
theorem eX4_write_43 : Dn mX4_write 43 (.invokestatic 49) 3 46 := ⟨by decide +kernel, rfl⟩
theorem eX4_write_46 : Dj mX4_write 46 (.ifCond .ne 10) (10) 49 56 := ⟨by decide +kernel, rfl, rfl⟩
theorem eX4_write_49 : Dn mX4_write 49 (.aload_n 0) 1 50 := ⟨by decide +kernel, rfl⟩
theorem eX4_write_50 : Dn mX4_write 50 (.ldc 37) 2 52 := ⟨by decide +kernel, rfl⟩
theorem eX4_write_52 : Dn mX4_write 52 (.invokevirtual 39) 3 55 := ⟨by decide +kernel, rfl⟩
theorem eX4_write_55 : Dn mX4_write 55 (.ireturn) 1 56 := ⟨by decide +kernel, rfl⟩
theorem eX4_write_56 : Dn mX4_write 56 (.aload_n 0) 1 57 := ⟨by decide +kernel, rfl⟩
theorem eX4_write_57 : Dn mX4_write 57 (.getfield 34) 3 60 := ⟨by decide +kernel, rfl⟩
theorem eX4_write_60 : Dn mX4_write 60 (.bipush 40) 2 62 := ⟨by decide +kernel, rfl⟩
theorem eX4_write_62 : Dn mX4_write 62 (.iload_n 1) 1 63 := ⟨by decide +kernel, rfl⟩
theorem eX4_write_63 : Dn mX4_write 63 (.imul) 1 64 := ⟨by decide +kernel, rfl⟩
theorem eX4_write_64 : Dn mX4_write 64 (.iload_n 2) 1 65 := ⟨by decide +kernel, rfl⟩
theorem eX4_write_65 : Dn mX4_write 65 (.iadd) 1 66 := ⟨by decide +kernel, rfl⟩
theorem eX4_write_66 : Dn mX4_write 66 (.aload_n 0) 1 67 := ⟨by decide +kernel, rfl⟩
theorem eX4_write_67 : Dn mX4_write 67 (.getfield 28) 3 70 := ⟨by decide +kernel, rfl⟩
theorem eX4_write_70 : Dn mX4_write 70 (.iload_n 1) 1 71 := ⟨by decide +kernel, rfl⟩
theorem eX4_write_71 : Dn mX4_write 71 (.iaload) 1 72 := ⟨by decide +kernel, rfl⟩
theorem eX4_write_72 : Dn mX4_write 72 (.bipush 8) 2 74 := ⟨by decide +kernel, rfl⟩
theorem eX4_write_74 : Dj mX4_write 74 (.if_icmp .ne 8) (8) 77 82 := ⟨by decide +kernel, rfl, rfl⟩
theorem eX4_write_77 : Dn mX4_write 77 (.iload_n 3) 1 78 := ⟨by decide +kernel, rfl⟩
theorem eX4_write_78 : Dn mX4_write 78 (.i2b) 1 79 := ⟨by decide +kernel, rfl⟩
theorem eX4_write_79 : Dj mX4_write 79 (.goto 20) (20) 82 99 := ⟨by decide +kernel, rfl, rfl⟩
theorem eX4_write_82 : Dn mX4_write 82 (.aload_n 0) 1 83 := ⟨by decide +kernel, rfl⟩
theorem eX4_write_83 : Dn mX4_write 83 (.getfield 28) 3 86 := ⟨by decide +kernel, rfl⟩
theorem eX4_write_86 : Dn mX4_write 86 (.iload_n 1) 1 87 := ⟨by decide +kernel, rfl⟩
theorem eX4_write_87 : Dn mX4_write 87 (.iaload) 1 88 := ⟨by decide +kernel, rfl⟩
theorem eX4_write_88 : Dn mX4_write 88 (.bipush 16) 2 90 := ⟨by decide +kernel, rfl⟩
theorem eX4_write_90 : Dj mX4_write 90 (.if_icmp .ne 8) (8) 93 98 := ⟨by decide +kernel, rfl, rfl⟩
theorem eX4_write_93 : Dn mX4_write 93 (.iload_n 3) 1 94 := ⟨by decide +kernel, rfl⟩
theorem eX4_write_94 : Dn mX4_write 94 (.i2s) 1 95 := ⟨by decide +kernel, rfl⟩
theorem eX4_write_95 : Dj mX4_write 95 (.goto 4) (4) 98 99 := ⟨by decide +kernel, rfl, rfl⟩
theorem eX4_write_98 : Dn mX4_write 98 (.iload_n 3) 1 99 := ⟨by decide +kernel, rfl⟩
theorem eX4_write_99 : Dn mX4_write 99 (.iastore) 1 100 := ⟨by decide +kernel, rfl⟩
theorem eX4_write_100 : Dn mX4_write 100 (.iconst 1) 1 101 := ⟨by decide +kernel, rfl⟩
theorem eX4_write_101 : Dn mX4_write 101 (.ireturn) 1 102 := ⟨by decide +kernel, rfl⟩
theorem eX4_copy_0 : Dn mX4_copy 0 (.iload_n 1) 1 1 := ⟨by decide +kernel, rfl⟩
theorem eX4_copy_1 : Dn mX4_copy 1 (.invokestatic 278) 3 4 := ⟨by decide +kernel, rfl⟩
theorem eX4_copy_4 : Dj mX4_copy 4 (.ifCond .eq 10) (10) 7 14 := ⟨by decide +kernel, rfl, rfl⟩
theorem eX4_copy_7 : Dn mX4_copy 7 (.iload_n 3) 1 8 := ⟨by decide +kernel, rfl⟩
theorem eX4_copy_8 : Dn mX4_copy 8 (.invokestatic 278) 3 11 := ⟨by decide +kernel, rfl⟩
theorem eX4_copy_11 : Dj mX4_copy 11 (.ifCond .ne 10) (10) 14 21 := ⟨by decide +kernel, rfl, rfl⟩
theorem eX4_copy_14 : Dn mX4_copy 14 (.aload_n 0) 1 15 := ⟨by decide +kernel, rfl⟩
theorem eX4_copy_15 : Dn mX4_copy 15 (.ldc 37) 2 17 := ⟨by decide +kernel, rfl⟩
theorem eX4_copy_17 : Dn mX4_copy 17 (.invokevirtual 39) 3 20 := ⟨by decide +kernel, rfl⟩
theorem eX4_copy_20 : Dn mX4_copy 20 (.ireturn) 1 21 := ⟨by decide +kernel, rfl⟩
theorem eX4_copy_21 : Dn mX4_copy 21 (.aload_n 0) 1 22 := ⟨by decide +kernel, rfl⟩
theorem eX4_copy_22 : Dn mX4_copy 22 (.getfield 28) 3 25 := ⟨by decide +kernel, rfl⟩
theorem eX4_copy_25 : Dn mX4_copy 25 (.iload_n 1) 1 26 := ⟨by decide +kernel, rfl⟩
theorem eX4_copy_26 : Dn mX4_copy 26 (.iaload) 1 27 := ⟨by decide +kernel, rfl⟩
theorem eX4_copy_27 : Dj mX4_copy 27 (.ifCond .lt 12) (12) 30 39 := ⟨by decide +kernel, rfl, rfl⟩
theorem eX4_copy_30 : Dn mX4_copy 30 (.aload_n 0) 1 31 := ⟨by decide +kernel, rfl⟩
theorem eX4_copy_31 : Dn mX4_copy 31 (.getfield 28) 3 34 := ⟨by decide +kernel, rfl⟩
theorem eX4_copy_34 : Dn mX4_copy 34 (.iload_n 3) 1 35 := ⟨by decide +kernel, rfl⟩
theorem eX4_copy_35 : Dn mX4_copy 35 (.iaload) 1 36 := ⟨by decide +kernel, rfl⟩
theorem eX4_copy_36 : Dj mX4_copy 36 (.ifCond .ge 11) (11) 39 47 := ⟨by decide +kernel, rfl, rfl⟩
theorem eX4_copy_39 : Dn mX4_copy 39 (.aload_n 0) 1 40 := ⟨by decide +kernel, rfl⟩
theorem eX4_copy_40 : Dn mX4_copy 40 (.ldc_w 273) 3 43 := ⟨by decide +kernel, rfl⟩
theorem eX4_copy_43 : Dn mX4_copy 43 (.invokevirtual 39) 3 46 := ⟨by decide +kernel, rfl⟩
theorem eX4_copy_46 : Dn mX4_copy 46 (.ireturn) 1 47 := ⟨by decide +kernel, rfl⟩
theorem eX4_copy_47 : Dn mX4_copy 47 (.aload_n 0) 1 48 := ⟨by decide +kernel, rfl⟩
theorem eX4_copy_48 : Dn mX4_copy 48 (.getfield 28) 3 51 := ⟨by decide +kernel, rfl⟩
theorem eX4_copy_51 : Dn mX4_copy 51 (.iload_n 1) 1 52 := ⟨by decide +kernel, rfl⟩
theorem eX4_copy_52 : Dn mX4_copy 52 (.iaload) 1 53 := ⟨by decide +kernel, rfl⟩
theorem eX4_copy_53 : Dn mX4_copy 53 (.aload_n 0) 1 54 := ⟨by decide +kernel, rfl⟩
theorem eX4_copy_54 : Dn mX4_copy 54 (.getfield 28) 3 57 := ⟨by decide +kernel, rfl⟩
theorem eX4_copy_57 : Dn mX4_copy 57 (.iload_n 3) 1 58 := ⟨by decide +kernel, rfl⟩
theorem eX4_copy_58 : Dn mX4_copy 58 (.iaload) 1 59 := ⟨by decide +kernel, rfl⟩
theorem eX4_copy_59 : Dj mX4_copy 59 (.if_icmp .eq 11) (11) 62 70 := ⟨by decide +kernel, rfl, rfl⟩
theorem eX4_copy_62 : Dn mX4_copy 62 (.aload_n 0) 1 63 := ⟨by decide +kernel, rfl⟩
theorem eX4_copy_63 : Dn mX4_copy 63 (.ldc_w 277) 3 66 := ⟨by decide +kernel, rfl⟩
theorem eX4_copy_66 : Dn mX4_copy 66 (.invokevirtual 39) 3 69 := ⟨by decide +kernel, rfl⟩
theorem eX4_copy_69 : Dn mX4_copy 69 (.ireturn) 1 70 := ⟨by decide +kernel, rfl⟩
theorem eX4_copy_70 : Dn mX4_copy 70 (.iload_n 2) 1 71 := ⟨by decide +kernel, rfl⟩
theorem eX4_copy_71 : Dj mX4_copy 71 (.ifCond .lt 40) (40) 74 111 := ⟨by decide +kernel, rfl, rfl⟩
theorem eX4_copy_74 : Dn mX4_copy 74 (.iload 4) 2 76 := ⟨by decide +kernel, rfl⟩
theorem eX4_copy_76 : Dj mX4_copy 76 (.ifCond .lt 35) (35) 79 111 := ⟨by decide +kernel, rfl, rfl⟩
theorem eX4_copy_79 : Dn mX4_copy 79 (.iload 5) 2 81 := ⟨by decide +kernel, rfl⟩
theorem eX4_copy_81 : Dj mX4_copy 81 (.ifCond .lt 30) (30) 84 111 := ⟨by decide +kernel, rfl, rfl⟩
theorem eX4_copy_84 : Dn mX4_copy 84 (.iload 5) 2 86 := ⟨by decide +kernel, rfl⟩
theorem eX4_copy_86 : Dn mX4_copy 86 (.aload_n 0) 1 87 := ⟨by decide +kernel, rfl⟩
theorem eX4_copy_87 : Dn mX4_copy 87 (.getfield 31) 3 90 := ⟨by decide +kernel, rfl⟩
theorem eX4_copy_90 : Dn mX4_copy 90 (.iload_n 1) 1 91 := ⟨by decide +kernel, rfl⟩
theorem eX4_copy_91 : Dn mX4_copy 91 (.iaload) 1 92 := ⟨by decide +kernel, rfl⟩
theorem eX4_copy_92 : Dn mX4_copy 92 (.iload_n 2) 1 93 := ⟨by decide +kernel, rfl⟩
theorem eX4_copy_93 : Dn mX4_copy 93 (.isub) 1 94 := ⟨by decide +kernel, rfl⟩
theorem eX4_copy_94 : Dj mX4_copy 94 (.if_icmp .gt 17) (17) 97 111 := ⟨by decide +kernel, rfl, rfl⟩
theorem eX4_copy_97 : Dn mX4_copy 97 (.iload 5) 2 99 := ⟨by decide +kernel, rfl⟩
theorem eX4_copy_99 : Dn mX4_copy 99 (.aload_n 0) 1 100 := ⟨by decide +kernel, rfl⟩
theorem eX4_copy_100 : Dn mX4_copy 100 (.getfield 31) 3 103 := ⟨by decide +kernel, rfl⟩
theorem eX4_copy_103 : Dn mX4_copy 103 (.iload_n 3) 1 104 := ⟨by decide +kernel, rfl⟩
theorem eX4_copy_104 : Dn mX4_copy 104 (.iaload) 1 105 := ⟨by decide +kernel, rfl⟩
theorem eX4_copy_105 : Dn mX4_copy 105 (.iload 4) 2 107 := ⟨by decide +kernel, rfl⟩
theorem eX4_copy_107 : Dn mX4_copy 107 (.isub) 1 108 := ⟨by decide +kernel, rfl⟩
theorem eX4_copy_108 : Dj mX4_copy 108 (.if_icmp .le 10) (10) 111 118 := ⟨by decide +kernel, rfl, rfl⟩
theorem eX4_copy_111 : Dn mX4_copy 111 (.aload_n 0) 1 112 := ⟨by decide +kernel, rfl⟩
theorem eX4_copy_112 : Dn mX4_copy 112 (.ldc 37) 2 114 := ⟨by decide +kernel, rfl⟩
theorem eX4_copy_114 : Dn mX4_copy 114 (.invokevirtual 39) 3 117 := ⟨by decide +kernel, rfl⟩
theorem eX4_copy_117 : Dn mX4_copy 117 (.ireturn) 1 118 := ⟨by decide +kernel, rfl⟩
theorem eX4_copy_118 : Dn mX4_copy 118 (.bipush 40) 2 120 := ⟨by decide +kernel, rfl⟩
theorem eX4_copy_120 : Dn mX4_copy 120 (.iload_n 1) 1 121 := ⟨by decide +kernel, rfl⟩
theorem eX4_copy_121 : Dn mX4_copy 121 (.imul) 1 122 := ⟨by decide +kernel, rfl⟩
theorem eX4_copy_122 : Dn mX4_copy 122 (.iload_n 2) 1 123 := ⟨by decide +kernel, rfl⟩
theorem eX4_copy_123 : Dn mX4_copy 123 (.iadd) 1 124 := ⟨by decide +kernel, rfl⟩
theorem eX4_copy_124 : Dn mX4_copy 124 (.istore 6) 2 126 := ⟨by decide +kernel, rfl⟩
theorem eX4_copy_126 : Dn mX4_copy 126 (.bipush 40) 2 128 := ⟨by decide +kernel, rfl⟩
theorem eX4_copy_128 : Dn mX4_copy 128 (.iload_n 3) 1 129 := ⟨by decide +kernel, rfl⟩
theorem eX4_copy_129 : Dn mX4_copy 129 (.imul) 1 130 := ⟨by decide +kernel, rfl⟩
theorem eX4_copy_130 : Dn mX4_copy 130 (.iload 4) 2 132 := ⟨by decide +kernel, rfl⟩
theorem eX4_copy_132 : Dn mX4_copy 132 (.iadd) 1 133 := ⟨by decide +kernel, rfl⟩
theorem eX4_copy_133 : Dn mX4_copy 133 (.istore 7) 2 135 := ⟨by decide +kernel, rfl⟩
theorem eX4_copy_135 : Dn mX4_copy 135 (.iconst 0) 1 136 := ⟨by decide +kernel, rfl⟩
theorem eX4_copy_136 : Dn mX4_copy 136 (.istore 8) 2 138 := ⟨by decide +kernel, rfl⟩
theorem eX4_copy_138 : Dn mX4_copy 138 (.iload 8) 2 140 := ⟨by decide +kernel, rfl⟩
theorem eX4_copy_140 : Dn mX4_copy 140 (.iload 5) 2 142 := ⟨by decide +kernel, rfl⟩
theorem eX4_copy_142 : Dj mX4_copy 142 (.if_icmp .ge 50) (50) 145 192 := ⟨by decide +kernel, rfl, rfl⟩
theorem eX4_copy_145 : Dn mX4_copy 145 (.iload 6) 2 147 := ⟨by decide +kernel, rfl⟩
theorem eX4_copy_147 : Dn mX4_copy 147 (.iload 7) 2 149 := ⟨by decide +kernel, rfl⟩
theorem eX4_copy_149 : Dj mX4_copy 149 (.if_icmp .ge 13) (13) 152 162 := ⟨by decide +kernel, rfl, rfl⟩
theorem eX4_copy_152 : Dn mX4_copy 152 (.iload 5) 2 154 := ⟨by decide +kernel, rfl⟩
theorem eX4_copy_154 : Dn mX4_copy 154 (.iconst 1) 1 155 := ⟨by decide +kernel, rfl⟩
theorem eX4_copy_155 : Dn mX4_copy 155 (.isub) 1 156 := ⟨by decide +kernel, rfl⟩
theorem eX4_copy_156 : Dn mX4_copy 156 (.iload 8) 2 158 := ⟨by decide +kernel, rfl⟩
theorem eX4_copy_158 : Dn mX4_copy 158 (.isub) 1 159 := ⟨by decide +kernel, rfl⟩
theorem eX4_copy_159 : Dj mX4_copy 159 (.goto 5) (5) 162 164 := ⟨by decide +kernel, rfl, rfl⟩
theorem eX4_copy_162 : Dn mX4_copy 162 (.iload 8) 2 164 := ⟨by decide +kernel, rfl⟩
theorem eX4_copy_164 : Dn mX4_copy 164 (.istore 9) 2 166 := ⟨by decide +kernel, rfl⟩
theorem eX4_copy_166 : Dn mX4_copy 166 (.aload_n 0) 1 167 := ⟨by decide +kernel, rfl⟩
theorem eX4_copy_167 : Dn mX4_copy 167 (.getfield 34) 3 170 := ⟨by decide +kernel, rfl⟩
theorem eX4_copy_170 : Dn mX4_copy 170 (.iload 7) 2 172 := ⟨by decide +kernel, rfl⟩
theorem eX4_copy_172 : Dn mX4_copy 172 (.iload 9) 2 174 := ⟨by decide +kernel, rfl⟩
theorem eX4_copy_174 : Dn mX4_copy 174 (.iadd) 1 175 := ⟨by decide +kernel, rfl⟩
theorem eX4_copy_175 : Dn mX4_copy 175 (.aload_n 0) 1 176 := ⟨by decide +kernel, rfl⟩
theorem eX4_copy_176 : Dn mX4_copy 176 (.getfield 34) 3 179 := ⟨by decide +kernel, rfl⟩
theorem eX4_copy_179 : Dn mX4_copy 179 (.iload 6) 2 181 := ⟨by decide +kernel, rfl⟩
theorem eX4_copy_181 : Dn mX4_copy 181 (.iload 9) 2 183 := ⟨by decide +kernel, rfl⟩
theorem eX4_copy_183 : Dn mX4_copy 183 (.iadd) 1 184 := ⟨by decide +kernel, rfl⟩
theorem eX4_copy_184 : Dn mX4_copy 184 (.iaload) 1 185 := ⟨by decide +kernel, rfl⟩
theorem eX4_copy_185 : Dn mX4_copy 185 (.iastore) 1 186 := ⟨by decide +kernel, rfl⟩
theorem eX4_copy_186 : Dn mX4_copy 186 (.iinc 8 1) 3 189 := ⟨by decide +kernel, rfl⟩
theorem eX4_copy_189 : Dj mX4_copy 189 (.goto (-51)) (-51) 192 138 := ⟨by decide +kernel, rfl, rfl⟩
theorem eX4_copy_192 : Dn mX4_copy 192 (.iload 5) 2 194 := ⟨by decide +kernel, rfl⟩
theorem eX4_copy_194 : Dn mX4_copy 194 (.ireturn) 1 195 := ⟨by decide +kernel, rfl⟩
theorem eX4_wants_0 : Dn mX4_wants 0 (.iload_n 1) 1 1 := ⟨by decide +kernel, rfl⟩
theorem eX4_wants_1 : Dn mX4_wants 1 (.invokestatic 278) 3 4 := ⟨by decide +kernel, rfl⟩
theorem eX4_wants_4 : Dj mX4_wants 4 (.ifCond .ne 8) (8) 7 12 := ⟨by decide +kernel, rfl, rfl⟩
theorem eX4_wants_7 : Dn mX4_wants 7 (.ldc 37) 2 9 := ⟨by decide +kernel, rfl⟩
theorem eX4_wants_9 : Dj mX4_wants 9 (.goto 19) (19) 12 28 := ⟨by decide +kernel, rfl, rfl⟩
theorem eX4_wants_12 : Dn mX4_wants 12 (.aload_n 0) 1 13 := ⟨by decide +kernel, rfl⟩
theorem eX4_wants_13 : Dn mX4_wants 13 (.getfield 28) 3 16 := ⟨by decide +kernel, rfl⟩
theorem eX4_wants_16 : Dn mX4_wants 16 (.iload_n 1) 1 17 := ⟨by decide +kernel, rfl⟩
theorem eX4_wants_17 : Dn mX4_wants 17 (.iaload) 1 18 := ⟨by decide +kernel, rfl⟩
theorem eX4_wants_18 : Dj mX4_wants 18 (.ifCond .ge 9) (9) 21 27 := ⟨by decide +kernel, rfl, rfl⟩
theorem eX4_wants_21 : Dn mX4_wants 21 (.ldc_w 273) 3 24 := ⟨by decide +kernel, rfl⟩
theorem eX4_wants_24 : Dj mX4_wants 24 (.goto 4) (4) 27 28 := ⟨by decide +kernel, rfl, rfl⟩
theorem eX4_wants_27 : Dn mX4_wants 27 (.iconst 0) 1 28 := ⟨by decide +kernel, rfl⟩
theorem eX4_wants_28 : Dn mX4_wants 28 (.ireturn) 1 29 := ⟨by decide +kernel, rfl⟩
theorem eX4_load_0 : Dn mX4_load 0 (.aload_n 0) 1 1 := ⟨by decide +kernel, rfl⟩
theorem eX4_load_1 : Dn mX4_load 1 (.iload_n 1) 1 2 := ⟨by decide +kernel, rfl⟩
theorem eX4_load_2 : Dn mX4_load 2 (.invokevirtual 175) 3 5 := ⟨by decide +kernel, rfl⟩
theorem eX4_load_5 : Dj mX4_load 5 (.ifCond .eq 13) (13) 8 18 := ⟨by decide +kernel, rfl, rfl⟩
theorem eX4_load_8 : Dn mX4_load 8 (.aload_n 0) 1 9 := ⟨by decide +kernel, rfl⟩
theorem eX4_load_9 : Dn mX4_load 9 (.aload_n 0) 1 10 := ⟨by decide +kernel, rfl⟩
theorem eX4_load_10 : Dn mX4_load 10 (.iload_n 1) 1 11 := ⟨by decide +kernel, rfl⟩
theorem eX4_load_11 : Dn mX4_load 11 (.invokevirtual 175) 3 14 := ⟨by decide +kernel, rfl⟩
theorem eX4_load_14 : Dn mX4_load 14 (.invokevirtual 39) 3 17 := ⟨by decide +kernel, rfl⟩
theorem eX4_load_17 : Dn mX4_load 17 (.ireturn) 1 18 := ⟨by decide +kernel, rfl⟩
theorem eX4_load_18 : Dn mX4_load 18 (.iconst 0) 1 19 := ⟨by decide +kernel, rfl⟩
theorem eX4_load_19 : Dn mX4_load 19 (.istore_n 2) 1 20 := ⟨by decide +kernel, rfl⟩
theorem eX4_load_20 : Dn mX4_load 20 (.iload_n 2) 1 21 := ⟨by decide +kernel, rfl⟩
theorem eX4_load_21 : Dn mX4_load 21 (.aload_n 0) 1 22 := ⟨by decide +kernel, rfl⟩
theorem eX4_load_22 : Dn mX4_load 22 (.getfield 31) 3 25 := ⟨by decide +kernel, rfl⟩
theorem eX4_load_25 : Dn mX4_load 25 (.iload_n 1) 1 26 := ⟨by decide +kernel, rfl⟩
theorem eX4_load_26 : Dn mX4_load 26 (.iaload) 1 27 := ⟨by decide +kernel, rfl⟩
theorem eX4_load_27 : Dj mX4_load 27 (.if_icmp .ge 56) (56) 30 83 := ⟨by decide +kernel, rfl, rfl⟩
theorem eX4_load_30 : Dn mX4_load 30 (.iload_n 2) 1 31 := ⟨by decide +kernel, rfl⟩
theorem eX4_load_31 : Dn mX4_load 31 (.bipush 8) 2 33 := ⟨by decide +kernel, rfl⟩
theorem eX4_load_33 : Dj mX4_load 33 (.if_icmp .ge 50) (50) 36 83 := ⟨by decide +kernel, rfl, rfl⟩
theorem eX4_load_36 : Dn mX4_load 36 (.aload_n 0) 1 37 := ⟨by decide +kernel, rfl⟩
theorem eX4_load_37 : Dn mX4_load 37 (.getfield 34) 3 40 := ⟨by decide +kernel, rfl⟩
theorem eX4_load_40 : Dn mX4_load 40 (.bipush 40) 2 42 := ⟨by decide +kernel, rfl⟩
theorem eX4_load_42 : Dn mX4_load 42 (.iload_n 1) 1 43 := ⟨by decide +kernel, rfl⟩
theorem eX4_load_43 : Dn mX4_load 43 (.imul) 1 44 := ⟨by decide +kernel, rfl⟩
theorem eX4_load_44 : Dn mX4_load 44 (.iload_n 2) 1 45 := ⟨by decide +kernel, rfl⟩
theorem eX4_load_45 : Dn mX4_load 45 (.iadd) 1 46 := ⟨by decide +kernel, rfl⟩
theorem eX4_load_46 : Dn mX4_load 46 (.iaload) 1 47 := ⟨by decide +kernel, rfl⟩
theorem eX4_load_47 : Dn mX4_load 47 (.i2l) 1 48 := ⟨by decide +kernel, rfl⟩
theorem eX4_load_48 : Dn mX4_load 48 (.lconst 0) 1 49 := ⟨by decide +kernel, rfl⟩
theorem eX4_load_49 : Dn mX4_load 49 (.ldc2_w 47) 3 52 := ⟨by decide +kernel, rfl⟩
theorem eX4_load_52 : Dn mX4_load 52 (.invokestatic 49) 3 55 := ⟨by decide +kernel, rfl⟩
theorem eX4_load_55 : Dj mX4_load 55 (.ifCond .eq 28) (28) 58 83 := ⟨by decide +kernel, rfl, rfl⟩
theorem eX4_load_58 : Dn mX4_load 58 (.aload_n 0) 1 59 := ⟨by decide +kernel, rfl⟩
theorem eX4_load_59 : Dn mX4_load 59 (.getfield 7) 3 62 := ⟨by decide +kernel, rfl⟩
theorem eX4_load_62 : Dn mX4_load 62 (.iconst 4) 1 63 := ⟨by decide +kernel, rfl⟩
theorem eX4_load_63 : Dn mX4_load 63 (.iload_n 2) 1 64 := ⟨by decide +kernel, rfl⟩
theorem eX4_load_64 : Dn mX4_load 64 (.iadd) 1 65 := ⟨by decide +kernel, rfl⟩
theorem eX4_load_65 : Dn mX4_load 65 (.aload_n 0) 1 66 := ⟨by decide +kernel, rfl⟩
theorem eX4_load_66 : Dn mX4_load 66 (.getfield 34) 3 69 := ⟨by decide +kernel, rfl⟩
theorem eX4_load_69 : Dn mX4_load 69 (.bipush 40) 2 71 := ⟨by decide +kernel, rfl⟩
theorem eX4_load_71 : Dn mX4_load 71 (.iload_n 1) 1 72 := ⟨by decide +kernel, rfl⟩
theorem eX4_load_72 : Dn mX4_load 72 (.imul) 1 73 := ⟨by decide +kernel, rfl⟩
theorem eX4_load_73 : Dn mX4_load 73 (.iload_n 2) 1 74 := ⟨by decide +kernel, rfl⟩
theorem eX4_load_74 : Dn mX4_load 74 (.iadd) 1 75 := ⟨by decide +kernel, rfl⟩
theorem eX4_load_75 : Dn mX4_load 75 (.iaload) 1 76 := ⟨by decide +kernel, rfl⟩
theorem eX4_load_76 : Dn mX4_load 76 (.iastore) 1 77 := ⟨by decide +kernel, rfl⟩
theorem eX4_load_77 : Dn mX4_load 77 (.iinc 2 1) 3 80 := ⟨by decide +kernel, rfl⟩
theorem eX4_load_80 : Dj mX4_load 80 (.goto (-60)) (-60) 83 20 := ⟨by decide +kernel, rfl, rfl⟩
theorem eX4_load_83 : Dn mX4_load 83 (.iload_n 2) 1 84 := ⟨by decide +kernel, rfl⟩
theorem eX4_load_84 : Dn mX4_load 84 (.ireturn) 1 85 := ⟨by decide +kernel, rfl⟩
theorem eX4_judge_0 : Dn mX4_judge 0 (.aload_n 0) 1 1 := ⟨by decide +kernel, rfl⟩
theorem eX4_judge_1 : Dn mX4_judge 1 (.iload_n 1) 1 2 := ⟨by decide +kernel, rfl⟩
theorem eX4_judge_2 : Dn mX4_judge 2 (.invokevirtual 175) 3 5 := ⟨by decide +kernel, rfl⟩
theorem eX4_judge_5 : Dj mX4_judge 5 (.ifCond .eq 13) (13) 8 18 := ⟨by decide +kernel, rfl, rfl⟩
theorem eX4_judge_8 : Dn mX4_judge 8 (.aload_n 0) 1 9 := ⟨by decide +kernel, rfl⟩
theorem eX4_judge_9 : Dn mX4_judge 9 (.aload_n 0) 1 10 := ⟨by decide +kernel, rfl⟩
theorem eX4_judge_10 : Dn mX4_judge 10 (.iload_n 1) 1 11 := ⟨by decide +kernel, rfl⟩
theorem eX4_judge_11 : Dn mX4_judge 11 (.invokevirtual 175) 3 14 := ⟨by decide +kernel, rfl⟩
theorem eX4_judge_14 : Dn mX4_judge 14 (.invokevirtual 39) 3 17 := ⟨by decide +kernel, rfl⟩
theorem eX4_judge_17 : Dn mX4_judge 17 (.ireturn) 1 18 := ⟨by decide +kernel, rfl⟩
theorem eX4_judge_18 : Dn mX4_judge 18 (.iconst 0) 1 19 := ⟨by decide +kernel, rfl⟩
theorem eX4_judge_19 : Dn mX4_judge 19 (.istore_n 2) 1 20 := ⟨by decide +kernel, rfl⟩
theorem eX4_judge_20 : Dn mX4_judge 20 (.iload_n 2) 1 21 := ⟨by decide +kernel, rfl⟩
theorem eX4_judge_21 : Dn mX4_judge 21 (.aload_n 0) 1 22 := ⟨by decide +kernel, rfl⟩
theorem eX4_judge_22 : Dn mX4_judge 22 (.getfield 31) 3 25 := ⟨by decide +kernel, rfl⟩
theorem eX4_judge_25 : Dn mX4_judge 25 (.iload_n 1) 1 26 := ⟨by decide +kernel, rfl⟩
theorem eX4_judge_26 : Dn mX4_judge 26 (.iaload) 1 27 := ⟨by decide +kernel, rfl⟩
theorem eX4_judge_27 : Dj mX4_judge 27 (.if_icmp .ge 37) (37) 30 64 := ⟨by decide +kernel, rfl, rfl⟩
theorem eX4_judge_30 : Dn mX4_judge 30 (.aload_n 0) 1 31 := ⟨by decide +kernel, rfl⟩
theorem eX4_judge_31 : Dn mX4_judge 31 (.iload_n 2) 1 32 := ⟨by decide +kernel, rfl⟩
theorem eX4_judge_32 : Dn mX4_judge 32 (.invokevirtual 77) 3 35 := ⟨by decide +kernel, rfl⟩
theorem eX4_judge_35 : Dj mX4_judge 35 (.ifCond .eq 29) (29) 38 64 := ⟨by decide +kernel, rfl, rfl⟩
theorem eX4_judge_38 : Dn mX4_judge 38 (.aload_n 0) 1 39 := ⟨by decide +kernel, rfl⟩
theorem eX4_judge_39 : Dn mX4_judge 39 (.getfield 34) 3 42 := ⟨by decide +kernel, rfl⟩
theorem eX4_judge_42 : Dn mX4_judge 42 (.bipush 40) 2 44 := ⟨by decide +kernel, rfl⟩
theorem eX4_judge_44 : Dn mX4_judge 44 (.iload_n 1) 1 45 := ⟨by decide +kernel, rfl⟩
theorem eX4_judge_45 : Dn mX4_judge 45 (.imul) 1 46 := ⟨by decide +kernel, rfl⟩
theorem eX4_judge_46 : Dn mX4_judge 46 (.iload_n 2) 1 47 := ⟨by decide +kernel, rfl⟩
theorem eX4_judge_47 : Dn mX4_judge 47 (.iadd) 1 48 := ⟨by decide +kernel, rfl⟩
theorem eX4_judge_48 : Dn mX4_judge 48 (.iaload) 1 49 := ⟨by decide +kernel, rfl⟩
theorem eX4_judge_49 : Dn mX4_judge 49 (.aload_n 0) 1 50 := ⟨by decide +kernel, rfl⟩
theorem eX4_judge_50 : Dn mX4_judge 50 (.iload_n 2) 1 51 := ⟨by decide +kernel, rfl⟩
theorem eX4_judge_51 : Dn mX4_judge 51 (.iconst 3) 1 52 := ⟨by decide +kernel, rfl⟩
theorem eX4_judge_52 : Dn mX4_judge 52 (.invokevirtual 71) 3 55 := ⟨by decide +kernel, rfl⟩
theorem eX4_judge_55 : Dj mX4_judge 55 (.if_icmp .ne 9) (9) 58 64 := ⟨by decide +kernel, rfl, rfl⟩
theorem eX4_judge_58 : Dn mX4_judge 58 (.iinc 2 1) 3 61 := ⟨by decide +kernel, rfl⟩
theorem eX4_judge_61 : Dj mX4_judge 61 (.goto (-41)) (-41) 64 20 := ⟨by decide +kernel, rfl, rfl⟩
theorem eX4_judge_64 : Dn mX4_judge 64 (.iload_n 2) 1 65 := ⟨by decide +kernel, rfl⟩
theorem eX4_judge_65 : Dn mX4_judge 65 (.aload_n 0) 1 66 := ⟨by decide +kernel, rfl⟩
theorem eX4_judge_66 : Dn mX4_judge 66 (.getfield 31) 3 69 := ⟨by decide +kernel, rfl⟩
theorem eX4_judge_69 : Dn mX4_judge 69 (.iload_n 1) 1 70 := ⟨by decide +kernel, rfl⟩
theorem eX4_judge_70 : Dn mX4_judge 70 (.iaload) 1 71 := ⟨by decide +kernel, rfl⟩
theorem eX4_judge_71 : Dj mX4_judge 71 (.if_icmp .ge 9) (9) 74 80 := ⟨by decide +kernel, rfl, rfl⟩
theorem eX4_judge_74 : Dn mX4_judge 74 (.iconst 1) 1 75 := ⟨by decide +kernel, rfl⟩
theorem eX4_judge_75 : Dn mX4_judge 75 (.iload_n 2) 1 76 := ⟨by decide +kernel, rfl⟩
theorem eX4_judge_76 : Dn mX4_judge 76 (.iadd) 1 77 := ⟨by decide +kernel, rfl⟩
theorem eX4_judge_77 : Dj mX4_judge 77 (.goto 4) (4) 80 81 := ⟨by decide +kernel, rfl, rfl⟩
theorem eX4_judge_80 : Dn mX4_judge 80 (.iconst 0) 1 81 := ⟨by decide +kernel, rfl⟩
theorem eX4_judge_81 : Dn mX4_judge 81 (.ireturn) 1 82 := ⟨by decide +kernel, rfl⟩
theorem eX4_image_0 : Dn mX4_image 0 (.aload_n 0) 1 1 := ⟨by decide +kernel, rfl⟩
theorem eX4_image_1 : Dn mX4_image 1 (.getfield 7) 3 4 := ⟨by decide +kernel, rfl⟩
theorem eX4_image_4 : Dn mX4_image 4 (.aload_n 0) 1 5 := ⟨by decide +kernel, rfl⟩
theorem eX4_image_5 : Dn mX4_image 5 (.getfield 13) 3 8 := ⟨by decide +kernel, rfl⟩
theorem eX4_image_8 : Dn mX4_image 8 (.invokestatic 150) 3 11 := ⟨by decide +kernel, rfl⟩
theorem eX4_image_11 : Dn mX4_image 11 (.aload_n 0) 1 12 := ⟨by decide +kernel, rfl⟩
theorem eX4_image_12 : Dn mX4_image 12 (.iconst 1) 1 13 := ⟨by decide +kernel, rfl⟩
theorem eX4_image_13 : Dn mX4_image 13 (.putfield 282) 3 16 := ⟨by decide +kernel, rfl⟩
theorem eX4_image_16 : Dn mX4_image 16 (.iconst 1) 1 17 := ⟨by decide +kernel, rfl⟩
theorem eX4_image_17 : Dn mX4_image 17 (.ireturn) 1 18 := ⟨by decide +kernel, rfl⟩
theorem eX4_undo_0 : Dn mX4_undo 0 (.aload_n 0) 1 1 := ⟨by decide +kernel, rfl⟩
theorem eX4_undo_1 : Dn mX4_undo 1 (.getfield 282) 3 4 := ⟨by decide +kernel, rfl⟩
theorem eX4_undo_4 : Dj mX4_undo 4 (.ifCond .ne 10) (10) 7 14 := ⟨by decide +kernel, rfl, rfl⟩
theorem eX4_undo_7 : Dn mX4_undo 7 (.aload_n 0) 1 8 := ⟨by decide +kernel, rfl⟩
theorem eX4_undo_8 : Dn mX4_undo 8 (.ldc 38) 2 10 := ⟨by decide +kernel, rfl⟩
theorem eX4_undo_10 : Dn mX4_undo 10 (.invokevirtual 39) 3 13 := ⟨by decide +kernel, rfl⟩
theorem eX4_undo_13 : Dn mX4_undo 13 (.ireturn) 1 14 := ⟨by decide +kernel, rfl⟩
theorem eX4_undo_14 : Dn mX4_undo 14 (.aload_n 0) 1 15 := ⟨by decide +kernel, rfl⟩
theorem eX4_undo_15 : Dn mX4_undo 15 (.getfield 13) 3 18 := ⟨by decide +kernel, rfl⟩
theorem eX4_undo_18 : Dn mX4_undo 18 (.aload_n 0) 1 19 := ⟨by decide +kernel, rfl⟩
theorem eX4_undo_19 : Dn mX4_undo 19 (.getfield 7) 3 22 := ⟨by decide +kernel, rfl⟩
theorem eX4_undo_22 : Dn mX4_undo 22 (.invokestatic 150) 3 25 := ⟨by decide +kernel, rfl⟩
theorem eX4_undo_25 : Dn mX4_undo 25 (.aload_n 0) 1 26 := ⟨by decide +kernel, rfl⟩
theorem eX4_undo_26 : Dn mX4_undo 26 (.getfield 7) 3 29 := ⟨by decide +kernel, rfl⟩
theorem eX4_undo_29 : Dn mX4_undo 29 (.iconst 1) 1 30 := ⟨by decide +kernel, rfl⟩
theorem eX4_undo_30 : Dn mX4_undo 30 (.iaload) 1 31 := ⟨by decide +kernel, rfl⟩
theorem eX4_undo_31 : Dn mX4_undo 31 (.ireturn) 1 32 := ⟨by decide +kernel, rfl⟩
theorem eX4_tear_0 : Dn mX4_tear 0 (.aload_n 0) 1 1 := ⟨by decide +kernel, rfl⟩
theorem eX4_tear_1 : Dn mX4_tear 1 (.getfield 282) 3 4 := ⟨by decide +kernel, rfl⟩
theorem eX4_tear_4 : Dn mX4_tear 4 (.istore_n 1) 1 5 := ⟨by decide +kernel, rfl⟩
theorem eX4_tear_5 : Dn mX4_tear 5 (.aload_n 0) 1 6 := ⟨by decide +kernel, rfl⟩
theorem eX4_tear_6 : Dn mX4_tear 6 (.iconst 0) 1 7 := ⟨by decide +kernel, rfl⟩
theorem eX4_tear_7 : Dn mX4_tear 7 (.putfield 282) 3 10 := ⟨by decide +kernel, rfl⟩
theorem eX4_tear_10 : Dn mX4_tear 10 (.iload_n 1) 1 11 := ⟨by decide +kernel, rfl⟩
theorem eX4_tear_11 : Dj mX4_tear 11 (.ifCond .eq 7) (7) 14 18 := ⟨by decide +kernel, rfl, rfl⟩
theorem eX4_tear_14 : Dn mX4_tear 14 (.iconst 1) 1 15 := ⟨by decide +kernel, rfl⟩
theorem eX4_tear_15 : Dj mX4_tear 15 (.goto 4) (4) 18 19 := ⟨by decide +kernel, rfl, rfl⟩
theorem eX4_tear_18 : Dn mX4_tear 18 (.iconst 0) 1 19 := ⟨by decide +kernel, rfl⟩
theorem eX4_tear_19 : Dn mX4_tear 19 (.ireturn) 1 20 := ⟨by decide +kernel, rfl⟩
theorem eX4_count_0 : Dn mX4_count 0 (.iconst 0) 1 1 := ⟨by decide +kernel, rfl⟩
theorem eX4_count_1 : Dn mX4_count 1 (.istore_n 2) 1 2 := ⟨by decide +kernel, rfl⟩
theorem eX4_count_2 : Dn mX4_count 2 (.iload_n 1) 1 3 := ⟨by decide +kernel, rfl⟩
theorem eX4_count_3 : Dn mX4_count 3 (.tableswitch 125 0 7 #[45, 52, 59, 65, 71, 77, 82, 89]) 45 48 := ⟨by decide +kernel, rfl⟩
theorem eX4_count_48 : Dn mX4_count 48 (.aload_n 0) 1 49 := ⟨by decide +kernel, rfl⟩
theorem eX4_count_49 : Dn mX4_count 49 (.getfield 7) 3 52 := ⟨by decide +kernel, rfl⟩
theorem eX4_count_52 : Dn mX4_count 52 (.iconst 1) 1 53 := ⟨by decide +kernel, rfl⟩
theorem eX4_count_53 : Dn mX4_count 53 (.iaload) 1 54 := ⟨by decide +kernel, rfl⟩
theorem eX4_count_54 : Dn mX4_count 54 (.ireturn) 1 55 := ⟨by decide +kernel, rfl⟩
theorem eX4_count_55 : Dn mX4_count 55 (.aload_n 0) 1 56 := ⟨by decide +kernel, rfl⟩
theorem eX4_count_56 : Dn mX4_count 56 (.getfield 7) 3 59 := ⟨by decide +kernel, rfl⟩
theorem eX4_count_59 : Dn mX4_count 59 (.iconst 0) 1 60 := ⟨by decide +kernel, rfl⟩
theorem eX4_count_60 : Dn mX4_count 60 (.iaload) 1 61 := ⟨by decide +kernel, rfl⟩
theorem eX4_count_61 : Dn mX4_count 61 (.ireturn) 1 62 := ⟨by decide +kernel, rfl⟩
theorem eX4_count_62 : Dn mX4_count 62 (.aload_n 0) 1 63 := ⟨by decide +kernel, rfl⟩
theorem eX4_count_63 : Dn mX4_count 63 (.iconst 3) 1 64 := ⟨by decide +kernel, rfl⟩
theorem eX4_count_64 : Dn mX4_count 64 (.invokevirtual 134) 3 67 := ⟨by decide +kernel, rfl⟩
theorem eX4_count_67 : Dn mX4_count 67 (.ireturn) 1 68 := ⟨by decide +kernel, rfl⟩
theorem eX4_count_68 : Dn mX4_count 68 (.aload_n 0) 1 69 := ⟨by decide +kernel, rfl⟩
theorem eX4_count_69 : Dn mX4_count 69 (.iconst 5) 1 70 := ⟨by decide +kernel, rfl⟩
theorem eX4_count_70 : Dn mX4_count 70 (.invokevirtual 134) 3 73 := ⟨by decide +kernel, rfl⟩
theorem eX4_count_73 : Dn mX4_count 73 (.ireturn) 1 74 := ⟨by decide +kernel, rfl⟩
theorem eX4_count_74 : Dn mX4_count 74 (.aload_n 0) 1 75 := ⟨by decide +kernel, rfl⟩
theorem eX4_count_75 : Dn mX4_count 75 (.iconst 4) 1 76 := ⟨by decide +kernel, rfl⟩
theorem eX4_count_76 : Dn mX4_count 76 (.invokevirtual 134) 3 79 := ⟨by decide +kernel, rfl⟩
theorem eX4_count_79 : Dn mX4_count 79 (.ireturn) 1 80 := ⟨by decide +kernel, rfl⟩
theorem eX4_count_80 : Dn mX4_count 80 (.aload_n 0) 1 81 := ⟨by decide +kernel, rfl⟩
theorem eX4_count_81 : Dn mX4_count 81 (.getfield 202) 3 84 := ⟨by decide +kernel, rfl⟩
theorem eX4_count_84 : Dn mX4_count 84 (.ireturn) 1 85 := ⟨by decide +kernel, rfl⟩
theorem eX4_count_85 : Dn mX4_count 85 (.aload_n 0) 1 86 := ⟨by decide +kernel, rfl⟩
theorem eX4_count_86 : Dn mX4_count 86 (.getfield 7) 3 89 := ⟨by decide +kernel, rfl⟩
theorem eX4_count_89 : Dn mX4_count 89 (.iconst 2) 1 90 := ⟨by decide +kernel, rfl⟩
theorem eX4_count_90 : Dn mX4_count 90 (.iaload) 1 91 := ⟨by decide +kernel, rfl⟩
theorem eX4_count_91 : Dn mX4_count 91 (.ireturn) 1 92 := ⟨by decide +kernel, rfl⟩
theorem eX4_count_92 : Dn mX4_count 92 (.iconst 0) 1 93 := ⟨by decide +kernel, rfl⟩
theorem eX4_count_93 : Dn mX4_count 93 (.istore_n 3) 1 94 := ⟨by decide +kernel, rfl⟩
theorem eX4_count_94 : Dn mX4_count 94 (.iload_n 3) 1 95 := ⟨by decide +kernel, rfl⟩
theorem eX4_count_95 : Dn mX4_count 95 (.bipush 10) 2 97 := ⟨by decide +kernel, rfl⟩
theorem eX4_count_97 : Dj mX4_count 97 (.if_icmp .ge 29) (29) 100 126 := ⟨by decide +kernel, rfl, rfl⟩
theorem eX4_count_100 : Dn mX4_count 100 (.iload_n 2) 1 101 := ⟨by decide +kernel, rfl⟩
theorem eX4_count_101 : Dn mX4_count 101 (.aload_n 0) 1 102 := ⟨by decide +kernel, rfl⟩
theorem eX4_count_102 : Dn mX4_count 102 (.getfield 7) 3 105 := ⟨by decide +kernel, rfl⟩
theorem eX4_count_105 : Dn mX4_count 105 (.bipush 124) 2 107 := ⟨by decide +kernel, rfl⟩
theorem eX4_count_107 : Dn mX4_count 107 (.iload_n 3) 1 108 := ⟨by decide +kernel, rfl⟩
theorem eX4_count_108 : Dn mX4_count 108 (.iadd) 1 109 := ⟨by decide +kernel, rfl⟩
theorem eX4_count_109 : Dn mX4_count 109 (.iaload) 1 110 := ⟨by decide +kernel, rfl⟩
theorem eX4_count_110 : Dj mX4_count 110 (.ifCond .ge 7) (7) 113 117 := ⟨by decide +kernel, rfl, rfl⟩
theorem eX4_count_113 : Dn mX4_count 113 (.iconst 0) 1 114 := ⟨by decide +kernel, rfl⟩
theorem eX4_count_114 : Dj mX4_count 114 (.goto 4) (4) 117 118 := ⟨by decide +kernel, rfl, rfl⟩
theorem eX4_count_117 : Dn mX4_count 117 (.iconst 1) 1 118 := ⟨by decide +kernel, rfl⟩
theorem eX4_count_118 : Dn mX4_count 118 (.iadd) 1 119 := ⟨by decide +kernel, rfl⟩
theorem eX4_count_119 : Dn mX4_count 119 (.istore_n 2) 1 120 := ⟨by decide +kernel, rfl⟩
theorem eX4_count_120 : Dn mX4_count 120 (.iinc 3 1) 3 123 := ⟨by decide +kernel, rfl⟩
theorem eX4_count_123 : Dj mX4_count 123 (.goto (-29)) (-29) 126 94 := ⟨by decide +kernel, rfl, rfl⟩
theorem eX4_count_126 : Dn mX4_count 126 (.iload_n 2) 1 127 := ⟨by decide +kernel, rfl⟩
theorem eX4_count_127 : Dn mX4_count 127 (.ireturn) 1 128 := ⟨by decide +kernel, rfl⟩
theorem eX4_count_128 : Dn mX4_count 128 (.aload_n 0) 1 129 := ⟨by decide +kernel, rfl⟩
theorem eX4_count_129 : Dn mX4_count 129 (.ldc 37) 2 131 := ⟨by decide +kernel, rfl⟩
theorem eX4_count_131 : Dn mX4_count 131 (.invokevirtual 39) 3 134 := ⟨by decide +kernel, rfl⟩
theorem eX4_count_134 : Dn mX4_count 134 (.ireturn) 1 135 := ⟨by decide +kernel, rfl⟩
theorem eX4_status_0 : Dn mX4_status 0 (.iload_n 1) 1 1 := ⟨by decide +kernel, rfl⟩
theorem eX4_status_1 : Dn mX4_status 1 (.i2l) 1 2 := ⟨by decide +kernel, rfl⟩
theorem eX4_status_2 : Dn mX4_status 2 (.ldc2_w 99) 3 5 := ⟨by decide +kernel, rfl⟩
theorem eX4_status_5 : Dn mX4_status 5 (.ldc2_w 62) 3 8 := ⟨by decide +kernel, rfl⟩
theorem eX4_status_8 : Dn mX4_status 8 (.invokestatic 49) 3 11 := ⟨by decide +kernel, rfl⟩
theorem eX4_status_11 : Dj mX4_status 11 (.ifCond .eq 14) (14) 14 25 := ⟨by decide +kernel, rfl, rfl⟩
theorem eX4_status_14 : Dn mX4_status 14 (.aload_n 0) 1 15 := ⟨by decide +kernel, rfl⟩
theorem eX4_status_15 : Dn mX4_status 15 (.getfield 22) 3 18 := ⟨by decide +kernel, rfl⟩
theorem eX4_status_18 : Dn mX4_status 18 (.iload_n 1) 1 19 := ⟨by decide +kernel, rfl⟩
theorem eX4_status_19 : Dn mX4_status 19 (.iconst 1) 1 20 := ⟨by decide +kernel, rfl⟩
theorem eX4_status_20 : Dn mX4_status 20 (.iadd) 1 21 := ⟨by decide +kernel, rfl⟩
theorem eX4_status_21 : Dn mX4_status 21 (.iaload) 1 22 := ⟨by decide +kernel, rfl⟩
theorem eX4_status_22 : Dj mX4_status 22 (.goto 9) (9) 25 31 := ⟨by decide +kernel, rfl, rfl⟩
theorem eX4_status_25 : Dn mX4_status 25 (.aload_n 0) 1 26 := ⟨by decide +kernel, rfl⟩
theorem eX4_status_26 : Dn mX4_status 26 (.ldc 37) 2 28 := ⟨by decide +kernel, rfl⟩
theorem eX4_status_28 : Dn mX4_status 28 (.invokevirtual 39) 3 31 := ⟨by decide +kernel, rfl⟩
theorem eX4_status_31 : Dn mX4_status 31 (.ireturn) 1 32 := ⟨by decide +kernel, rfl⟩
end
section
theorem eL_law_0 : Dn mL_law 0 (.new 7) 3 3 := ⟨by decide +kernel, rfl⟩
theorem eL_law_3 : Dn mL_law 3 (.dup) 1 4 := ⟨by decide +kernel, rfl⟩
theorem eL_law_4 : Dn mL_law 4 (.invokespecial 9) 3 7 := ⟨by decide +kernel, rfl⟩
theorem eL_law_7 : Dn mL_law 7 (.astore_n 1) 1 8 := ⟨by decide +kernel, rfl⟩
theorem eL_law_8 : Dn mL_law 8 (.new 10) 3 11 := ⟨by decide +kernel, rfl⟩
theorem eL_law_11 : Dn mL_law 11 (.dup) 1 12 := ⟨by decide +kernel, rfl⟩
theorem eL_law_12 : Dn mL_law 12 (.invokespecial 12) 3 15 := ⟨by decide +kernel, rfl⟩
theorem eL_law_15 : Dn mL_law 15 (.astore_n 2) 1 16 := ⟨by decide +kernel, rfl⟩
theorem eL_law_16 : Dn mL_law 16 (.iconst 0) 1 17 := ⟨by decide +kernel, rfl⟩
theorem eL_law_17 : Dn mL_law 17 (.istore_n 3) 1 18 := ⟨by decide +kernel, rfl⟩
theorem eL_law_18 : Dn mL_law 18 (.iload_n 3) 1 19 := ⟨by decide +kernel, rfl⟩
theorem eL_law_19 : Dn mL_law 19 (.aload_n 0) 1 20 := ⟨by decide +kernel, rfl⟩
theorem eL_law_20 : Dn mL_law 20 (.arraylength) 1 21 := ⟨by decide +kernel, rfl⟩
theorem eL_law_21 : Dn mL_law 21 (.bipush 6) 2 23 := ⟨by decide +kernel, rfl⟩
theorem eL_law_23 : Dn mL_law 23 (.isub) 1 24 := ⟨by decide +kernel, rfl⟩
theorem eL_law_24 : Dj mL_law 24 (.if_icmp .gt 1519) (1519) 27 1543 := ⟨by decide +kernel, rfl, rfl⟩
theorem eL_law_27 : Dn mL_law 27 (.aload_n 0) 1 28 := ⟨by decide +kernel, rfl⟩
theorem eL_law_28 : Dn mL_law 28 (.iload_n 3) 1 29 := ⟨by decide +kernel, rfl⟩
theorem eL_law_29 : Dn mL_law 29 (.iaload) 1 30 := ⟨by decide +kernel, rfl⟩
theorem eL_law_30 : Dn mL_law 30 (.bipush 63) 2 32 := ⟨by decide +kernel, rfl⟩
theorem eL_law_32 : Dn mL_law 32 (.iand) 1 33 := ⟨by decide +kernel, rfl⟩
theorem eL_law_33 : Dn mL_law 33 (.tableswitch 1504 0 43 #[191, 224, 247, 270, 303, 336, 379, 412, 455, 488, 511, 534, 557, 600, 643, 666, 699, 732, 765, 798, 821, 844, 877, 910, 943, 976, 1009, 1032, 1076, 1099, 1132, 1145, 1158, 1191, 1224, 1267, 1310, 1373, 1396, 1419, 1432, 1445, 1458, 1481]) 191 224 := ⟨by decide +kernel, rfl⟩
theorem eL_law_224 : Dn mL_law 224 (.aload_n 1) 1 225 := ⟨by decide +kernel, rfl⟩
theorem eL_law_225 : Dn mL_law 225 (.aload_n 0) 1 226 := ⟨by decide +kernel, rfl⟩
theorem eL_law_226 : Dn mL_law 226 (.iload_n 3) 1 227 := ⟨by decide +kernel, rfl⟩
theorem eL_law_227 : Dn mL_law 227 (.iconst 1) 1 228 := ⟨by decide +kernel, rfl⟩
theorem eL_law_228 : Dn mL_law 228 (.iadd) 1 229 := ⟨by decide +kernel, rfl⟩
theorem eL_law_229 : Dn mL_law 229 (.iaload) 1 230 := ⟨by decide +kernel, rfl⟩
theorem eL_law_230 : Dn mL_law 230 (.aload_n 0) 1 231 := ⟨by decide +kernel, rfl⟩
theorem eL_law_231 : Dn mL_law 231 (.iload_n 3) 1 232 := ⟨by decide +kernel, rfl⟩
theorem eL_law_232 : Dn mL_law 232 (.iconst 2) 1 233 := ⟨by decide +kernel, rfl⟩
theorem eL_law_233 : Dn mL_law 233 (.iadd) 1 234 := ⟨by decide +kernel, rfl⟩
theorem eL_law_234 : Dn mL_law 234 (.iaload) 1 235 := ⟨by decide +kernel, rfl⟩
theorem eL_law_235 : Dn mL_law 235 (.invokevirtual 13) 3 238 := ⟨by decide +kernel, rfl⟩
theorem eL_law_238 : Dn mL_law 238 (.aload_n 2) 1 239 := ⟨by decide +kernel, rfl⟩
theorem eL_law_239 : Dn mL_law 239 (.aload_n 0) 1 240 := ⟨by decide +kernel, rfl⟩
theorem eL_law_240 : Dn mL_law 240 (.iload_n 3) 1 241 := ⟨by decide +kernel, rfl⟩
theorem eL_law_241 : Dn mL_law 241 (.iconst 1) 1 242 := ⟨by decide +kernel, rfl⟩
theorem eL_law_242 : Dn mL_law 242 (.iadd) 1 243 := ⟨by decide +kernel, rfl⟩
theorem eL_law_243 : Dn mL_law 243 (.iaload) 1 244 := ⟨by decide +kernel, rfl⟩
theorem eL_law_244 : Dn mL_law 244 (.aload_n 0) 1 245 := ⟨by decide +kernel, rfl⟩
theorem eL_law_245 : Dn mL_law 245 (.iload_n 3) 1 246 := ⟨by decide +kernel, rfl⟩
theorem eL_law_246 : Dn mL_law 246 (.iconst 2) 1 247 := ⟨by decide +kernel, rfl⟩
theorem eL_law_247 : Dn mL_law 247 (.iadd) 1 248 := ⟨by decide +kernel, rfl⟩
theorem eL_law_248 : Dn mL_law 248 (.iaload) 1 249 := ⟨by decide +kernel, rfl⟩
theorem eL_law_249 : Dn mL_law 249 (.invokevirtual 17) 3 252 := ⟨by decide +kernel, rfl⟩
theorem eL_law_252 : Dj mL_law 252 (.if_icmp .eq 1285) (1285) 255 1537 := ⟨by decide +kernel, rfl, rfl⟩
theorem eL_law_255 : Dn mL_law 255 (.iconst 0) 1 256 := ⟨by decide +kernel, rfl⟩
theorem eL_law_256 : Dn mL_law 256 (.ireturn) 1 257 := ⟨by decide +kernel, rfl⟩
theorem eL_law_257 : Dn mL_law 257 (.aload_n 1) 1 258 := ⟨by decide +kernel, rfl⟩
theorem eL_law_258 : Dn mL_law 258 (.aload_n 0) 1 259 := ⟨by decide +kernel, rfl⟩
theorem eL_law_259 : Dn mL_law 259 (.iload_n 3) 1 260 := ⟨by decide +kernel, rfl⟩
theorem eL_law_260 : Dn mL_law 260 (.iconst 1) 1 261 := ⟨by decide +kernel, rfl⟩
theorem eL_law_261 : Dn mL_law 261 (.iadd) 1 262 := ⟨by decide +kernel, rfl⟩
theorem eL_law_262 : Dn mL_law 262 (.iaload) 1 263 := ⟨by decide +kernel, rfl⟩
theorem eL_law_263 : Dn mL_law 263 (.invokevirtual 18) 3 266 := ⟨by decide +kernel, rfl⟩
theorem eL_law_266 : Dn mL_law 266 (.aload_n 2) 1 267 := ⟨by decide +kernel, rfl⟩
theorem eL_law_267 : Dn mL_law 267 (.aload_n 0) 1 268 := ⟨by decide +kernel, rfl⟩
theorem eL_law_268 : Dn mL_law 268 (.iload_n 3) 1 269 := ⟨by decide +kernel, rfl⟩
theorem eL_law_269 : Dn mL_law 269 (.iconst 1) 1 270 := ⟨by decide +kernel, rfl⟩
theorem eL_law_270 : Dn mL_law 270 (.iadd) 1 271 := ⟨by decide +kernel, rfl⟩
theorem eL_law_271 : Dn mL_law 271 (.iaload) 1 272 := ⟨by decide +kernel, rfl⟩
theorem eL_law_272 : Dn mL_law 272 (.invokevirtual 22) 3 275 := ⟨by decide +kernel, rfl⟩
theorem eL_law_275 : Dj mL_law 275 (.if_icmp .eq 1262) (1262) 278 1537 := ⟨by decide +kernel, rfl, rfl⟩
theorem eL_law_278 : Dn mL_law 278 (.iconst 0) 1 279 := ⟨by decide +kernel, rfl⟩
theorem eL_law_279 : Dn mL_law 279 (.ireturn) 1 280 := ⟨by decide +kernel, rfl⟩
theorem eL_law_280 : Dn mL_law 280 (.aload_n 1) 1 281 := ⟨by decide +kernel, rfl⟩
theorem eL_law_281 : Dn mL_law 281 (.aload_n 0) 1 282 := ⟨by decide +kernel, rfl⟩
theorem eL_law_282 : Dn mL_law 282 (.iload_n 3) 1 283 := ⟨by decide +kernel, rfl⟩
theorem eL_law_283 : Dn mL_law 283 (.iconst 1) 1 284 := ⟨by decide +kernel, rfl⟩
theorem eL_law_284 : Dn mL_law 284 (.iadd) 1 285 := ⟨by decide +kernel, rfl⟩
theorem eL_law_285 : Dn mL_law 285 (.iaload) 1 286 := ⟨by decide +kernel, rfl⟩
theorem eL_law_286 : Dn mL_law 286 (.invokevirtual 23) 3 289 := ⟨by decide +kernel, rfl⟩
theorem eL_law_289 : Dn mL_law 289 (.aload_n 2) 1 290 := ⟨by decide +kernel, rfl⟩
theorem eL_law_290 : Dn mL_law 290 (.aload_n 0) 1 291 := ⟨by decide +kernel, rfl⟩
theorem eL_law_291 : Dn mL_law 291 (.iload_n 3) 1 292 := ⟨by decide +kernel, rfl⟩
theorem eL_law_292 : Dn mL_law 292 (.iconst 1) 1 293 := ⟨by decide +kernel, rfl⟩
theorem eL_law_293 : Dn mL_law 293 (.iadd) 1 294 := ⟨by decide +kernel, rfl⟩
theorem eL_law_294 : Dn mL_law 294 (.iaload) 1 295 := ⟨by decide +kernel, rfl⟩
theorem eL_law_295 : Dn mL_law 295 (.invokevirtual 26) 3 298 := ⟨by decide +kernel, rfl⟩
theorem eL_law_298 : Dj mL_law 298 (.if_icmp .eq 1239) (1239) 301 1537 := ⟨by decide +kernel, rfl, rfl⟩
theorem eL_law_301 : Dn mL_law 301 (.iconst 0) 1 302 := ⟨by decide +kernel, rfl⟩
theorem eL_law_302 : Dn mL_law 302 (.ireturn) 1 303 := ⟨by decide +kernel, rfl⟩
theorem eL_law_303 : Dn mL_law 303 (.aload_n 1) 1 304 := ⟨by decide +kernel, rfl⟩
theorem eL_law_304 : Dn mL_law 304 (.aload_n 0) 1 305 := ⟨by decide +kernel, rfl⟩
theorem eL_law_305 : Dn mL_law 305 (.iload_n 3) 1 306 := ⟨by decide +kernel, rfl⟩
theorem eL_law_306 : Dn mL_law 306 (.iconst 1) 1 307 := ⟨by decide +kernel, rfl⟩
theorem eL_law_307 : Dn mL_law 307 (.iadd) 1 308 := ⟨by decide +kernel, rfl⟩
theorem eL_law_308 : Dn mL_law 308 (.iaload) 1 309 := ⟨by decide +kernel, rfl⟩
theorem eL_law_309 : Dn mL_law 309 (.aload_n 0) 1 310 := ⟨by decide +kernel, rfl⟩
theorem eL_law_310 : Dn mL_law 310 (.iload_n 3) 1 311 := ⟨by decide +kernel, rfl⟩
theorem eL_law_311 : Dn mL_law 311 (.iconst 2) 1 312 := ⟨by decide +kernel, rfl⟩
theorem eL_law_312 : Dn mL_law 312 (.iadd) 1 313 := ⟨by decide +kernel, rfl⟩
theorem eL_law_313 : Dn mL_law 313 (.iaload) 1 314 := ⟨by decide +kernel, rfl⟩
theorem eL_law_314 : Dn mL_law 314 (.invokevirtual 27) 3 317 := ⟨by decide +kernel, rfl⟩
theorem eL_law_317 : Dn mL_law 317 (.aload_n 2) 1 318 := ⟨by decide +kernel, rfl⟩
theorem eL_law_318 : Dn mL_law 318 (.aload_n 0) 1 319 := ⟨by decide +kernel, rfl⟩
theorem eL_law_319 : Dn mL_law 319 (.iload_n 3) 1 320 := ⟨by decide +kernel, rfl⟩
theorem eL_law_320 : Dn mL_law 320 (.iconst 1) 1 321 := ⟨by decide +kernel, rfl⟩
theorem eL_law_321 : Dn mL_law 321 (.iadd) 1 322 := ⟨by decide +kernel, rfl⟩
theorem eL_law_322 : Dn mL_law 322 (.iaload) 1 323 := ⟨by decide +kernel, rfl⟩
theorem eL_law_323 : Dn mL_law 323 (.aload_n 0) 1 324 := ⟨by decide +kernel, rfl⟩
theorem eL_law_324 : Dn mL_law 324 (.iload_n 3) 1 325 := ⟨by decide +kernel, rfl⟩
theorem eL_law_325 : Dn mL_law 325 (.iconst 2) 1 326 := ⟨by decide +kernel, rfl⟩
theorem eL_law_326 : Dn mL_law 326 (.iadd) 1 327 := ⟨by decide +kernel, rfl⟩
theorem eL_law_327 : Dn mL_law 327 (.iaload) 1 328 := ⟨by decide +kernel, rfl⟩
theorem eL_law_328 : Dn mL_law 328 (.invokevirtual 30) 3 331 := ⟨by decide +kernel, rfl⟩
theorem eL_law_331 : Dj mL_law 331 (.if_icmp .eq 1206) (1206) 334 1537 := ⟨by decide +kernel, rfl, rfl⟩
theorem eL_law_334 : Dn mL_law 334 (.iconst 0) 1 335 := ⟨by decide +kernel, rfl⟩
theorem eL_law_335 : Dn mL_law 335 (.ireturn) 1 336 := ⟨by decide +kernel, rfl⟩
theorem eL_law_336 : Dn mL_law 336 (.aload_n 1) 1 337 := ⟨by decide +kernel, rfl⟩
theorem eL_law_337 : Dn mL_law 337 (.aload_n 0) 1 338 := ⟨by decide +kernel, rfl⟩
theorem eL_law_338 : Dn mL_law 338 (.iload_n 3) 1 339 := ⟨by decide +kernel, rfl⟩
theorem eL_law_339 : Dn mL_law 339 (.iconst 1) 1 340 := ⟨by decide +kernel, rfl⟩
theorem eL_law_340 : Dn mL_law 340 (.iadd) 1 341 := ⟨by decide +kernel, rfl⟩
theorem eL_law_341 : Dn mL_law 341 (.iaload) 1 342 := ⟨by decide +kernel, rfl⟩
theorem eL_law_342 : Dn mL_law 342 (.aload_n 0) 1 343 := ⟨by decide +kernel, rfl⟩
theorem eL_law_343 : Dn mL_law 343 (.iload_n 3) 1 344 := ⟨by decide +kernel, rfl⟩
theorem eL_law_344 : Dn mL_law 344 (.iconst 2) 1 345 := ⟨by decide +kernel, rfl⟩
theorem eL_law_345 : Dn mL_law 345 (.iadd) 1 346 := ⟨by decide +kernel, rfl⟩
theorem eL_law_346 : Dn mL_law 346 (.iaload) 1 347 := ⟨by decide +kernel, rfl⟩
theorem eL_law_347 : Dn mL_law 347 (.invokevirtual 31) 3 350 := ⟨by decide +kernel, rfl⟩
theorem eL_law_350 : Dn mL_law 350 (.aload_n 2) 1 351 := ⟨by decide +kernel, rfl⟩
theorem eL_law_351 : Dn mL_law 351 (.aload_n 0) 1 352 := ⟨by decide +kernel, rfl⟩
theorem eL_law_352 : Dn mL_law 352 (.iload_n 3) 1 353 := ⟨by decide +kernel, rfl⟩
theorem eL_law_353 : Dn mL_law 353 (.iconst 1) 1 354 := ⟨by decide +kernel, rfl⟩
theorem eL_law_354 : Dn mL_law 354 (.iadd) 1 355 := ⟨by decide +kernel, rfl⟩
theorem eL_law_355 : Dn mL_law 355 (.iaload) 1 356 := ⟨by decide +kernel, rfl⟩
theorem eL_law_356 : Dn mL_law 356 (.aload_n 0) 1 357 := ⟨by decide +kernel, rfl⟩
theorem eL_law_357 : Dn mL_law 357 (.iload_n 3) 1 358 := ⟨by decide +kernel, rfl⟩
theorem eL_law_358 : Dn mL_law 358 (.iconst 2) 1 359 := ⟨by decide +kernel, rfl⟩
theorem eL_law_359 : Dn mL_law 359 (.iadd) 1 360 := ⟨by decide +kernel, rfl⟩
theorem eL_law_360 : Dn mL_law 360 (.iaload) 1 361 := ⟨by decide +kernel, rfl⟩
theorem eL_law_361 : Dn mL_law 361 (.invokevirtual 34) 3 364 := ⟨by decide +kernel, rfl⟩
theorem eL_law_364 : Dj mL_law 364 (.if_icmp .eq 1173) (1173) 367 1537 := ⟨by decide +kernel, rfl, rfl⟩
theorem eL_law_367 : Dn mL_law 367 (.iconst 0) 1 368 := ⟨by decide +kernel, rfl⟩
theorem eL_law_368 : Dn mL_law 368 (.ireturn) 1 369 := ⟨by decide +kernel, rfl⟩
theorem eL_law_369 : Dn mL_law 369 (.aload_n 1) 1 370 := ⟨by decide +kernel, rfl⟩
theorem eL_law_370 : Dn mL_law 370 (.aload_n 0) 1 371 := ⟨by decide +kernel, rfl⟩
theorem eL_law_371 : Dn mL_law 371 (.iload_n 3) 1 372 := ⟨by decide +kernel, rfl⟩
theorem eL_law_372 : Dn mL_law 372 (.iconst 1) 1 373 := ⟨by decide +kernel, rfl⟩
theorem eL_law_373 : Dn mL_law 373 (.iadd) 1 374 := ⟨by decide +kernel, rfl⟩
theorem eL_law_374 : Dn mL_law 374 (.iaload) 1 375 := ⟨by decide +kernel, rfl⟩
theorem eL_law_375 : Dn mL_law 375 (.aload_n 0) 1 376 := ⟨by decide +kernel, rfl⟩
theorem eL_law_376 : Dn mL_law 376 (.iload_n 3) 1 377 := ⟨by decide +kernel, rfl⟩
theorem eL_law_377 : Dn mL_law 377 (.iconst 2) 1 378 := ⟨by decide +kernel, rfl⟩
theorem eL_law_378 : Dn mL_law 378 (.iadd) 1 379 := ⟨by decide +kernel, rfl⟩
theorem eL_law_379 : Dn mL_law 379 (.iaload) 1 380 := ⟨by decide +kernel, rfl⟩
theorem eL_law_380 : Dn mL_law 380 (.aload_n 0) 1 381 := ⟨by decide +kernel, rfl⟩
theorem eL_law_381 : Dn mL_law 381 (.iload_n 3) 1 382 := ⟨by decide +kernel, rfl⟩
theorem eL_law_382 : Dn mL_law 382 (.iconst 3) 1 383 := ⟨by decide +kernel, rfl⟩
theorem eL_law_383 : Dn mL_law 383 (.iadd) 1 384 := ⟨by decide +kernel, rfl⟩
theorem eL_law_384 : Dn mL_law 384 (.iaload) 1 385 := ⟨by decide +kernel, rfl⟩
theorem eL_law_385 : Dn mL_law 385 (.invokevirtual 35) 3 388 := ⟨by decide +kernel, rfl⟩
theorem eL_law_388 : Dn mL_law 388 (.aload_n 2) 1 389 := ⟨by decide +kernel, rfl⟩
theorem eL_law_389 : Dn mL_law 389 (.aload_n 0) 1 390 := ⟨by decide +kernel, rfl⟩
theorem eL_law_390 : Dn mL_law 390 (.iload_n 3) 1 391 := ⟨by decide +kernel, rfl⟩
theorem eL_law_391 : Dn mL_law 391 (.iconst 1) 1 392 := ⟨by decide +kernel, rfl⟩
theorem eL_law_392 : Dn mL_law 392 (.iadd) 1 393 := ⟨by decide +kernel, rfl⟩
theorem eL_law_393 : Dn mL_law 393 (.iaload) 1 394 := ⟨by decide +kernel, rfl⟩
theorem eL_law_394 : Dn mL_law 394 (.aload_n 0) 1 395 := ⟨by decide +kernel, rfl⟩
theorem eL_law_395 : Dn mL_law 395 (.iload_n 3) 1 396 := ⟨by decide +kernel, rfl⟩
theorem eL_law_396 : Dn mL_law 396 (.iconst 2) 1 397 := ⟨by decide +kernel, rfl⟩
theorem eL_law_397 : Dn mL_law 397 (.iadd) 1 398 := ⟨by decide +kernel, rfl⟩
theorem eL_law_398 : Dn mL_law 398 (.iaload) 1 399 := ⟨by decide +kernel, rfl⟩
theorem eL_law_399 : Dn mL_law 399 (.aload_n 0) 1 400 := ⟨by decide +kernel, rfl⟩
theorem eL_law_400 : Dn mL_law 400 (.iload_n 3) 1 401 := ⟨by decide +kernel, rfl⟩
theorem eL_law_401 : Dn mL_law 401 (.iconst 3) 1 402 := ⟨by decide +kernel, rfl⟩
theorem eL_law_402 : Dn mL_law 402 (.iadd) 1 403 := ⟨by decide +kernel, rfl⟩
theorem eL_law_403 : Dn mL_law 403 (.iaload) 1 404 := ⟨by decide +kernel, rfl⟩
theorem eL_law_404 : Dn mL_law 404 (.invokevirtual 39) 3 407 := ⟨by decide +kernel, rfl⟩
theorem eL_law_407 : Dj mL_law 407 (.if_icmp .eq 1130) (1130) 410 1537 := ⟨by decide +kernel, rfl, rfl⟩
theorem eL_law_410 : Dn mL_law 410 (.iconst 0) 1 411 := ⟨by decide +kernel, rfl⟩
theorem eL_law_411 : Dn mL_law 411 (.ireturn) 1 412 := ⟨by decide +kernel, rfl⟩
theorem eL_law_412 : Dn mL_law 412 (.aload_n 1) 1 413 := ⟨by decide +kernel, rfl⟩
theorem eL_law_413 : Dn mL_law 413 (.aload_n 0) 1 414 := ⟨by decide +kernel, rfl⟩
theorem eL_law_414 : Dn mL_law 414 (.iload_n 3) 1 415 := ⟨by decide +kernel, rfl⟩
theorem eL_law_415 : Dn mL_law 415 (.iconst 1) 1 416 := ⟨by decide +kernel, rfl⟩
theorem eL_law_416 : Dn mL_law 416 (.iadd) 1 417 := ⟨by decide +kernel, rfl⟩
theorem eL_law_417 : Dn mL_law 417 (.iaload) 1 418 := ⟨by decide +kernel, rfl⟩
theorem eL_law_418 : Dn mL_law 418 (.aload_n 0) 1 419 := ⟨by decide +kernel, rfl⟩
theorem eL_law_419 : Dn mL_law 419 (.iload_n 3) 1 420 := ⟨by decide +kernel, rfl⟩
theorem eL_law_420 : Dn mL_law 420 (.iconst 2) 1 421 := ⟨by decide +kernel, rfl⟩
theorem eL_law_421 : Dn mL_law 421 (.iadd) 1 422 := ⟨by decide +kernel, rfl⟩
theorem eL_law_422 : Dn mL_law 422 (.iaload) 1 423 := ⟨by decide +kernel, rfl⟩
theorem eL_law_423 : Dn mL_law 423 (.invokevirtual 40) 3 426 := ⟨by decide +kernel, rfl⟩
theorem eL_law_426 : Dn mL_law 426 (.aload_n 2) 1 427 := ⟨by decide +kernel, rfl⟩
theorem eL_law_427 : Dn mL_law 427 (.aload_n 0) 1 428 := ⟨by decide +kernel, rfl⟩
theorem eL_law_428 : Dn mL_law 428 (.iload_n 3) 1 429 := ⟨by decide +kernel, rfl⟩
theorem eL_law_429 : Dn mL_law 429 (.iconst 1) 1 430 := ⟨by decide +kernel, rfl⟩
theorem eL_law_430 : Dn mL_law 430 (.iadd) 1 431 := ⟨by decide +kernel, rfl⟩
theorem eL_law_431 : Dn mL_law 431 (.iaload) 1 432 := ⟨by decide +kernel, rfl⟩
theorem eL_law_432 : Dn mL_law 432 (.aload_n 0) 1 433 := ⟨by decide +kernel, rfl⟩
theorem eL_law_433 : Dn mL_law 433 (.iload_n 3) 1 434 := ⟨by decide +kernel, rfl⟩
theorem eL_law_434 : Dn mL_law 434 (.iconst 2) 1 435 := ⟨by decide +kernel, rfl⟩
theorem eL_law_435 : Dn mL_law 435 (.iadd) 1 436 := ⟨by decide +kernel, rfl⟩
theorem eL_law_436 : Dn mL_law 436 (.iaload) 1 437 := ⟨by decide +kernel, rfl⟩
theorem eL_law_437 : Dn mL_law 437 (.invokevirtual 43) 3 440 := ⟨by decide +kernel, rfl⟩
theorem eL_law_440 : Dj mL_law 440 (.if_icmp .eq 1097) (1097) 443 1537 := ⟨by decide +kernel, rfl, rfl⟩
theorem eL_law_443 : Dn mL_law 443 (.iconst 0) 1 444 := ⟨by decide +kernel, rfl⟩
theorem eL_law_444 : Dn mL_law 444 (.ireturn) 1 445 := ⟨by decide +kernel, rfl⟩
theorem eL_law_445 : Dn mL_law 445 (.aload_n 1) 1 446 := ⟨by decide +kernel, rfl⟩
theorem eL_law_446 : Dn mL_law 446 (.aload_n 0) 1 447 := ⟨by decide +kernel, rfl⟩
theorem eL_law_447 : Dn mL_law 447 (.iload_n 3) 1 448 := ⟨by decide +kernel, rfl⟩
theorem eL_law_448 : Dn mL_law 448 (.iconst 1) 1 449 := ⟨by decide +kernel, rfl⟩
theorem eL_law_449 : Dn mL_law 449 (.iadd) 1 450 := ⟨by decide +kernel, rfl⟩
theorem eL_law_450 : Dn mL_law 450 (.iaload) 1 451 := ⟨by decide +kernel, rfl⟩
theorem eL_law_451 : Dn mL_law 451 (.aload_n 0) 1 452 := ⟨by decide +kernel, rfl⟩
theorem eL_law_452 : Dn mL_law 452 (.iload_n 3) 1 453 := ⟨by decide +kernel, rfl⟩
theorem eL_law_453 : Dn mL_law 453 (.iconst 2) 1 454 := ⟨by decide +kernel, rfl⟩
theorem eL_law_454 : Dn mL_law 454 (.iadd) 1 455 := ⟨by decide +kernel, rfl⟩
theorem eL_law_455 : Dn mL_law 455 (.iaload) 1 456 := ⟨by decide +kernel, rfl⟩
theorem eL_law_456 : Dn mL_law 456 (.aload_n 0) 1 457 := ⟨by decide +kernel, rfl⟩
theorem eL_law_457 : Dn mL_law 457 (.iload_n 3) 1 458 := ⟨by decide +kernel, rfl⟩
theorem eL_law_458 : Dn mL_law 458 (.iconst 3) 1 459 := ⟨by decide +kernel, rfl⟩
theorem eL_law_459 : Dn mL_law 459 (.iadd) 1 460 := ⟨by decide +kernel, rfl⟩
theorem eL_law_460 : Dn mL_law 460 (.iaload) 1 461 := ⟨by decide +kernel, rfl⟩
theorem eL_law_461 : Dn mL_law 461 (.invokevirtual 44) 3 464 := ⟨by decide +kernel, rfl⟩
theorem eL_law_464 : Dn mL_law 464 (.aload_n 2) 1 465 := ⟨by decide +kernel, rfl⟩
theorem eL_law_465 : Dn mL_law 465 (.aload_n 0) 1 466 := ⟨by decide +kernel, rfl⟩
theorem eL_law_466 : Dn mL_law 466 (.iload_n 3) 1 467 := ⟨by decide +kernel, rfl⟩
theorem eL_law_467 : Dn mL_law 467 (.iconst 1) 1 468 := ⟨by decide +kernel, rfl⟩
theorem eL_law_468 : Dn mL_law 468 (.iadd) 1 469 := ⟨by decide +kernel, rfl⟩
theorem eL_law_469 : Dn mL_law 469 (.iaload) 1 470 := ⟨by decide +kernel, rfl⟩
theorem eL_law_470 : Dn mL_law 470 (.aload_n 0) 1 471 := ⟨by decide +kernel, rfl⟩
theorem eL_law_471 : Dn mL_law 471 (.iload_n 3) 1 472 := ⟨by decide +kernel, rfl⟩
theorem eL_law_472 : Dn mL_law 472 (.iconst 2) 1 473 := ⟨by decide +kernel, rfl⟩
theorem eL_law_473 : Dn mL_law 473 (.iadd) 1 474 := ⟨by decide +kernel, rfl⟩
theorem eL_law_474 : Dn mL_law 474 (.iaload) 1 475 := ⟨by decide +kernel, rfl⟩
theorem eL_law_475 : Dn mL_law 475 (.aload_n 0) 1 476 := ⟨by decide +kernel, rfl⟩
theorem eL_law_476 : Dn mL_law 476 (.iload_n 3) 1 477 := ⟨by decide +kernel, rfl⟩
theorem eL_law_477 : Dn mL_law 477 (.iconst 3) 1 478 := ⟨by decide +kernel, rfl⟩
theorem eL_law_478 : Dn mL_law 478 (.iadd) 1 479 := ⟨by decide +kernel, rfl⟩
theorem eL_law_479 : Dn mL_law 479 (.iaload) 1 480 := ⟨by decide +kernel, rfl⟩
theorem eL_law_480 : Dn mL_law 480 (.invokevirtual 47) 3 483 := ⟨by decide +kernel, rfl⟩
theorem eL_law_483 : Dj mL_law 483 (.if_icmp .eq 1054) (1054) 486 1537 := ⟨by decide +kernel, rfl, rfl⟩
theorem eL_law_486 : Dn mL_law 486 (.iconst 0) 1 487 := ⟨by decide +kernel, rfl⟩
theorem eL_law_487 : Dn mL_law 487 (.ireturn) 1 488 := ⟨by decide +kernel, rfl⟩
theorem eL_law_488 : Dn mL_law 488 (.aload_n 1) 1 489 := ⟨by decide +kernel, rfl⟩
theorem eL_law_489 : Dn mL_law 489 (.aload_n 0) 1 490 := ⟨by decide +kernel, rfl⟩
theorem eL_law_490 : Dn mL_law 490 (.iload_n 3) 1 491 := ⟨by decide +kernel, rfl⟩
theorem eL_law_491 : Dn mL_law 491 (.iconst 1) 1 492 := ⟨by decide +kernel, rfl⟩
theorem eL_law_492 : Dn mL_law 492 (.iadd) 1 493 := ⟨by decide +kernel, rfl⟩
theorem eL_law_493 : Dn mL_law 493 (.iaload) 1 494 := ⟨by decide +kernel, rfl⟩
theorem eL_law_494 : Dn mL_law 494 (.aload_n 0) 1 495 := ⟨by decide +kernel, rfl⟩
theorem eL_law_495 : Dn mL_law 495 (.iload_n 3) 1 496 := ⟨by decide +kernel, rfl⟩
theorem eL_law_496 : Dn mL_law 496 (.iconst 2) 1 497 := ⟨by decide +kernel, rfl⟩
theorem eL_law_497 : Dn mL_law 497 (.iadd) 1 498 := ⟨by decide +kernel, rfl⟩
theorem eL_law_498 : Dn mL_law 498 (.iaload) 1 499 := ⟨by decide +kernel, rfl⟩
theorem eL_law_499 : Dn mL_law 499 (.invokevirtual 48) 3 502 := ⟨by decide +kernel, rfl⟩
theorem eL_law_502 : Dn mL_law 502 (.aload_n 2) 1 503 := ⟨by decide +kernel, rfl⟩
theorem eL_law_503 : Dn mL_law 503 (.aload_n 0) 1 504 := ⟨by decide +kernel, rfl⟩
theorem eL_law_504 : Dn mL_law 504 (.iload_n 3) 1 505 := ⟨by decide +kernel, rfl⟩
theorem eL_law_505 : Dn mL_law 505 (.iconst 1) 1 506 := ⟨by decide +kernel, rfl⟩
theorem eL_law_506 : Dn mL_law 506 (.iadd) 1 507 := ⟨by decide +kernel, rfl⟩
theorem eL_law_507 : Dn mL_law 507 (.iaload) 1 508 := ⟨by decide +kernel, rfl⟩
theorem eL_law_508 : Dn mL_law 508 (.aload_n 0) 1 509 := ⟨by decide +kernel, rfl⟩
theorem eL_law_509 : Dn mL_law 509 (.iload_n 3) 1 510 := ⟨by decide +kernel, rfl⟩
theorem eL_law_510 : Dn mL_law 510 (.iconst 2) 1 511 := ⟨by decide +kernel, rfl⟩
theorem eL_law_511 : Dn mL_law 511 (.iadd) 1 512 := ⟨by decide +kernel, rfl⟩
theorem eL_law_512 : Dn mL_law 512 (.iaload) 1 513 := ⟨by decide +kernel, rfl⟩
theorem eL_law_513 : Dn mL_law 513 (.invokevirtual 51) 3 516 := ⟨by decide +kernel, rfl⟩
theorem eL_law_516 : Dj mL_law 516 (.if_icmp .eq 1021) (1021) 519 1537 := ⟨by decide +kernel, rfl, rfl⟩
theorem eL_law_519 : Dn mL_law 519 (.iconst 0) 1 520 := ⟨by decide +kernel, rfl⟩
theorem eL_law_520 : Dn mL_law 520 (.ireturn) 1 521 := ⟨by decide +kernel, rfl⟩
theorem eL_law_521 : Dn mL_law 521 (.aload_n 1) 1 522 := ⟨by decide +kernel, rfl⟩
theorem eL_law_522 : Dn mL_law 522 (.aload_n 0) 1 523 := ⟨by decide +kernel, rfl⟩
theorem eL_law_523 : Dn mL_law 523 (.iload_n 3) 1 524 := ⟨by decide +kernel, rfl⟩
theorem eL_law_524 : Dn mL_law 524 (.iconst 1) 1 525 := ⟨by decide +kernel, rfl⟩
theorem eL_law_525 : Dn mL_law 525 (.iadd) 1 526 := ⟨by decide +kernel, rfl⟩
theorem eL_law_526 : Dn mL_law 526 (.iaload) 1 527 := ⟨by decide +kernel, rfl⟩
theorem eL_law_527 : Dn mL_law 527 (.invokevirtual 52) 3 530 := ⟨by decide +kernel, rfl⟩
theorem eL_law_530 : Dn mL_law 530 (.aload_n 2) 1 531 := ⟨by decide +kernel, rfl⟩
theorem eL_law_531 : Dn mL_law 531 (.aload_n 0) 1 532 := ⟨by decide +kernel, rfl⟩
theorem eL_law_532 : Dn mL_law 532 (.iload_n 3) 1 533 := ⟨by decide +kernel, rfl⟩
theorem eL_law_533 : Dn mL_law 533 (.iconst 1) 1 534 := ⟨by decide +kernel, rfl⟩
theorem eL_law_534 : Dn mL_law 534 (.iadd) 1 535 := ⟨by decide +kernel, rfl⟩
theorem eL_law_535 : Dn mL_law 535 (.iaload) 1 536 := ⟨by decide +kernel, rfl⟩
theorem eL_law_536 : Dn mL_law 536 (.invokevirtual 55) 3 539 := ⟨by decide +kernel, rfl⟩
theorem eL_law_539 : Dj mL_law 539 (.if_icmp .eq 998) (998) 542 1537 := ⟨by decide +kernel, rfl, rfl⟩
theorem eL_law_542 : Dn mL_law 542 (.iconst 0) 1 543 := ⟨by decide +kernel, rfl⟩
theorem eL_law_543 : Dn mL_law 543 (.ireturn) 1 544 := ⟨by decide +kernel, rfl⟩
theorem eL_law_544 : Dn mL_law 544 (.aload_n 1) 1 545 := ⟨by decide +kernel, rfl⟩
theorem eL_law_545 : Dn mL_law 545 (.aload_n 0) 1 546 := ⟨by decide +kernel, rfl⟩
theorem eL_law_546 : Dn mL_law 546 (.iload_n 3) 1 547 := ⟨by decide +kernel, rfl⟩
theorem eL_law_547 : Dn mL_law 547 (.iconst 1) 1 548 := ⟨by decide +kernel, rfl⟩
theorem eL_law_548 : Dn mL_law 548 (.iadd) 1 549 := ⟨by decide +kernel, rfl⟩
theorem eL_law_549 : Dn mL_law 549 (.iaload) 1 550 := ⟨by decide +kernel, rfl⟩
theorem eL_law_550 : Dn mL_law 550 (.invokevirtual 56) 3 553 := ⟨by decide +kernel, rfl⟩
theorem eL_law_553 : Dn mL_law 553 (.aload_n 2) 1 554 := ⟨by decide +kernel, rfl⟩
theorem eL_law_554 : Dn mL_law 554 (.aload_n 0) 1 555 := ⟨by decide +kernel, rfl⟩
theorem eL_law_555 : Dn mL_law 555 (.iload_n 3) 1 556 := ⟨by decide +kernel, rfl⟩
theorem eL_law_556 : Dn mL_law 556 (.iconst 1) 1 557 := ⟨by decide +kernel, rfl⟩
theorem eL_law_557 : Dn mL_law 557 (.iadd) 1 558 := ⟨by decide +kernel, rfl⟩
theorem eL_law_558 : Dn mL_law 558 (.iaload) 1 559 := ⟨by decide +kernel, rfl⟩
theorem eL_law_559 : Dn mL_law 559 (.invokevirtual 59) 3 562 := ⟨by decide +kernel, rfl⟩
theorem eL_law_562 : Dj mL_law 562 (.if_icmp .eq 975) (975) 565 1537 := ⟨by decide +kernel, rfl, rfl⟩
theorem eL_law_565 : Dn mL_law 565 (.iconst 0) 1 566 := ⟨by decide +kernel, rfl⟩
theorem eL_law_566 : Dn mL_law 566 (.ireturn) 1 567 := ⟨by decide +kernel, rfl⟩
theorem eL_law_567 : Dn mL_law 567 (.aload_n 1) 1 568 := ⟨by decide +kernel, rfl⟩
theorem eL_law_568 : Dn mL_law 568 (.aload_n 0) 1 569 := ⟨by decide +kernel, rfl⟩
theorem eL_law_569 : Dn mL_law 569 (.iload_n 3) 1 570 := ⟨by decide +kernel, rfl⟩
theorem eL_law_570 : Dn mL_law 570 (.iconst 1) 1 571 := ⟨by decide +kernel, rfl⟩
theorem eL_law_571 : Dn mL_law 571 (.iadd) 1 572 := ⟨by decide +kernel, rfl⟩
theorem eL_law_572 : Dn mL_law 572 (.iaload) 1 573 := ⟨by decide +kernel, rfl⟩
theorem eL_law_573 : Dn mL_law 573 (.invokevirtual 60) 3 576 := ⟨by decide +kernel, rfl⟩
theorem eL_law_576 : Dn mL_law 576 (.aload_n 2) 1 577 := ⟨by decide +kernel, rfl⟩
theorem eL_law_577 : Dn mL_law 577 (.aload_n 0) 1 578 := ⟨by decide +kernel, rfl⟩
theorem eL_law_578 : Dn mL_law 578 (.iload_n 3) 1 579 := ⟨by decide +kernel, rfl⟩
theorem eL_law_579 : Dn mL_law 579 (.iconst 1) 1 580 := ⟨by decide +kernel, rfl⟩
theorem eL_law_580 : Dn mL_law 580 (.iadd) 1 581 := ⟨by decide +kernel, rfl⟩
theorem eL_law_581 : Dn mL_law 581 (.iaload) 1 582 := ⟨by decide +kernel, rfl⟩
theorem eL_law_582 : Dn mL_law 582 (.invokevirtual 63) 3 585 := ⟨by decide +kernel, rfl⟩
theorem eL_law_585 : Dj mL_law 585 (.if_icmp .eq 952) (952) 588 1537 := ⟨by decide +kernel, rfl, rfl⟩
theorem eL_law_588 : Dn mL_law 588 (.iconst 0) 1 589 := ⟨by decide +kernel, rfl⟩
theorem eL_law_589 : Dn mL_law 589 (.ireturn) 1 590 := ⟨by decide +kernel, rfl⟩
theorem eL_law_590 : Dn mL_law 590 (.aload_n 1) 1 591 := ⟨by decide +kernel, rfl⟩
theorem eL_law_591 : Dn mL_law 591 (.aload_n 0) 1 592 := ⟨by decide +kernel, rfl⟩
theorem eL_law_592 : Dn mL_law 592 (.iload_n 3) 1 593 := ⟨by decide +kernel, rfl⟩
theorem eL_law_593 : Dn mL_law 593 (.iconst 1) 1 594 := ⟨by decide +kernel, rfl⟩
theorem eL_law_594 : Dn mL_law 594 (.iadd) 1 595 := ⟨by decide +kernel, rfl⟩
theorem eL_law_595 : Dn mL_law 595 (.iaload) 1 596 := ⟨by decide +kernel, rfl⟩
theorem eL_law_596 : Dn mL_law 596 (.aload_n 0) 1 597 := ⟨by decide +kernel, rfl⟩
theorem eL_law_597 : Dn mL_law 597 (.iload_n 3) 1 598 := ⟨by decide +kernel, rfl⟩
theorem eL_law_598 : Dn mL_law 598 (.iconst 2) 1 599 := ⟨by decide +kernel, rfl⟩
theorem eL_law_599 : Dn mL_law 599 (.iadd) 1 600 := ⟨by decide +kernel, rfl⟩
theorem eL_law_600 : Dn mL_law 600 (.iaload) 1 601 := ⟨by decide +kernel, rfl⟩
theorem eL_law_601 : Dn mL_law 601 (.aload_n 0) 1 602 := ⟨by decide +kernel, rfl⟩
theorem eL_law_602 : Dn mL_law 602 (.iload_n 3) 1 603 := ⟨by decide +kernel, rfl⟩
theorem eL_law_603 : Dn mL_law 603 (.iconst 3) 1 604 := ⟨by decide +kernel, rfl⟩
theorem eL_law_604 : Dn mL_law 604 (.iadd) 1 605 := ⟨by decide +kernel, rfl⟩
theorem eL_law_605 : Dn mL_law 605 (.iaload) 1 606 := ⟨by decide +kernel, rfl⟩
theorem eL_law_606 : Dn mL_law 606 (.invokevirtual 64) 3 609 := ⟨by decide +kernel, rfl⟩
theorem eL_law_609 : Dn mL_law 609 (.aload_n 2) 1 610 := ⟨by decide +kernel, rfl⟩
theorem eL_law_610 : Dn mL_law 610 (.aload_n 0) 1 611 := ⟨by decide +kernel, rfl⟩
theorem eL_law_611 : Dn mL_law 611 (.iload_n 3) 1 612 := ⟨by decide +kernel, rfl⟩
theorem eL_law_612 : Dn mL_law 612 (.iconst 1) 1 613 := ⟨by decide +kernel, rfl⟩
theorem eL_law_613 : Dn mL_law 613 (.iadd) 1 614 := ⟨by decide +kernel, rfl⟩
theorem eL_law_614 : Dn mL_law 614 (.iaload) 1 615 := ⟨by decide +kernel, rfl⟩
theorem eL_law_615 : Dn mL_law 615 (.aload_n 0) 1 616 := ⟨by decide +kernel, rfl⟩
theorem eL_law_616 : Dn mL_law 616 (.iload_n 3) 1 617 := ⟨by decide +kernel, rfl⟩
theorem eL_law_617 : Dn mL_law 617 (.iconst 2) 1 618 := ⟨by decide +kernel, rfl⟩
theorem eL_law_618 : Dn mL_law 618 (.iadd) 1 619 := ⟨by decide +kernel, rfl⟩
theorem eL_law_619 : Dn mL_law 619 (.iaload) 1 620 := ⟨by decide +kernel, rfl⟩
theorem eL_law_620 : Dn mL_law 620 (.aload_n 0) 1 621 := ⟨by decide +kernel, rfl⟩
theorem eL_law_621 : Dn mL_law 621 (.iload_n 3) 1 622 := ⟨by decide +kernel, rfl⟩
theorem eL_law_622 : Dn mL_law 622 (.iconst 3) 1 623 := ⟨by decide +kernel, rfl⟩
theorem eL_law_623 : Dn mL_law 623 (.iadd) 1 624 := ⟨by decide +kernel, rfl⟩
theorem eL_law_624 : Dn mL_law 624 (.iaload) 1 625 := ⟨by decide +kernel, rfl⟩
theorem eL_law_625 : Dn mL_law 625 (.invokevirtual 67) 3 628 := ⟨by decide +kernel, rfl⟩
theorem eL_law_628 : Dj mL_law 628 (.if_icmp .eq 909) (909) 631 1537 := ⟨by decide +kernel, rfl, rfl⟩
theorem eL_law_631 : Dn mL_law 631 (.iconst 0) 1 632 := ⟨by decide +kernel, rfl⟩
theorem eL_law_632 : Dn mL_law 632 (.ireturn) 1 633 := ⟨by decide +kernel, rfl⟩
theorem eL_law_633 : Dn mL_law 633 (.aload_n 1) 1 634 := ⟨by decide +kernel, rfl⟩
theorem eL_law_634 : Dn mL_law 634 (.aload_n 0) 1 635 := ⟨by decide +kernel, rfl⟩
theorem eL_law_635 : Dn mL_law 635 (.iload_n 3) 1 636 := ⟨by decide +kernel, rfl⟩
theorem eL_law_636 : Dn mL_law 636 (.iconst 1) 1 637 := ⟨by decide +kernel, rfl⟩
theorem eL_law_637 : Dn mL_law 637 (.iadd) 1 638 := ⟨by decide +kernel, rfl⟩
end
section
theorem eL_law_638 : Dn mL_law 638 (.iaload) 1 639 := ⟨by decide +kernel, rfl⟩
theorem eL_law_639 : Dn mL_law 639 (.aload_n 0) 1 640 := ⟨by decide +kernel, rfl⟩
theorem eL_law_640 : Dn mL_law 640 (.iload_n 3) 1 641 := ⟨by decide +kernel, rfl⟩
theorem eL_law_641 : Dn mL_law 641 (.iconst 2) 1 642 := ⟨by decide +kernel, rfl⟩
theorem eL_law_642 : Dn mL_law 642 (.iadd) 1 643 := ⟨by decide +kernel, rfl⟩
theorem eL_law_643 : Dn mL_law 643 (.iaload) 1 644 := ⟨by decide +kernel, rfl⟩
theorem eL_law_644 : Dn mL_law 644 (.aload_n 0) 1 645 := ⟨by decide +kernel, rfl⟩
theorem eL_law_645 : Dn mL_law 645 (.iload_n 3) 1 646 := ⟨by decide +kernel, rfl⟩
theorem eL_law_646 : Dn mL_law 646 (.iconst 3) 1 647 := ⟨by decide +kernel, rfl⟩
theorem eL_law_647 : Dn mL_law 647 (.iadd) 1 648 := ⟨by decide +kernel, rfl⟩
theorem eL_law_648 : Dn mL_law 648 (.iaload) 1 649 := ⟨by decide +kernel, rfl⟩
theorem eL_law_649 : Dn mL_law 649 (.invokevirtual 68) 3 652 := ⟨by decide +kernel, rfl⟩
theorem eL_law_652 : Dn mL_law 652 (.aload_n 2) 1 653 := ⟨by decide +kernel, rfl⟩
theorem eL_law_653 : Dn mL_law 653 (.aload_n 0) 1 654 := ⟨by decide +kernel, rfl⟩
theorem eL_law_654 : Dn mL_law 654 (.iload_n 3) 1 655 := ⟨by decide +kernel, rfl⟩
theorem eL_law_655 : Dn mL_law 655 (.iconst 1) 1 656 := ⟨by decide +kernel, rfl⟩
theorem eL_law_656 : Dn mL_law 656 (.iadd) 1 657 := ⟨by decide +kernel, rfl⟩
theorem eL_law_657 : Dn mL_law 657 (.iaload) 1 658 := ⟨by decide +kernel, rfl⟩
theorem eL_law_658 : Dn mL_law 658 (.aload_n 0) 1 659 := ⟨by decide +kernel, rfl⟩
theorem eL_law_659 : Dn mL_law 659 (.iload_n 3) 1 660 := ⟨by decide +kernel, rfl⟩
theorem eL_law_660 : Dn mL_law 660 (.iconst 2) 1 661 := ⟨by decide +kernel, rfl⟩
theorem eL_law_661 : Dn mL_law 661 (.iadd) 1 662 := ⟨by decide +kernel, rfl⟩
theorem eL_law_662 : Dn mL_law 662 (.iaload) 1 663 := ⟨by decide +kernel, rfl⟩
theorem eL_law_663 : Dn mL_law 663 (.aload_n 0) 1 664 := ⟨by decide +kernel, rfl⟩
theorem eL_law_664 : Dn mL_law 664 (.iload_n 3) 1 665 := ⟨by decide +kernel, rfl⟩
theorem eL_law_665 : Dn mL_law 665 (.iconst 3) 1 666 := ⟨by decide +kernel, rfl⟩
theorem eL_law_666 : Dn mL_law 666 (.iadd) 1 667 := ⟨by decide +kernel, rfl⟩
theorem eL_law_667 : Dn mL_law 667 (.iaload) 1 668 := ⟨by decide +kernel, rfl⟩
theorem eL_law_668 : Dn mL_law 668 (.invokevirtual 71) 3 671 := ⟨by decide +kernel, rfl⟩
theorem eL_law_671 : Dj mL_law 671 (.if_icmp .eq 866) (866) 674 1537 := ⟨by decide +kernel, rfl, rfl⟩
theorem eL_law_674 : Dn mL_law 674 (.iconst 0) 1 675 := ⟨by decide +kernel, rfl⟩
theorem eL_law_675 : Dn mL_law 675 (.ireturn) 1 676 := ⟨by decide +kernel, rfl⟩
theorem eL_law_676 : Dn mL_law 676 (.aload_n 1) 1 677 := ⟨by decide +kernel, rfl⟩
theorem eL_law_677 : Dn mL_law 677 (.aload_n 0) 1 678 := ⟨by decide +kernel, rfl⟩
theorem eL_law_678 : Dn mL_law 678 (.iload_n 3) 1 679 := ⟨by decide +kernel, rfl⟩
theorem eL_law_679 : Dn mL_law 679 (.iconst 1) 1 680 := ⟨by decide +kernel, rfl⟩
theorem eL_law_680 : Dn mL_law 680 (.iadd) 1 681 := ⟨by decide +kernel, rfl⟩
theorem eL_law_681 : Dn mL_law 681 (.iaload) 1 682 := ⟨by decide +kernel, rfl⟩
theorem eL_law_682 : Dn mL_law 682 (.invokevirtual 72) 3 685 := ⟨by decide +kernel, rfl⟩
theorem eL_law_685 : Dn mL_law 685 (.aload_n 2) 1 686 := ⟨by decide +kernel, rfl⟩
theorem eL_law_686 : Dn mL_law 686 (.aload_n 0) 1 687 := ⟨by decide +kernel, rfl⟩
theorem eL_law_687 : Dn mL_law 687 (.iload_n 3) 1 688 := ⟨by decide +kernel, rfl⟩
theorem eL_law_688 : Dn mL_law 688 (.iconst 1) 1 689 := ⟨by decide +kernel, rfl⟩
theorem eL_law_689 : Dn mL_law 689 (.iadd) 1 690 := ⟨by decide +kernel, rfl⟩
theorem eL_law_690 : Dn mL_law 690 (.iaload) 1 691 := ⟨by decide +kernel, rfl⟩
theorem eL_law_691 : Dn mL_law 691 (.invokevirtual 75) 3 694 := ⟨by decide +kernel, rfl⟩
theorem eL_law_694 : Dj mL_law 694 (.if_icmp .eq 843) (843) 697 1537 := ⟨by decide +kernel, rfl, rfl⟩
theorem eL_law_697 : Dn mL_law 697 (.iconst 0) 1 698 := ⟨by decide +kernel, rfl⟩
theorem eL_law_698 : Dn mL_law 698 (.ireturn) 1 699 := ⟨by decide +kernel, rfl⟩
theorem eL_law_699 : Dn mL_law 699 (.aload_n 1) 1 700 := ⟨by decide +kernel, rfl⟩
theorem eL_law_700 : Dn mL_law 700 (.aload_n 0) 1 701 := ⟨by decide +kernel, rfl⟩
theorem eL_law_701 : Dn mL_law 701 (.iload_n 3) 1 702 := ⟨by decide +kernel, rfl⟩
theorem eL_law_702 : Dn mL_law 702 (.iconst 1) 1 703 := ⟨by decide +kernel, rfl⟩
theorem eL_law_703 : Dn mL_law 703 (.iadd) 1 704 := ⟨by decide +kernel, rfl⟩
theorem eL_law_704 : Dn mL_law 704 (.iaload) 1 705 := ⟨by decide +kernel, rfl⟩
theorem eL_law_705 : Dn mL_law 705 (.aload_n 0) 1 706 := ⟨by decide +kernel, rfl⟩
theorem eL_law_706 : Dn mL_law 706 (.iload_n 3) 1 707 := ⟨by decide +kernel, rfl⟩
theorem eL_law_707 : Dn mL_law 707 (.iconst 2) 1 708 := ⟨by decide +kernel, rfl⟩
theorem eL_law_708 : Dn mL_law 708 (.iadd) 1 709 := ⟨by decide +kernel, rfl⟩
theorem eL_law_709 : Dn mL_law 709 (.iaload) 1 710 := ⟨by decide +kernel, rfl⟩
theorem eL_law_710 : Dn mL_law 710 (.invokevirtual 76) 3 713 := ⟨by decide +kernel, rfl⟩
theorem eL_law_713 : Dn mL_law 713 (.aload_n 2) 1 714 := ⟨by decide +kernel, rfl⟩
theorem eL_law_714 : Dn mL_law 714 (.aload_n 0) 1 715 := ⟨by decide +kernel, rfl⟩
theorem eL_law_715 : Dn mL_law 715 (.iload_n 3) 1 716 := ⟨by decide +kernel, rfl⟩
theorem eL_law_716 : Dn mL_law 716 (.iconst 1) 1 717 := ⟨by decide +kernel, rfl⟩
theorem eL_law_717 : Dn mL_law 717 (.iadd) 1 718 := ⟨by decide +kernel, rfl⟩
theorem eL_law_718 : Dn mL_law 718 (.iaload) 1 719 := ⟨by decide +kernel, rfl⟩
theorem eL_law_719 : Dn mL_law 719 (.aload_n 0) 1 720 := ⟨by decide +kernel, rfl⟩
theorem eL_law_720 : Dn mL_law 720 (.iload_n 3) 1 721 := ⟨by decide +kernel, rfl⟩
theorem eL_law_721 : Dn mL_law 721 (.iconst 2) 1 722 := ⟨by decide +kernel, rfl⟩
theorem eL_law_722 : Dn mL_law 722 (.iadd) 1 723 := ⟨by decide +kernel, rfl⟩
theorem eL_law_723 : Dn mL_law 723 (.iaload) 1 724 := ⟨by decide +kernel, rfl⟩
theorem eL_law_724 : Dn mL_law 724 (.invokevirtual 79) 3 727 := ⟨by decide +kernel, rfl⟩
theorem eL_law_727 : Dj mL_law 727 (.if_icmp .eq 810) (810) 730 1537 := ⟨by decide +kernel, rfl, rfl⟩
theorem eL_law_730 : Dn mL_law 730 (.iconst 0) 1 731 := ⟨by decide +kernel, rfl⟩
theorem eL_law_731 : Dn mL_law 731 (.ireturn) 1 732 := ⟨by decide +kernel, rfl⟩
theorem eL_law_732 : Dn mL_law 732 (.aload_n 1) 1 733 := ⟨by decide +kernel, rfl⟩
theorem eL_law_733 : Dn mL_law 733 (.aload_n 0) 1 734 := ⟨by decide +kernel, rfl⟩
theorem eL_law_734 : Dn mL_law 734 (.iload_n 3) 1 735 := ⟨by decide +kernel, rfl⟩
theorem eL_law_735 : Dn mL_law 735 (.iconst 1) 1 736 := ⟨by decide +kernel, rfl⟩
theorem eL_law_736 : Dn mL_law 736 (.iadd) 1 737 := ⟨by decide +kernel, rfl⟩
theorem eL_law_737 : Dn mL_law 737 (.iaload) 1 738 := ⟨by decide +kernel, rfl⟩
theorem eL_law_738 : Dn mL_law 738 (.aload_n 0) 1 739 := ⟨by decide +kernel, rfl⟩
theorem eL_law_739 : Dn mL_law 739 (.iload_n 3) 1 740 := ⟨by decide +kernel, rfl⟩
theorem eL_law_740 : Dn mL_law 740 (.iconst 2) 1 741 := ⟨by decide +kernel, rfl⟩
theorem eL_law_741 : Dn mL_law 741 (.iadd) 1 742 := ⟨by decide +kernel, rfl⟩
theorem eL_law_742 : Dn mL_law 742 (.iaload) 1 743 := ⟨by decide +kernel, rfl⟩
theorem eL_law_743 : Dn mL_law 743 (.invokevirtual 80) 3 746 := ⟨by decide +kernel, rfl⟩
theorem eL_law_746 : Dn mL_law 746 (.aload_n 2) 1 747 := ⟨by decide +kernel, rfl⟩
theorem eL_law_747 : Dn mL_law 747 (.aload_n 0) 1 748 := ⟨by decide +kernel, rfl⟩
theorem eL_law_748 : Dn mL_law 748 (.iload_n 3) 1 749 := ⟨by decide +kernel, rfl⟩
theorem eL_law_749 : Dn mL_law 749 (.iconst 1) 1 750 := ⟨by decide +kernel, rfl⟩
theorem eL_law_750 : Dn mL_law 750 (.iadd) 1 751 := ⟨by decide +kernel, rfl⟩
theorem eL_law_751 : Dn mL_law 751 (.iaload) 1 752 := ⟨by decide +kernel, rfl⟩
theorem eL_law_752 : Dn mL_law 752 (.aload_n 0) 1 753 := ⟨by decide +kernel, rfl⟩
theorem eL_law_753 : Dn mL_law 753 (.iload_n 3) 1 754 := ⟨by decide +kernel, rfl⟩
theorem eL_law_754 : Dn mL_law 754 (.iconst 2) 1 755 := ⟨by decide +kernel, rfl⟩
theorem eL_law_755 : Dn mL_law 755 (.iadd) 1 756 := ⟨by decide +kernel, rfl⟩
theorem eL_law_756 : Dn mL_law 756 (.iaload) 1 757 := ⟨by decide +kernel, rfl⟩
theorem eL_law_757 : Dn mL_law 757 (.invokevirtual 83) 3 760 := ⟨by decide +kernel, rfl⟩
theorem eL_law_760 : Dj mL_law 760 (.if_icmp .eq 777) (777) 763 1537 := ⟨by decide +kernel, rfl, rfl⟩
theorem eL_law_763 : Dn mL_law 763 (.iconst 0) 1 764 := ⟨by decide +kernel, rfl⟩
theorem eL_law_764 : Dn mL_law 764 (.ireturn) 1 765 := ⟨by decide +kernel, rfl⟩
theorem eL_law_765 : Dn mL_law 765 (.aload_n 1) 1 766 := ⟨by decide +kernel, rfl⟩
theorem eL_law_766 : Dn mL_law 766 (.aload_n 0) 1 767 := ⟨by decide +kernel, rfl⟩
theorem eL_law_767 : Dn mL_law 767 (.iload_n 3) 1 768 := ⟨by decide +kernel, rfl⟩
theorem eL_law_768 : Dn mL_law 768 (.iconst 1) 1 769 := ⟨by decide +kernel, rfl⟩
theorem eL_law_769 : Dn mL_law 769 (.iadd) 1 770 := ⟨by decide +kernel, rfl⟩
theorem eL_law_770 : Dn mL_law 770 (.iaload) 1 771 := ⟨by decide +kernel, rfl⟩
theorem eL_law_771 : Dn mL_law 771 (.aload_n 0) 1 772 := ⟨by decide +kernel, rfl⟩
theorem eL_law_772 : Dn mL_law 772 (.iload_n 3) 1 773 := ⟨by decide +kernel, rfl⟩
theorem eL_law_773 : Dn mL_law 773 (.iconst 2) 1 774 := ⟨by decide +kernel, rfl⟩
theorem eL_law_774 : Dn mL_law 774 (.iadd) 1 775 := ⟨by decide +kernel, rfl⟩
theorem eL_law_775 : Dn mL_law 775 (.iaload) 1 776 := ⟨by decide +kernel, rfl⟩
theorem eL_law_776 : Dn mL_law 776 (.invokevirtual 84) 3 779 := ⟨by decide +kernel, rfl⟩
theorem eL_law_779 : Dn mL_law 779 (.aload_n 2) 1 780 := ⟨by decide +kernel, rfl⟩
theorem eL_law_780 : Dn mL_law 780 (.aload_n 0) 1 781 := ⟨by decide +kernel, rfl⟩
theorem eL_law_781 : Dn mL_law 781 (.iload_n 3) 1 782 := ⟨by decide +kernel, rfl⟩
theorem eL_law_782 : Dn mL_law 782 (.iconst 1) 1 783 := ⟨by decide +kernel, rfl⟩
theorem eL_law_783 : Dn mL_law 783 (.iadd) 1 784 := ⟨by decide +kernel, rfl⟩
theorem eL_law_784 : Dn mL_law 784 (.iaload) 1 785 := ⟨by decide +kernel, rfl⟩
theorem eL_law_785 : Dn mL_law 785 (.aload_n 0) 1 786 := ⟨by decide +kernel, rfl⟩
theorem eL_law_786 : Dn mL_law 786 (.iload_n 3) 1 787 := ⟨by decide +kernel, rfl⟩
theorem eL_law_787 : Dn mL_law 787 (.iconst 2) 1 788 := ⟨by decide +kernel, rfl⟩
theorem eL_law_788 : Dn mL_law 788 (.iadd) 1 789 := ⟨by decide +kernel, rfl⟩
theorem eL_law_789 : Dn mL_law 789 (.iaload) 1 790 := ⟨by decide +kernel, rfl⟩
theorem eL_law_790 : Dn mL_law 790 (.invokevirtual 87) 3 793 := ⟨by decide +kernel, rfl⟩
theorem eL_law_793 : Dj mL_law 793 (.if_icmp .eq 744) (744) 796 1537 := ⟨by decide +kernel, rfl, rfl⟩
theorem eL_law_796 : Dn mL_law 796 (.iconst 0) 1 797 := ⟨by decide +kernel, rfl⟩
theorem eL_law_797 : Dn mL_law 797 (.ireturn) 1 798 := ⟨by decide +kernel, rfl⟩
theorem eL_law_798 : Dn mL_law 798 (.aload_n 1) 1 799 := ⟨by decide +kernel, rfl⟩
theorem eL_law_799 : Dn mL_law 799 (.aload_n 0) 1 800 := ⟨by decide +kernel, rfl⟩
theorem eL_law_800 : Dn mL_law 800 (.iload_n 3) 1 801 := ⟨by decide +kernel, rfl⟩
theorem eL_law_801 : Dn mL_law 801 (.iconst 1) 1 802 := ⟨by decide +kernel, rfl⟩
theorem eL_law_802 : Dn mL_law 802 (.iadd) 1 803 := ⟨by decide +kernel, rfl⟩
theorem eL_law_803 : Dn mL_law 803 (.iaload) 1 804 := ⟨by decide +kernel, rfl⟩
theorem eL_law_804 : Dn mL_law 804 (.aload_n 0) 1 805 := ⟨by decide +kernel, rfl⟩
theorem eL_law_805 : Dn mL_law 805 (.iload_n 3) 1 806 := ⟨by decide +kernel, rfl⟩
theorem eL_law_806 : Dn mL_law 806 (.iconst 2) 1 807 := ⟨by decide +kernel, rfl⟩
theorem eL_law_807 : Dn mL_law 807 (.iadd) 1 808 := ⟨by decide +kernel, rfl⟩
theorem eL_law_808 : Dn mL_law 808 (.iaload) 1 809 := ⟨by decide +kernel, rfl⟩
theorem eL_law_809 : Dn mL_law 809 (.invokevirtual 88) 3 812 := ⟨by decide +kernel, rfl⟩
theorem eL_law_812 : Dn mL_law 812 (.aload_n 2) 1 813 := ⟨by decide +kernel, rfl⟩
theorem eL_law_813 : Dn mL_law 813 (.aload_n 0) 1 814 := ⟨by decide +kernel, rfl⟩
theorem eL_law_814 : Dn mL_law 814 (.iload_n 3) 1 815 := ⟨by decide +kernel, rfl⟩
theorem eL_law_815 : Dn mL_law 815 (.iconst 1) 1 816 := ⟨by decide +kernel, rfl⟩
theorem eL_law_816 : Dn mL_law 816 (.iadd) 1 817 := ⟨by decide +kernel, rfl⟩
theorem eL_law_817 : Dn mL_law 817 (.iaload) 1 818 := ⟨by decide +kernel, rfl⟩
theorem eL_law_818 : Dn mL_law 818 (.aload_n 0) 1 819 := ⟨by decide +kernel, rfl⟩
theorem eL_law_819 : Dn mL_law 819 (.iload_n 3) 1 820 := ⟨by decide +kernel, rfl⟩
theorem eL_law_820 : Dn mL_law 820 (.iconst 2) 1 821 := ⟨by decide +kernel, rfl⟩
theorem eL_law_821 : Dn mL_law 821 (.iadd) 1 822 := ⟨by decide +kernel, rfl⟩
theorem eL_law_822 : Dn mL_law 822 (.iaload) 1 823 := ⟨by decide +kernel, rfl⟩
theorem eL_law_823 : Dn mL_law 823 (.invokevirtual 91) 3 826 := ⟨by decide +kernel, rfl⟩
theorem eL_law_826 : Dj mL_law 826 (.if_icmp .eq 711) (711) 829 1537 := ⟨by decide +kernel, rfl, rfl⟩
theorem eL_law_829 : Dn mL_law 829 (.iconst 0) 1 830 := ⟨by decide +kernel, rfl⟩
theorem eL_law_830 : Dn mL_law 830 (.ireturn) 1 831 := ⟨by decide +kernel, rfl⟩
theorem eL_law_831 : Dn mL_law 831 (.aload_n 1) 1 832 := ⟨by decide +kernel, rfl⟩
theorem eL_law_832 : Dn mL_law 832 (.aload_n 0) 1 833 := ⟨by decide +kernel, rfl⟩
theorem eL_law_833 : Dn mL_law 833 (.iload_n 3) 1 834 := ⟨by decide +kernel, rfl⟩
theorem eL_law_834 : Dn mL_law 834 (.iconst 1) 1 835 := ⟨by decide +kernel, rfl⟩
theorem eL_law_835 : Dn mL_law 835 (.iadd) 1 836 := ⟨by decide +kernel, rfl⟩
theorem eL_law_836 : Dn mL_law 836 (.iaload) 1 837 := ⟨by decide +kernel, rfl⟩
theorem eL_law_837 : Dn mL_law 837 (.invokevirtual 92) 3 840 := ⟨by decide +kernel, rfl⟩
theorem eL_law_840 : Dn mL_law 840 (.aload_n 2) 1 841 := ⟨by decide +kernel, rfl⟩
theorem eL_law_841 : Dn mL_law 841 (.aload_n 0) 1 842 := ⟨by decide +kernel, rfl⟩
theorem eL_law_842 : Dn mL_law 842 (.iload_n 3) 1 843 := ⟨by decide +kernel, rfl⟩
theorem eL_law_843 : Dn mL_law 843 (.iconst 1) 1 844 := ⟨by decide +kernel, rfl⟩
theorem eL_law_844 : Dn mL_law 844 (.iadd) 1 845 := ⟨by decide +kernel, rfl⟩
theorem eL_law_845 : Dn mL_law 845 (.iaload) 1 846 := ⟨by decide +kernel, rfl⟩
theorem eL_law_846 : Dn mL_law 846 (.invokevirtual 95) 3 849 := ⟨by decide +kernel, rfl⟩
theorem eL_law_849 : Dj mL_law 849 (.if_icmp .eq 688) (688) 852 1537 := ⟨by decide +kernel, rfl, rfl⟩
theorem eL_law_852 : Dn mL_law 852 (.iconst 0) 1 853 := ⟨by decide +kernel, rfl⟩
theorem eL_law_853 : Dn mL_law 853 (.ireturn) 1 854 := ⟨by decide +kernel, rfl⟩
theorem eL_law_854 : Dn mL_law 854 (.aload_n 1) 1 855 := ⟨by decide +kernel, rfl⟩
theorem eL_law_855 : Dn mL_law 855 (.aload_n 0) 1 856 := ⟨by decide +kernel, rfl⟩
theorem eL_law_856 : Dn mL_law 856 (.iload_n 3) 1 857 := ⟨by decide +kernel, rfl⟩
theorem eL_law_857 : Dn mL_law 857 (.iconst 1) 1 858 := ⟨by decide +kernel, rfl⟩
theorem eL_law_858 : Dn mL_law 858 (.iadd) 1 859 := ⟨by decide +kernel, rfl⟩
theorem eL_law_859 : Dn mL_law 859 (.iaload) 1 860 := ⟨by decide +kernel, rfl⟩
theorem eL_law_860 : Dn mL_law 860 (.invokevirtual 96) 3 863 := ⟨by decide +kernel, rfl⟩
theorem eL_law_863 : Dn mL_law 863 (.aload_n 2) 1 864 := ⟨by decide +kernel, rfl⟩
theorem eL_law_864 : Dn mL_law 864 (.aload_n 0) 1 865 := ⟨by decide +kernel, rfl⟩
theorem eL_law_865 : Dn mL_law 865 (.iload_n 3) 1 866 := ⟨by decide +kernel, rfl⟩
theorem eL_law_866 : Dn mL_law 866 (.iconst 1) 1 867 := ⟨by decide +kernel, rfl⟩
theorem eL_law_867 : Dn mL_law 867 (.iadd) 1 868 := ⟨by decide +kernel, rfl⟩
theorem eL_law_868 : Dn mL_law 868 (.iaload) 1 869 := ⟨by decide +kernel, rfl⟩
theorem eL_law_869 : Dn mL_law 869 (.invokevirtual 99) 3 872 := ⟨by decide +kernel, rfl⟩
theorem eL_law_872 : Dj mL_law 872 (.if_icmp .eq 665) (665) 875 1537 := ⟨by decide +kernel, rfl, rfl⟩
theorem eL_law_875 : Dn mL_law 875 (.iconst 0) 1 876 := ⟨by decide +kernel, rfl⟩
theorem eL_law_876 : Dn mL_law 876 (.ireturn) 1 877 := ⟨by decide +kernel, rfl⟩
theorem eL_law_877 : Dn mL_law 877 (.aload_n 1) 1 878 := ⟨by decide +kernel, rfl⟩
theorem eL_law_878 : Dn mL_law 878 (.aload_n 0) 1 879 := ⟨by decide +kernel, rfl⟩
theorem eL_law_879 : Dn mL_law 879 (.iload_n 3) 1 880 := ⟨by decide +kernel, rfl⟩
theorem eL_law_880 : Dn mL_law 880 (.iconst 1) 1 881 := ⟨by decide +kernel, rfl⟩
theorem eL_law_881 : Dn mL_law 881 (.iadd) 1 882 := ⟨by decide +kernel, rfl⟩
theorem eL_law_882 : Dn mL_law 882 (.iaload) 1 883 := ⟨by decide +kernel, rfl⟩
theorem eL_law_883 : Dn mL_law 883 (.aload_n 0) 1 884 := ⟨by decide +kernel, rfl⟩
theorem eL_law_884 : Dn mL_law 884 (.iload_n 3) 1 885 := ⟨by decide +kernel, rfl⟩
theorem eL_law_885 : Dn mL_law 885 (.iconst 2) 1 886 := ⟨by decide +kernel, rfl⟩
theorem eL_law_886 : Dn mL_law 886 (.iadd) 1 887 := ⟨by decide +kernel, rfl⟩
theorem eL_law_887 : Dn mL_law 887 (.iaload) 1 888 := ⟨by decide +kernel, rfl⟩
theorem eL_law_888 : Dn mL_law 888 (.invokevirtual 100) 3 891 := ⟨by decide +kernel, rfl⟩
theorem eL_law_891 : Dn mL_law 891 (.aload_n 2) 1 892 := ⟨by decide +kernel, rfl⟩
theorem eL_law_892 : Dn mL_law 892 (.aload_n 0) 1 893 := ⟨by decide +kernel, rfl⟩
theorem eL_law_893 : Dn mL_law 893 (.iload_n 3) 1 894 := ⟨by decide +kernel, rfl⟩
theorem eL_law_894 : Dn mL_law 894 (.iconst 1) 1 895 := ⟨by decide +kernel, rfl⟩
theorem eL_law_895 : Dn mL_law 895 (.iadd) 1 896 := ⟨by decide +kernel, rfl⟩
theorem eL_law_896 : Dn mL_law 896 (.iaload) 1 897 := ⟨by decide +kernel, rfl⟩
theorem eL_law_897 : Dn mL_law 897 (.aload_n 0) 1 898 := ⟨by decide +kernel, rfl⟩
theorem eL_law_898 : Dn mL_law 898 (.iload_n 3) 1 899 := ⟨by decide +kernel, rfl⟩
theorem eL_law_899 : Dn mL_law 899 (.iconst 2) 1 900 := ⟨by decide +kernel, rfl⟩
theorem eL_law_900 : Dn mL_law 900 (.iadd) 1 901 := ⟨by decide +kernel, rfl⟩
theorem eL_law_901 : Dn mL_law 901 (.iaload) 1 902 := ⟨by decide +kernel, rfl⟩
theorem eL_law_902 : Dn mL_law 902 (.invokevirtual 103) 3 905 := ⟨by decide +kernel, rfl⟩
theorem eL_law_905 : Dj mL_law 905 (.if_icmp .eq 632) (632) 908 1537 := ⟨by decide +kernel, rfl, rfl⟩
theorem eL_law_908 : Dn mL_law 908 (.iconst 0) 1 909 := ⟨by decide +kernel, rfl⟩
theorem eL_law_909 : Dn mL_law 909 (.ireturn) 1 910 := ⟨by decide +kernel, rfl⟩
theorem eL_law_910 : Dn mL_law 910 (.aload_n 1) 1 911 := ⟨by decide +kernel, rfl⟩
theorem eL_law_911 : Dn mL_law 911 (.aload_n 0) 1 912 := ⟨by decide +kernel, rfl⟩
theorem eL_law_912 : Dn mL_law 912 (.iload_n 3) 1 913 := ⟨by decide +kernel, rfl⟩
theorem eL_law_913 : Dn mL_law 913 (.iconst 1) 1 914 := ⟨by decide +kernel, rfl⟩
theorem eL_law_914 : Dn mL_law 914 (.iadd) 1 915 := ⟨by decide +kernel, rfl⟩
theorem eL_law_915 : Dn mL_law 915 (.iaload) 1 916 := ⟨by decide +kernel, rfl⟩
theorem eL_law_916 : Dn mL_law 916 (.aload_n 0) 1 917 := ⟨by decide +kernel, rfl⟩
theorem eL_law_917 : Dn mL_law 917 (.iload_n 3) 1 918 := ⟨by decide +kernel, rfl⟩
theorem eL_law_918 : Dn mL_law 918 (.iconst 2) 1 919 := ⟨by decide +kernel, rfl⟩
theorem eL_law_919 : Dn mL_law 919 (.iadd) 1 920 := ⟨by decide +kernel, rfl⟩
theorem eL_law_920 : Dn mL_law 920 (.iaload) 1 921 := ⟨by decide +kernel, rfl⟩
theorem eL_law_921 : Dn mL_law 921 (.invokevirtual 104) 3 924 := ⟨by decide +kernel, rfl⟩
theorem eL_law_924 : Dn mL_law 924 (.aload_n 2) 1 925 := ⟨by decide +kernel, rfl⟩
theorem eL_law_925 : Dn mL_law 925 (.aload_n 0) 1 926 := ⟨by decide +kernel, rfl⟩
theorem eL_law_926 : Dn mL_law 926 (.iload_n 3) 1 927 := ⟨by decide +kernel, rfl⟩
theorem eL_law_927 : Dn mL_law 927 (.iconst 1) 1 928 := ⟨by decide +kernel, rfl⟩
theorem eL_law_928 : Dn mL_law 928 (.iadd) 1 929 := ⟨by decide +kernel, rfl⟩
theorem eL_law_929 : Dn mL_law 929 (.iaload) 1 930 := ⟨by decide +kernel, rfl⟩
theorem eL_law_930 : Dn mL_law 930 (.aload_n 0) 1 931 := ⟨by decide +kernel, rfl⟩
theorem eL_law_931 : Dn mL_law 931 (.iload_n 3) 1 932 := ⟨by decide +kernel, rfl⟩
theorem eL_law_932 : Dn mL_law 932 (.iconst 2) 1 933 := ⟨by decide +kernel, rfl⟩
theorem eL_law_933 : Dn mL_law 933 (.iadd) 1 934 := ⟨by decide +kernel, rfl⟩
theorem eL_law_934 : Dn mL_law 934 (.iaload) 1 935 := ⟨by decide +kernel, rfl⟩
theorem eL_law_935 : Dn mL_law 935 (.invokevirtual 107) 3 938 := ⟨by decide +kernel, rfl⟩
theorem eL_law_938 : Dj mL_law 938 (.if_icmp .eq 599) (599) 941 1537 := ⟨by decide +kernel, rfl, rfl⟩
theorem eL_law_941 : Dn mL_law 941 (.iconst 0) 1 942 := ⟨by decide +kernel, rfl⟩
theorem eL_law_942 : Dn mL_law 942 (.ireturn) 1 943 := ⟨by decide +kernel, rfl⟩
theorem eL_law_943 : Dn mL_law 943 (.aload_n 1) 1 944 := ⟨by decide +kernel, rfl⟩
theorem eL_law_944 : Dn mL_law 944 (.aload_n 0) 1 945 := ⟨by decide +kernel, rfl⟩
theorem eL_law_945 : Dn mL_law 945 (.iload_n 3) 1 946 := ⟨by decide +kernel, rfl⟩
theorem eL_law_946 : Dn mL_law 946 (.iconst 1) 1 947 := ⟨by decide +kernel, rfl⟩
theorem eL_law_947 : Dn mL_law 947 (.iadd) 1 948 := ⟨by decide +kernel, rfl⟩
theorem eL_law_948 : Dn mL_law 948 (.iaload) 1 949 := ⟨by decide +kernel, rfl⟩
theorem eL_law_949 : Dn mL_law 949 (.aload_n 0) 1 950 := ⟨by decide +kernel, rfl⟩
theorem eL_law_950 : Dn mL_law 950 (.iload_n 3) 1 951 := ⟨by decide +kernel, rfl⟩
theorem eL_law_951 : Dn mL_law 951 (.iconst 2) 1 952 := ⟨by decide +kernel, rfl⟩
theorem eL_law_952 : Dn mL_law 952 (.iadd) 1 953 := ⟨by decide +kernel, rfl⟩
theorem eL_law_953 : Dn mL_law 953 (.iaload) 1 954 := ⟨by decide +kernel, rfl⟩
theorem eL_law_954 : Dn mL_law 954 (.invokevirtual 108) 3 957 := ⟨by decide +kernel, rfl⟩
theorem eL_law_957 : Dn mL_law 957 (.aload_n 2) 1 958 := ⟨by decide +kernel, rfl⟩
theorem eL_law_958 : Dn mL_law 958 (.aload_n 0) 1 959 := ⟨by decide +kernel, rfl⟩
theorem eL_law_959 : Dn mL_law 959 (.iload_n 3) 1 960 := ⟨by decide +kernel, rfl⟩
theorem eL_law_960 : Dn mL_law 960 (.iconst 1) 1 961 := ⟨by decide +kernel, rfl⟩
theorem eL_law_961 : Dn mL_law 961 (.iadd) 1 962 := ⟨by decide +kernel, rfl⟩
theorem eL_law_962 : Dn mL_law 962 (.iaload) 1 963 := ⟨by decide +kernel, rfl⟩
theorem eL_law_963 : Dn mL_law 963 (.aload_n 0) 1 964 := ⟨by decide +kernel, rfl⟩
theorem eL_law_964 : Dn mL_law 964 (.iload_n 3) 1 965 := ⟨by decide +kernel, rfl⟩
theorem eL_law_965 : Dn mL_law 965 (.iconst 2) 1 966 := ⟨by decide +kernel, rfl⟩
theorem eL_law_966 : Dn mL_law 966 (.iadd) 1 967 := ⟨by decide +kernel, rfl⟩
theorem eL_law_967 : Dn mL_law 967 (.iaload) 1 968 := ⟨by decide +kernel, rfl⟩
theorem eL_law_968 : Dn mL_law 968 (.invokevirtual 111) 3 971 := ⟨by decide +kernel, rfl⟩
theorem eL_law_971 : Dj mL_law 971 (.if_icmp .eq 566) (566) 974 1537 := ⟨by decide +kernel, rfl, rfl⟩
theorem eL_law_974 : Dn mL_law 974 (.iconst 0) 1 975 := ⟨by decide +kernel, rfl⟩
theorem eL_law_975 : Dn mL_law 975 (.ireturn) 1 976 := ⟨by decide +kernel, rfl⟩
theorem eL_law_976 : Dn mL_law 976 (.aload_n 1) 1 977 := ⟨by decide +kernel, rfl⟩
theorem eL_law_977 : Dn mL_law 977 (.aload_n 0) 1 978 := ⟨by decide +kernel, rfl⟩
theorem eL_law_978 : Dn mL_law 978 (.iload_n 3) 1 979 := ⟨by decide +kernel, rfl⟩
theorem eL_law_979 : Dn mL_law 979 (.iconst 1) 1 980 := ⟨by decide +kernel, rfl⟩
theorem eL_law_980 : Dn mL_law 980 (.iadd) 1 981 := ⟨by decide +kernel, rfl⟩
theorem eL_law_981 : Dn mL_law 981 (.iaload) 1 982 := ⟨by decide +kernel, rfl⟩
theorem eL_law_982 : Dn mL_law 982 (.aload_n 0) 1 983 := ⟨by decide +kernel, rfl⟩
theorem eL_law_983 : Dn mL_law 983 (.iload_n 3) 1 984 := ⟨by decide +kernel, rfl⟩
theorem eL_law_984 : Dn mL_law 984 (.iconst 2) 1 985 := ⟨by decide +kernel, rfl⟩
theorem eL_law_985 : Dn mL_law 985 (.iadd) 1 986 := ⟨by decide +kernel, rfl⟩
theorem eL_law_986 : Dn mL_law 986 (.iaload) 1 987 := ⟨by decide +kernel, rfl⟩
theorem eL_law_987 : Dn mL_law 987 (.invokevirtual 112) 3 990 := ⟨by decide +kernel, rfl⟩
theorem eL_law_990 : Dn mL_law 990 (.aload_n 2) 1 991 := ⟨by decide +kernel, rfl⟩
theorem eL_law_991 : Dn mL_law 991 (.aload_n 0) 1 992 := ⟨by decide +kernel, rfl⟩
theorem eL_law_992 : Dn mL_law 992 (.iload_n 3) 1 993 := ⟨by decide +kernel, rfl⟩
theorem eL_law_993 : Dn mL_law 993 (.iconst 1) 1 994 := ⟨by decide +kernel, rfl⟩
theorem eL_law_994 : Dn mL_law 994 (.iadd) 1 995 := ⟨by decide +kernel, rfl⟩
theorem eL_law_995 : Dn mL_law 995 (.iaload) 1 996 := ⟨by decide +kernel, rfl⟩
theorem eL_law_996 : Dn mL_law 996 (.aload_n 0) 1 997 := ⟨by decide +kernel, rfl⟩
theorem eL_law_997 : Dn mL_law 997 (.iload_n 3) 1 998 := ⟨by decide +kernel, rfl⟩
theorem eL_law_998 : Dn mL_law 998 (.iconst 2) 1 999 := ⟨by decide +kernel, rfl⟩
theorem eL_law_999 : Dn mL_law 999 (.iadd) 1 1000 := ⟨by decide +kernel, rfl⟩
theorem eL_law_1000 : Dn mL_law 1000 (.iaload) 1 1001 := ⟨by decide +kernel, rfl⟩
theorem eL_law_1001 : Dn mL_law 1001 (.invokevirtual 115) 3 1004 := ⟨by decide +kernel, rfl⟩
theorem eL_law_1004 : Dj mL_law 1004 (.if_icmp .eq 533) (533) 1007 1537 := ⟨by decide +kernel, rfl, rfl⟩
theorem eL_law_1007 : Dn mL_law 1007 (.iconst 0) 1 1008 := ⟨by decide +kernel, rfl⟩
theorem eL_law_1008 : Dn mL_law 1008 (.ireturn) 1 1009 := ⟨by decide +kernel, rfl⟩
theorem eL_law_1009 : Dn mL_law 1009 (.aload_n 1) 1 1010 := ⟨by decide +kernel, rfl⟩
theorem eL_law_1010 : Dn mL_law 1010 (.aload_n 0) 1 1011 := ⟨by decide +kernel, rfl⟩
theorem eL_law_1011 : Dn mL_law 1011 (.iload_n 3) 1 1012 := ⟨by decide +kernel, rfl⟩
theorem eL_law_1012 : Dn mL_law 1012 (.iconst 1) 1 1013 := ⟨by decide +kernel, rfl⟩
theorem eL_law_1013 : Dn mL_law 1013 (.iadd) 1 1014 := ⟨by decide +kernel, rfl⟩
theorem eL_law_1014 : Dn mL_law 1014 (.iaload) 1 1015 := ⟨by decide +kernel, rfl⟩
theorem eL_law_1015 : Dn mL_law 1015 (.aload_n 0) 1 1016 := ⟨by decide +kernel, rfl⟩
theorem eL_law_1016 : Dn mL_law 1016 (.iload_n 3) 1 1017 := ⟨by decide +kernel, rfl⟩
theorem eL_law_1017 : Dn mL_law 1017 (.iconst 2) 1 1018 := ⟨by decide +kernel, rfl⟩
theorem eL_law_1018 : Dn mL_law 1018 (.iadd) 1 1019 := ⟨by decide +kernel, rfl⟩
theorem eL_law_1019 : Dn mL_law 1019 (.iaload) 1 1020 := ⟨by decide +kernel, rfl⟩
theorem eL_law_1020 : Dn mL_law 1020 (.invokevirtual 116) 3 1023 := ⟨by decide +kernel, rfl⟩
theorem eL_law_1023 : Dn mL_law 1023 (.aload_n 2) 1 1024 := ⟨by decide +kernel, rfl⟩
theorem eL_law_1024 : Dn mL_law 1024 (.aload_n 0) 1 1025 := ⟨by decide +kernel, rfl⟩
theorem eL_law_1025 : Dn mL_law 1025 (.iload_n 3) 1 1026 := ⟨by decide +kernel, rfl⟩
theorem eL_law_1026 : Dn mL_law 1026 (.iconst 1) 1 1027 := ⟨by decide +kernel, rfl⟩
theorem eL_law_1027 : Dn mL_law 1027 (.iadd) 1 1028 := ⟨by decide +kernel, rfl⟩
theorem eL_law_1028 : Dn mL_law 1028 (.iaload) 1 1029 := ⟨by decide +kernel, rfl⟩
theorem eL_law_1029 : Dn mL_law 1029 (.aload_n 0) 1 1030 := ⟨by decide +kernel, rfl⟩
theorem eL_law_1030 : Dn mL_law 1030 (.iload_n 3) 1 1031 := ⟨by decide +kernel, rfl⟩
theorem eL_law_1031 : Dn mL_law 1031 (.iconst 2) 1 1032 := ⟨by decide +kernel, rfl⟩
theorem eL_law_1032 : Dn mL_law 1032 (.iadd) 1 1033 := ⟨by decide +kernel, rfl⟩
theorem eL_law_1033 : Dn mL_law 1033 (.iaload) 1 1034 := ⟨by decide +kernel, rfl⟩
theorem eL_law_1034 : Dn mL_law 1034 (.invokevirtual 119) 3 1037 := ⟨by decide +kernel, rfl⟩
theorem eL_law_1037 : Dj mL_law 1037 (.if_icmp .eq 500) (500) 1040 1537 := ⟨by decide +kernel, rfl, rfl⟩
theorem eL_law_1040 : Dn mL_law 1040 (.iconst 0) 1 1041 := ⟨by decide +kernel, rfl⟩
theorem eL_law_1041 : Dn mL_law 1041 (.ireturn) 1 1042 := ⟨by decide +kernel, rfl⟩
theorem eL_law_1042 : Dn mL_law 1042 (.aload_n 1) 1 1043 := ⟨by decide +kernel, rfl⟩
theorem eL_law_1043 : Dn mL_law 1043 (.aload_n 0) 1 1044 := ⟨by decide +kernel, rfl⟩
theorem eL_law_1044 : Dn mL_law 1044 (.iload_n 3) 1 1045 := ⟨by decide +kernel, rfl⟩
theorem eL_law_1045 : Dn mL_law 1045 (.iconst 1) 1 1046 := ⟨by decide +kernel, rfl⟩
theorem eL_law_1046 : Dn mL_law 1046 (.iadd) 1 1047 := ⟨by decide +kernel, rfl⟩
theorem eL_law_1047 : Dn mL_law 1047 (.iaload) 1 1048 := ⟨by decide +kernel, rfl⟩
theorem eL_law_1048 : Dn mL_law 1048 (.invokevirtual 120) 3 1051 := ⟨by decide +kernel, rfl⟩
theorem eL_law_1051 : Dn mL_law 1051 (.aload_n 2) 1 1052 := ⟨by decide +kernel, rfl⟩
theorem eL_law_1052 : Dn mL_law 1052 (.aload_n 0) 1 1053 := ⟨by decide +kernel, rfl⟩
theorem eL_law_1053 : Dn mL_law 1053 (.iload_n 3) 1 1054 := ⟨by decide +kernel, rfl⟩
theorem eL_law_1054 : Dn mL_law 1054 (.iconst 1) 1 1055 := ⟨by decide +kernel, rfl⟩
theorem eL_law_1055 : Dn mL_law 1055 (.iadd) 1 1056 := ⟨by decide +kernel, rfl⟩
theorem eL_law_1056 : Dn mL_law 1056 (.iaload) 1 1057 := ⟨by decide +kernel, rfl⟩
theorem eL_law_1057 : Dn mL_law 1057 (.invokevirtual 123) 3 1060 := ⟨by decide +kernel, rfl⟩
theorem eL_law_1060 : Dj mL_law 1060 (.if_icmp .eq 477) (477) 1063 1537 := ⟨by decide +kernel, rfl, rfl⟩
theorem eL_law_1063 : Dn mL_law 1063 (.iconst 0) 1 1064 := ⟨by decide +kernel, rfl⟩
theorem eL_law_1064 : Dn mL_law 1064 (.ireturn) 1 1065 := ⟨by decide +kernel, rfl⟩
theorem eL_law_1065 : Dn mL_law 1065 (.aload_n 1) 1 1066 := ⟨by decide +kernel, rfl⟩
theorem eL_law_1066 : Dn mL_law 1066 (.aload_n 0) 1 1067 := ⟨by decide +kernel, rfl⟩
theorem eL_law_1067 : Dn mL_law 1067 (.iload_n 3) 1 1068 := ⟨by decide +kernel, rfl⟩
theorem eL_law_1068 : Dn mL_law 1068 (.iconst 1) 1 1069 := ⟨by decide +kernel, rfl⟩
theorem eL_law_1069 : Dn mL_law 1069 (.iadd) 1 1070 := ⟨by decide +kernel, rfl⟩
theorem eL_law_1070 : Dn mL_law 1070 (.iaload) 1 1071 := ⟨by decide +kernel, rfl⟩
theorem eL_law_1071 : Dn mL_law 1071 (.aload_n 0) 1 1072 := ⟨by decide +kernel, rfl⟩
theorem eL_law_1072 : Dn mL_law 1072 (.iload_n 3) 1 1073 := ⟨by decide +kernel, rfl⟩
theorem eL_law_1073 : Dn mL_law 1073 (.iconst 2) 1 1074 := ⟨by decide +kernel, rfl⟩
theorem eL_law_1074 : Dn mL_law 1074 (.iadd) 1 1075 := ⟨by decide +kernel, rfl⟩
theorem eL_law_1075 : Dn mL_law 1075 (.iaload) 1 1076 := ⟨by decide +kernel, rfl⟩
theorem eL_law_1076 : Dn mL_law 1076 (.aload_n 0) 1 1077 := ⟨by decide +kernel, rfl⟩
theorem eL_law_1077 : Dn mL_law 1077 (.iload_n 3) 1 1078 := ⟨by decide +kernel, rfl⟩
theorem eL_law_1078 : Dn mL_law 1078 (.iconst 3) 1 1079 := ⟨by decide +kernel, rfl⟩
theorem eL_law_1079 : Dn mL_law 1079 (.iadd) 1 1080 := ⟨by decide +kernel, rfl⟩
end
section
theorem eL_law_1080 : Dn mL_law 1080 (.iaload) 1 1081 := ⟨by decide +kernel, rfl⟩
theorem eL_law_1081 : Dn mL_law 1081 (.invokevirtual 124) 3 1084 := ⟨by decide +kernel, rfl⟩
theorem eL_law_1084 : Dn mL_law 1084 (.aload_n 2) 1 1085 := ⟨by decide +kernel, rfl⟩
theorem eL_law_1085 : Dn mL_law 1085 (.aload_n 0) 1 1086 := ⟨by decide +kernel, rfl⟩
theorem eL_law_1086 : Dn mL_law 1086 (.iload_n 3) 1 1087 := ⟨by decide +kernel, rfl⟩
theorem eL_law_1087 : Dn mL_law 1087 (.iconst 1) 1 1088 := ⟨by decide +kernel, rfl⟩
theorem eL_law_1088 : Dn mL_law 1088 (.iadd) 1 1089 := ⟨by decide +kernel, rfl⟩
theorem eL_law_1089 : Dn mL_law 1089 (.iaload) 1 1090 := ⟨by decide +kernel, rfl⟩
theorem eL_law_1090 : Dn mL_law 1090 (.aload_n 0) 1 1091 := ⟨by decide +kernel, rfl⟩
theorem eL_law_1091 : Dn mL_law 1091 (.iload_n 3) 1 1092 := ⟨by decide +kernel, rfl⟩
theorem eL_law_1092 : Dn mL_law 1092 (.iconst 2) 1 1093 := ⟨by decide +kernel, rfl⟩
theorem eL_law_1093 : Dn mL_law 1093 (.iadd) 1 1094 := ⟨by decide +kernel, rfl⟩
theorem eL_law_1094 : Dn mL_law 1094 (.iaload) 1 1095 := ⟨by decide +kernel, rfl⟩
theorem eL_law_1095 : Dn mL_law 1095 (.aload_n 0) 1 1096 := ⟨by decide +kernel, rfl⟩
theorem eL_law_1096 : Dn mL_law 1096 (.iload_n 3) 1 1097 := ⟨by decide +kernel, rfl⟩
theorem eL_law_1097 : Dn mL_law 1097 (.iconst 3) 1 1098 := ⟨by decide +kernel, rfl⟩
theorem eL_law_1098 : Dn mL_law 1098 (.iadd) 1 1099 := ⟨by decide +kernel, rfl⟩
theorem eL_law_1099 : Dn mL_law 1099 (.iaload) 1 1100 := ⟨by decide +kernel, rfl⟩
theorem eL_law_1100 : Dn mL_law 1100 (.invokevirtual 128) 3 1103 := ⟨by decide +kernel, rfl⟩
theorem eL_law_1103 : Dn mL_law 1103 (.lcmp) 1 1104 := ⟨by decide +kernel, rfl⟩
theorem eL_law_1104 : Dj mL_law 1104 (.ifCond .eq 433) (433) 1107 1537 := ⟨by decide +kernel, rfl, rfl⟩
theorem eL_law_1107 : Dn mL_law 1107 (.iconst 0) 1 1108 := ⟨by decide +kernel, rfl⟩
theorem eL_law_1108 : Dn mL_law 1108 (.ireturn) 1 1109 := ⟨by decide +kernel, rfl⟩
theorem eL_law_1109 : Dn mL_law 1109 (.aload_n 1) 1 1110 := ⟨by decide +kernel, rfl⟩
theorem eL_law_1110 : Dn mL_law 1110 (.aload_n 0) 1 1111 := ⟨by decide +kernel, rfl⟩
theorem eL_law_1111 : Dn mL_law 1111 (.iload_n 3) 1 1112 := ⟨by decide +kernel, rfl⟩
theorem eL_law_1112 : Dn mL_law 1112 (.iconst 1) 1 1113 := ⟨by decide +kernel, rfl⟩
theorem eL_law_1113 : Dn mL_law 1113 (.iadd) 1 1114 := ⟨by decide +kernel, rfl⟩
theorem eL_law_1114 : Dn mL_law 1114 (.iaload) 1 1115 := ⟨by decide +kernel, rfl⟩
theorem eL_law_1115 : Dn mL_law 1115 (.invokevirtual 129) 3 1118 := ⟨by decide +kernel, rfl⟩
theorem eL_law_1118 : Dn mL_law 1118 (.aload_n 2) 1 1119 := ⟨by decide +kernel, rfl⟩
theorem eL_law_1119 : Dn mL_law 1119 (.aload_n 0) 1 1120 := ⟨by decide +kernel, rfl⟩
theorem eL_law_1120 : Dn mL_law 1120 (.iload_n 3) 1 1121 := ⟨by decide +kernel, rfl⟩
theorem eL_law_1121 : Dn mL_law 1121 (.iconst 1) 1 1122 := ⟨by decide +kernel, rfl⟩
theorem eL_law_1122 : Dn mL_law 1122 (.iadd) 1 1123 := ⟨by decide +kernel, rfl⟩
theorem eL_law_1123 : Dn mL_law 1123 (.iaload) 1 1124 := ⟨by decide +kernel, rfl⟩
theorem eL_law_1124 : Dn mL_law 1124 (.invokevirtual 132) 3 1127 := ⟨by decide +kernel, rfl⟩
theorem eL_law_1127 : Dj mL_law 1127 (.if_icmp .eq 410) (410) 1130 1537 := ⟨by decide +kernel, rfl, rfl⟩
theorem eL_law_1130 : Dn mL_law 1130 (.iconst 0) 1 1131 := ⟨by decide +kernel, rfl⟩
theorem eL_law_1131 : Dn mL_law 1131 (.ireturn) 1 1132 := ⟨by decide +kernel, rfl⟩
theorem eL_law_1132 : Dn mL_law 1132 (.aload_n 1) 1 1133 := ⟨by decide +kernel, rfl⟩
theorem eL_law_1133 : Dn mL_law 1133 (.aload_n 0) 1 1134 := ⟨by decide +kernel, rfl⟩
theorem eL_law_1134 : Dn mL_law 1134 (.iload_n 3) 1 1135 := ⟨by decide +kernel, rfl⟩
theorem eL_law_1135 : Dn mL_law 1135 (.iconst 1) 1 1136 := ⟨by decide +kernel, rfl⟩
theorem eL_law_1136 : Dn mL_law 1136 (.iadd) 1 1137 := ⟨by decide +kernel, rfl⟩
theorem eL_law_1137 : Dn mL_law 1137 (.iaload) 1 1138 := ⟨by decide +kernel, rfl⟩
theorem eL_law_1138 : Dn mL_law 1138 (.aload_n 0) 1 1139 := ⟨by decide +kernel, rfl⟩
theorem eL_law_1139 : Dn mL_law 1139 (.iload_n 3) 1 1140 := ⟨by decide +kernel, rfl⟩
theorem eL_law_1140 : Dn mL_law 1140 (.iconst 2) 1 1141 := ⟨by decide +kernel, rfl⟩
theorem eL_law_1141 : Dn mL_law 1141 (.iadd) 1 1142 := ⟨by decide +kernel, rfl⟩
theorem eL_law_1142 : Dn mL_law 1142 (.iaload) 1 1143 := ⟨by decide +kernel, rfl⟩
theorem eL_law_1143 : Dn mL_law 1143 (.invokevirtual 133) 3 1146 := ⟨by decide +kernel, rfl⟩
theorem eL_law_1146 : Dn mL_law 1146 (.aload_n 2) 1 1147 := ⟨by decide +kernel, rfl⟩
theorem eL_law_1147 : Dn mL_law 1147 (.aload_n 0) 1 1148 := ⟨by decide +kernel, rfl⟩
theorem eL_law_1148 : Dn mL_law 1148 (.iload_n 3) 1 1149 := ⟨by decide +kernel, rfl⟩
theorem eL_law_1149 : Dn mL_law 1149 (.iconst 1) 1 1150 := ⟨by decide +kernel, rfl⟩
theorem eL_law_1150 : Dn mL_law 1150 (.iadd) 1 1151 := ⟨by decide +kernel, rfl⟩
theorem eL_law_1151 : Dn mL_law 1151 (.iaload) 1 1152 := ⟨by decide +kernel, rfl⟩
theorem eL_law_1152 : Dn mL_law 1152 (.aload_n 0) 1 1153 := ⟨by decide +kernel, rfl⟩
theorem eL_law_1153 : Dn mL_law 1153 (.iload_n 3) 1 1154 := ⟨by decide +kernel, rfl⟩
theorem eL_law_1154 : Dn mL_law 1154 (.iconst 2) 1 1155 := ⟨by decide +kernel, rfl⟩
theorem eL_law_1155 : Dn mL_law 1155 (.iadd) 1 1156 := ⟨by decide +kernel, rfl⟩
theorem eL_law_1156 : Dn mL_law 1156 (.iaload) 1 1157 := ⟨by decide +kernel, rfl⟩
theorem eL_law_1157 : Dn mL_law 1157 (.invokevirtual 136) 3 1160 := ⟨by decide +kernel, rfl⟩
theorem eL_law_1160 : Dj mL_law 1160 (.if_icmp .eq 377) (377) 1163 1537 := ⟨by decide +kernel, rfl, rfl⟩
theorem eL_law_1163 : Dn mL_law 1163 (.iconst 0) 1 1164 := ⟨by decide +kernel, rfl⟩
theorem eL_law_1164 : Dn mL_law 1164 (.ireturn) 1 1165 := ⟨by decide +kernel, rfl⟩
theorem eL_law_1165 : Dn mL_law 1165 (.aload_n 1) 1 1166 := ⟨by decide +kernel, rfl⟩
theorem eL_law_1166 : Dn mL_law 1166 (.invokevirtual 137) 3 1169 := ⟨by decide +kernel, rfl⟩
theorem eL_law_1169 : Dn mL_law 1169 (.aload_n 2) 1 1170 := ⟨by decide +kernel, rfl⟩
theorem eL_law_1170 : Dn mL_law 1170 (.invokevirtual 141) 3 1173 := ⟨by decide +kernel, rfl⟩
theorem eL_law_1173 : Dj mL_law 1173 (.if_icmp .eq 364) (364) 1176 1537 := ⟨by decide +kernel, rfl, rfl⟩
theorem eL_law_1176 : Dn mL_law 1176 (.iconst 0) 1 1177 := ⟨by decide +kernel, rfl⟩
theorem eL_law_1177 : Dn mL_law 1177 (.ireturn) 1 1178 := ⟨by decide +kernel, rfl⟩
theorem eL_law_1178 : Dn mL_law 1178 (.aload_n 1) 1 1179 := ⟨by decide +kernel, rfl⟩
theorem eL_law_1179 : Dn mL_law 1179 (.invokevirtual 142) 3 1182 := ⟨by decide +kernel, rfl⟩
theorem eL_law_1182 : Dn mL_law 1182 (.aload_n 2) 1 1183 := ⟨by decide +kernel, rfl⟩
theorem eL_law_1183 : Dn mL_law 1183 (.invokevirtual 145) 3 1186 := ⟨by decide +kernel, rfl⟩
theorem eL_law_1186 : Dj mL_law 1186 (.if_icmp .eq 351) (351) 1189 1537 := ⟨by decide +kernel, rfl, rfl⟩
theorem eL_law_1189 : Dn mL_law 1189 (.iconst 0) 1 1190 := ⟨by decide +kernel, rfl⟩
theorem eL_law_1190 : Dn mL_law 1190 (.ireturn) 1 1191 := ⟨by decide +kernel, rfl⟩
theorem eL_law_1191 : Dn mL_law 1191 (.aload_n 1) 1 1192 := ⟨by decide +kernel, rfl⟩
theorem eL_law_1192 : Dn mL_law 1192 (.aload_n 0) 1 1193 := ⟨by decide +kernel, rfl⟩
theorem eL_law_1193 : Dn mL_law 1193 (.iload_n 3) 1 1194 := ⟨by decide +kernel, rfl⟩
theorem eL_law_1194 : Dn mL_law 1194 (.iconst 1) 1 1195 := ⟨by decide +kernel, rfl⟩
theorem eL_law_1195 : Dn mL_law 1195 (.iadd) 1 1196 := ⟨by decide +kernel, rfl⟩
theorem eL_law_1196 : Dn mL_law 1196 (.iaload) 1 1197 := ⟨by decide +kernel, rfl⟩
theorem eL_law_1197 : Dn mL_law 1197 (.aload_n 0) 1 1198 := ⟨by decide +kernel, rfl⟩
theorem eL_law_1198 : Dn mL_law 1198 (.iload_n 3) 1 1199 := ⟨by decide +kernel, rfl⟩
theorem eL_law_1199 : Dn mL_law 1199 (.iconst 2) 1 1200 := ⟨by decide +kernel, rfl⟩
theorem eL_law_1200 : Dn mL_law 1200 (.iadd) 1 1201 := ⟨by decide +kernel, rfl⟩
theorem eL_law_1201 : Dn mL_law 1201 (.iaload) 1 1202 := ⟨by decide +kernel, rfl⟩
theorem eL_law_1202 : Dn mL_law 1202 (.invokevirtual 146) 3 1205 := ⟨by decide +kernel, rfl⟩
theorem eL_law_1205 : Dn mL_law 1205 (.aload_n 2) 1 1206 := ⟨by decide +kernel, rfl⟩
theorem eL_law_1206 : Dn mL_law 1206 (.aload_n 0) 1 1207 := ⟨by decide +kernel, rfl⟩
theorem eL_law_1207 : Dn mL_law 1207 (.iload_n 3) 1 1208 := ⟨by decide +kernel, rfl⟩
theorem eL_law_1208 : Dn mL_law 1208 (.iconst 1) 1 1209 := ⟨by decide +kernel, rfl⟩
theorem eL_law_1209 : Dn mL_law 1209 (.iadd) 1 1210 := ⟨by decide +kernel, rfl⟩
theorem eL_law_1210 : Dn mL_law 1210 (.iaload) 1 1211 := ⟨by decide +kernel, rfl⟩
theorem eL_law_1211 : Dn mL_law 1211 (.aload_n 0) 1 1212 := ⟨by decide +kernel, rfl⟩
theorem eL_law_1212 : Dn mL_law 1212 (.iload_n 3) 1 1213 := ⟨by decide +kernel, rfl⟩
theorem eL_law_1213 : Dn mL_law 1213 (.iconst 2) 1 1214 := ⟨by decide +kernel, rfl⟩
theorem eL_law_1214 : Dn mL_law 1214 (.iadd) 1 1215 := ⟨by decide +kernel, rfl⟩
theorem eL_law_1215 : Dn mL_law 1215 (.iaload) 1 1216 := ⟨by decide +kernel, rfl⟩
theorem eL_law_1216 : Dn mL_law 1216 (.invokevirtual 149) 3 1219 := ⟨by decide +kernel, rfl⟩
theorem eL_law_1219 : Dj mL_law 1219 (.if_icmp .eq 318) (318) 1222 1537 := ⟨by decide +kernel, rfl, rfl⟩
theorem eL_law_1222 : Dn mL_law 1222 (.iconst 0) 1 1223 := ⟨by decide +kernel, rfl⟩
theorem eL_law_1223 : Dn mL_law 1223 (.ireturn) 1 1224 := ⟨by decide +kernel, rfl⟩
theorem eL_law_1224 : Dn mL_law 1224 (.aload_n 1) 1 1225 := ⟨by decide +kernel, rfl⟩
theorem eL_law_1225 : Dn mL_law 1225 (.aload_n 0) 1 1226 := ⟨by decide +kernel, rfl⟩
theorem eL_law_1226 : Dn mL_law 1226 (.iload_n 3) 1 1227 := ⟨by decide +kernel, rfl⟩
theorem eL_law_1227 : Dn mL_law 1227 (.iconst 1) 1 1228 := ⟨by decide +kernel, rfl⟩
theorem eL_law_1228 : Dn mL_law 1228 (.iadd) 1 1229 := ⟨by decide +kernel, rfl⟩
theorem eL_law_1229 : Dn mL_law 1229 (.iaload) 1 1230 := ⟨by decide +kernel, rfl⟩
theorem eL_law_1230 : Dn mL_law 1230 (.aload_n 0) 1 1231 := ⟨by decide +kernel, rfl⟩
theorem eL_law_1231 : Dn mL_law 1231 (.iload_n 3) 1 1232 := ⟨by decide +kernel, rfl⟩
theorem eL_law_1232 : Dn mL_law 1232 (.iconst 2) 1 1233 := ⟨by decide +kernel, rfl⟩
theorem eL_law_1233 : Dn mL_law 1233 (.iadd) 1 1234 := ⟨by decide +kernel, rfl⟩
theorem eL_law_1234 : Dn mL_law 1234 (.iaload) 1 1235 := ⟨by decide +kernel, rfl⟩
theorem eL_law_1235 : Dn mL_law 1235 (.invokevirtual 150) 3 1238 := ⟨by decide +kernel, rfl⟩
theorem eL_law_1238 : Dn mL_law 1238 (.aload_n 2) 1 1239 := ⟨by decide +kernel, rfl⟩
theorem eL_law_1239 : Dn mL_law 1239 (.aload_n 0) 1 1240 := ⟨by decide +kernel, rfl⟩
theorem eL_law_1240 : Dn mL_law 1240 (.iload_n 3) 1 1241 := ⟨by decide +kernel, rfl⟩
theorem eL_law_1241 : Dn mL_law 1241 (.iconst 1) 1 1242 := ⟨by decide +kernel, rfl⟩
theorem eL_law_1242 : Dn mL_law 1242 (.iadd) 1 1243 := ⟨by decide +kernel, rfl⟩
theorem eL_law_1243 : Dn mL_law 1243 (.iaload) 1 1244 := ⟨by decide +kernel, rfl⟩
theorem eL_law_1244 : Dn mL_law 1244 (.aload_n 0) 1 1245 := ⟨by decide +kernel, rfl⟩
theorem eL_law_1245 : Dn mL_law 1245 (.iload_n 3) 1 1246 := ⟨by decide +kernel, rfl⟩
theorem eL_law_1246 : Dn mL_law 1246 (.iconst 2) 1 1247 := ⟨by decide +kernel, rfl⟩
theorem eL_law_1247 : Dn mL_law 1247 (.iadd) 1 1248 := ⟨by decide +kernel, rfl⟩
theorem eL_law_1248 : Dn mL_law 1248 (.iaload) 1 1249 := ⟨by decide +kernel, rfl⟩
theorem eL_law_1249 : Dn mL_law 1249 (.invokevirtual 153) 3 1252 := ⟨by decide +kernel, rfl⟩
theorem eL_law_1252 : Dj mL_law 1252 (.if_icmp .eq 285) (285) 1255 1537 := ⟨by decide +kernel, rfl, rfl⟩
theorem eL_law_1255 : Dn mL_law 1255 (.iconst 0) 1 1256 := ⟨by decide +kernel, rfl⟩
theorem eL_law_1256 : Dn mL_law 1256 (.ireturn) 1 1257 := ⟨by decide +kernel, rfl⟩
theorem eL_law_1257 : Dn mL_law 1257 (.aload_n 1) 1 1258 := ⟨by decide +kernel, rfl⟩
theorem eL_law_1258 : Dn mL_law 1258 (.aload_n 0) 1 1259 := ⟨by decide +kernel, rfl⟩
theorem eL_law_1259 : Dn mL_law 1259 (.iload_n 3) 1 1260 := ⟨by decide +kernel, rfl⟩
theorem eL_law_1260 : Dn mL_law 1260 (.iconst 1) 1 1261 := ⟨by decide +kernel, rfl⟩
theorem eL_law_1261 : Dn mL_law 1261 (.iadd) 1 1262 := ⟨by decide +kernel, rfl⟩
theorem eL_law_1262 : Dn mL_law 1262 (.iaload) 1 1263 := ⟨by decide +kernel, rfl⟩
theorem eL_law_1263 : Dn mL_law 1263 (.aload_n 0) 1 1264 := ⟨by decide +kernel, rfl⟩
theorem eL_law_1264 : Dn mL_law 1264 (.iload_n 3) 1 1265 := ⟨by decide +kernel, rfl⟩
theorem eL_law_1265 : Dn mL_law 1265 (.iconst 2) 1 1266 := ⟨by decide +kernel, rfl⟩
theorem eL_law_1266 : Dn mL_law 1266 (.iadd) 1 1267 := ⟨by decide +kernel, rfl⟩
theorem eL_law_1267 : Dn mL_law 1267 (.iaload) 1 1268 := ⟨by decide +kernel, rfl⟩
theorem eL_law_1268 : Dn mL_law 1268 (.aload_n 0) 1 1269 := ⟨by decide +kernel, rfl⟩
theorem eL_law_1269 : Dn mL_law 1269 (.iload_n 3) 1 1270 := ⟨by decide +kernel, rfl⟩
theorem eL_law_1270 : Dn mL_law 1270 (.iconst 3) 1 1271 := ⟨by decide +kernel, rfl⟩
theorem eL_law_1271 : Dn mL_law 1271 (.iadd) 1 1272 := ⟨by decide +kernel, rfl⟩
theorem eL_law_1272 : Dn mL_law 1272 (.iaload) 1 1273 := ⟨by decide +kernel, rfl⟩
theorem eL_law_1273 : Dn mL_law 1273 (.invokevirtual 154) 3 1276 := ⟨by decide +kernel, rfl⟩
theorem eL_law_1276 : Dn mL_law 1276 (.aload_n 2) 1 1277 := ⟨by decide +kernel, rfl⟩
theorem eL_law_1277 : Dn mL_law 1277 (.aload_n 0) 1 1278 := ⟨by decide +kernel, rfl⟩
theorem eL_law_1278 : Dn mL_law 1278 (.iload_n 3) 1 1279 := ⟨by decide +kernel, rfl⟩
theorem eL_law_1279 : Dn mL_law 1279 (.iconst 1) 1 1280 := ⟨by decide +kernel, rfl⟩
theorem eL_law_1280 : Dn mL_law 1280 (.iadd) 1 1281 := ⟨by decide +kernel, rfl⟩
theorem eL_law_1281 : Dn mL_law 1281 (.iaload) 1 1282 := ⟨by decide +kernel, rfl⟩
theorem eL_law_1282 : Dn mL_law 1282 (.aload_n 0) 1 1283 := ⟨by decide +kernel, rfl⟩
theorem eL_law_1283 : Dn mL_law 1283 (.iload_n 3) 1 1284 := ⟨by decide +kernel, rfl⟩
theorem eL_law_1284 : Dn mL_law 1284 (.iconst 2) 1 1285 := ⟨by decide +kernel, rfl⟩
theorem eL_law_1285 : Dn mL_law 1285 (.iadd) 1 1286 := ⟨by decide +kernel, rfl⟩
theorem eL_law_1286 : Dn mL_law 1286 (.iaload) 1 1287 := ⟨by decide +kernel, rfl⟩
theorem eL_law_1287 : Dn mL_law 1287 (.aload_n 0) 1 1288 := ⟨by decide +kernel, rfl⟩
theorem eL_law_1288 : Dn mL_law 1288 (.iload_n 3) 1 1289 := ⟨by decide +kernel, rfl⟩
theorem eL_law_1289 : Dn mL_law 1289 (.iconst 3) 1 1290 := ⟨by decide +kernel, rfl⟩
theorem eL_law_1290 : Dn mL_law 1290 (.iadd) 1 1291 := ⟨by decide +kernel, rfl⟩
theorem eL_law_1291 : Dn mL_law 1291 (.iaload) 1 1292 := ⟨by decide +kernel, rfl⟩
theorem eL_law_1292 : Dn mL_law 1292 (.invokevirtual 157) 3 1295 := ⟨by decide +kernel, rfl⟩
theorem eL_law_1295 : Dj mL_law 1295 (.if_icmp .eq 242) (242) 1298 1537 := ⟨by decide +kernel, rfl, rfl⟩
theorem eL_law_1298 : Dn mL_law 1298 (.iconst 0) 1 1299 := ⟨by decide +kernel, rfl⟩
theorem eL_law_1299 : Dn mL_law 1299 (.ireturn) 1 1300 := ⟨by decide +kernel, rfl⟩
theorem eL_law_1300 : Dn mL_law 1300 (.aload_n 1) 1 1301 := ⟨by decide +kernel, rfl⟩
theorem eL_law_1301 : Dn mL_law 1301 (.aload_n 0) 1 1302 := ⟨by decide +kernel, rfl⟩
theorem eL_law_1302 : Dn mL_law 1302 (.iload_n 3) 1 1303 := ⟨by decide +kernel, rfl⟩
theorem eL_law_1303 : Dn mL_law 1303 (.iconst 1) 1 1304 := ⟨by decide +kernel, rfl⟩
theorem eL_law_1304 : Dn mL_law 1304 (.iadd) 1 1305 := ⟨by decide +kernel, rfl⟩
theorem eL_law_1305 : Dn mL_law 1305 (.iaload) 1 1306 := ⟨by decide +kernel, rfl⟩
theorem eL_law_1306 : Dn mL_law 1306 (.aload_n 0) 1 1307 := ⟨by decide +kernel, rfl⟩
theorem eL_law_1307 : Dn mL_law 1307 (.iload_n 3) 1 1308 := ⟨by decide +kernel, rfl⟩
theorem eL_law_1308 : Dn mL_law 1308 (.iconst 2) 1 1309 := ⟨by decide +kernel, rfl⟩
theorem eL_law_1309 : Dn mL_law 1309 (.iadd) 1 1310 := ⟨by decide +kernel, rfl⟩
theorem eL_law_1310 : Dn mL_law 1310 (.iaload) 1 1311 := ⟨by decide +kernel, rfl⟩
theorem eL_law_1311 : Dn mL_law 1311 (.aload_n 0) 1 1312 := ⟨by decide +kernel, rfl⟩
theorem eL_law_1312 : Dn mL_law 1312 (.iload_n 3) 1 1313 := ⟨by decide +kernel, rfl⟩
theorem eL_law_1313 : Dn mL_law 1313 (.iconst 3) 1 1314 := ⟨by decide +kernel, rfl⟩
theorem eL_law_1314 : Dn mL_law 1314 (.iadd) 1 1315 := ⟨by decide +kernel, rfl⟩
theorem eL_law_1315 : Dn mL_law 1315 (.iaload) 1 1316 := ⟨by decide +kernel, rfl⟩
theorem eL_law_1316 : Dn mL_law 1316 (.invokevirtual 158) 3 1319 := ⟨by decide +kernel, rfl⟩
theorem eL_law_1319 : Dn mL_law 1319 (.aload_n 2) 1 1320 := ⟨by decide +kernel, rfl⟩
theorem eL_law_1320 : Dn mL_law 1320 (.aload_n 0) 1 1321 := ⟨by decide +kernel, rfl⟩
theorem eL_law_1321 : Dn mL_law 1321 (.iload_n 3) 1 1322 := ⟨by decide +kernel, rfl⟩
theorem eL_law_1322 : Dn mL_law 1322 (.iconst 1) 1 1323 := ⟨by decide +kernel, rfl⟩
theorem eL_law_1323 : Dn mL_law 1323 (.iadd) 1 1324 := ⟨by decide +kernel, rfl⟩
theorem eL_law_1324 : Dn mL_law 1324 (.iaload) 1 1325 := ⟨by decide +kernel, rfl⟩
theorem eL_law_1325 : Dn mL_law 1325 (.aload_n 0) 1 1326 := ⟨by decide +kernel, rfl⟩
theorem eL_law_1326 : Dn mL_law 1326 (.iload_n 3) 1 1327 := ⟨by decide +kernel, rfl⟩
theorem eL_law_1327 : Dn mL_law 1327 (.iconst 2) 1 1328 := ⟨by decide +kernel, rfl⟩
theorem eL_law_1328 : Dn mL_law 1328 (.iadd) 1 1329 := ⟨by decide +kernel, rfl⟩
theorem eL_law_1329 : Dn mL_law 1329 (.iaload) 1 1330 := ⟨by decide +kernel, rfl⟩
theorem eL_law_1330 : Dn mL_law 1330 (.aload_n 0) 1 1331 := ⟨by decide +kernel, rfl⟩
theorem eL_law_1331 : Dn mL_law 1331 (.iload_n 3) 1 1332 := ⟨by decide +kernel, rfl⟩
theorem eL_law_1332 : Dn mL_law 1332 (.iconst 3) 1 1333 := ⟨by decide +kernel, rfl⟩
theorem eL_law_1333 : Dn mL_law 1333 (.iadd) 1 1334 := ⟨by decide +kernel, rfl⟩
theorem eL_law_1334 : Dn mL_law 1334 (.iaload) 1 1335 := ⟨by decide +kernel, rfl⟩
theorem eL_law_1335 : Dn mL_law 1335 (.invokevirtual 161) 3 1338 := ⟨by decide +kernel, rfl⟩
theorem eL_law_1338 : Dj mL_law 1338 (.if_icmp .eq 199) (199) 1341 1537 := ⟨by decide +kernel, rfl, rfl⟩
theorem eL_law_1341 : Dn mL_law 1341 (.iconst 0) 1 1342 := ⟨by decide +kernel, rfl⟩
theorem eL_law_1342 : Dn mL_law 1342 (.ireturn) 1 1343 := ⟨by decide +kernel, rfl⟩
theorem eL_law_1343 : Dn mL_law 1343 (.aload_n 1) 1 1344 := ⟨by decide +kernel, rfl⟩
theorem eL_law_1344 : Dn mL_law 1344 (.aload_n 0) 1 1345 := ⟨by decide +kernel, rfl⟩
theorem eL_law_1345 : Dn mL_law 1345 (.iload_n 3) 1 1346 := ⟨by decide +kernel, rfl⟩
theorem eL_law_1346 : Dn mL_law 1346 (.iconst 1) 1 1347 := ⟨by decide +kernel, rfl⟩
theorem eL_law_1347 : Dn mL_law 1347 (.iadd) 1 1348 := ⟨by decide +kernel, rfl⟩
theorem eL_law_1348 : Dn mL_law 1348 (.iaload) 1 1349 := ⟨by decide +kernel, rfl⟩
theorem eL_law_1349 : Dn mL_law 1349 (.aload_n 0) 1 1350 := ⟨by decide +kernel, rfl⟩
theorem eL_law_1350 : Dn mL_law 1350 (.iload_n 3) 1 1351 := ⟨by decide +kernel, rfl⟩
theorem eL_law_1351 : Dn mL_law 1351 (.iconst 2) 1 1352 := ⟨by decide +kernel, rfl⟩
theorem eL_law_1352 : Dn mL_law 1352 (.iadd) 1 1353 := ⟨by decide +kernel, rfl⟩
theorem eL_law_1353 : Dn mL_law 1353 (.iaload) 1 1354 := ⟨by decide +kernel, rfl⟩
theorem eL_law_1354 : Dn mL_law 1354 (.aload_n 0) 1 1355 := ⟨by decide +kernel, rfl⟩
theorem eL_law_1355 : Dn mL_law 1355 (.iload_n 3) 1 1356 := ⟨by decide +kernel, rfl⟩
theorem eL_law_1356 : Dn mL_law 1356 (.iconst 3) 1 1357 := ⟨by decide +kernel, rfl⟩
theorem eL_law_1357 : Dn mL_law 1357 (.iadd) 1 1358 := ⟨by decide +kernel, rfl⟩
theorem eL_law_1358 : Dn mL_law 1358 (.iaload) 1 1359 := ⟨by decide +kernel, rfl⟩
theorem eL_law_1359 : Dn mL_law 1359 (.aload_n 0) 1 1360 := ⟨by decide +kernel, rfl⟩
theorem eL_law_1360 : Dn mL_law 1360 (.iload_n 3) 1 1361 := ⟨by decide +kernel, rfl⟩
theorem eL_law_1361 : Dn mL_law 1361 (.iconst 4) 1 1362 := ⟨by decide +kernel, rfl⟩
theorem eL_law_1362 : Dn mL_law 1362 (.iadd) 1 1363 := ⟨by decide +kernel, rfl⟩
theorem eL_law_1363 : Dn mL_law 1363 (.iaload) 1 1364 := ⟨by decide +kernel, rfl⟩
theorem eL_law_1364 : Dn mL_law 1364 (.aload_n 0) 1 1365 := ⟨by decide +kernel, rfl⟩
theorem eL_law_1365 : Dn mL_law 1365 (.iload_n 3) 1 1366 := ⟨by decide +kernel, rfl⟩
theorem eL_law_1366 : Dn mL_law 1366 (.iconst 5) 1 1367 := ⟨by decide +kernel, rfl⟩
theorem eL_law_1367 : Dn mL_law 1367 (.iadd) 1 1368 := ⟨by decide +kernel, rfl⟩
theorem eL_law_1368 : Dn mL_law 1368 (.iaload) 1 1369 := ⟨by decide +kernel, rfl⟩
theorem eL_law_1369 : Dn mL_law 1369 (.invokevirtual 162) 3 1372 := ⟨by decide +kernel, rfl⟩
theorem eL_law_1372 : Dn mL_law 1372 (.aload_n 2) 1 1373 := ⟨by decide +kernel, rfl⟩
theorem eL_law_1373 : Dn mL_law 1373 (.aload_n 0) 1 1374 := ⟨by decide +kernel, rfl⟩
theorem eL_law_1374 : Dn mL_law 1374 (.iload_n 3) 1 1375 := ⟨by decide +kernel, rfl⟩
theorem eL_law_1375 : Dn mL_law 1375 (.iconst 1) 1 1376 := ⟨by decide +kernel, rfl⟩
theorem eL_law_1376 : Dn mL_law 1376 (.iadd) 1 1377 := ⟨by decide +kernel, rfl⟩
theorem eL_law_1377 : Dn mL_law 1377 (.iaload) 1 1378 := ⟨by decide +kernel, rfl⟩
theorem eL_law_1378 : Dn mL_law 1378 (.aload_n 0) 1 1379 := ⟨by decide +kernel, rfl⟩
theorem eL_law_1379 : Dn mL_law 1379 (.iload_n 3) 1 1380 := ⟨by decide +kernel, rfl⟩
theorem eL_law_1380 : Dn mL_law 1380 (.iconst 2) 1 1381 := ⟨by decide +kernel, rfl⟩
theorem eL_law_1381 : Dn mL_law 1381 (.iadd) 1 1382 := ⟨by decide +kernel, rfl⟩
theorem eL_law_1382 : Dn mL_law 1382 (.iaload) 1 1383 := ⟨by decide +kernel, rfl⟩
theorem eL_law_1383 : Dn mL_law 1383 (.aload_n 0) 1 1384 := ⟨by decide +kernel, rfl⟩
theorem eL_law_1384 : Dn mL_law 1384 (.iload_n 3) 1 1385 := ⟨by decide +kernel, rfl⟩
theorem eL_law_1385 : Dn mL_law 1385 (.iconst 3) 1 1386 := ⟨by decide +kernel, rfl⟩
theorem eL_law_1386 : Dn mL_law 1386 (.iadd) 1 1387 := ⟨by decide +kernel, rfl⟩
theorem eL_law_1387 : Dn mL_law 1387 (.iaload) 1 1388 := ⟨by decide +kernel, rfl⟩
theorem eL_law_1388 : Dn mL_law 1388 (.aload_n 0) 1 1389 := ⟨by decide +kernel, rfl⟩
theorem eL_law_1389 : Dn mL_law 1389 (.iload_n 3) 1 1390 := ⟨by decide +kernel, rfl⟩
theorem eL_law_1390 : Dn mL_law 1390 (.iconst 4) 1 1391 := ⟨by decide +kernel, rfl⟩
theorem eL_law_1391 : Dn mL_law 1391 (.iadd) 1 1392 := ⟨by decide +kernel, rfl⟩
theorem eL_law_1392 : Dn mL_law 1392 (.iaload) 1 1393 := ⟨by decide +kernel, rfl⟩
theorem eL_law_1393 : Dn mL_law 1393 (.aload_n 0) 1 1394 := ⟨by decide +kernel, rfl⟩
theorem eL_law_1394 : Dn mL_law 1394 (.iload_n 3) 1 1395 := ⟨by decide +kernel, rfl⟩
theorem eL_law_1395 : Dn mL_law 1395 (.iconst 5) 1 1396 := ⟨by decide +kernel, rfl⟩
theorem eL_law_1396 : Dn mL_law 1396 (.iadd) 1 1397 := ⟨by decide +kernel, rfl⟩
theorem eL_law_1397 : Dn mL_law 1397 (.iaload) 1 1398 := ⟨by decide +kernel, rfl⟩
theorem eL_law_1398 : Dn mL_law 1398 (.invokevirtual 166) 3 1401 := ⟨by decide +kernel, rfl⟩
theorem eL_law_1401 : Dj mL_law 1401 (.if_icmp .eq 136) (136) 1404 1537 := ⟨by decide +kernel, rfl, rfl⟩
theorem eL_law_1404 : Dn mL_law 1404 (.iconst 0) 1 1405 := ⟨by decide +kernel, rfl⟩
theorem eL_law_1405 : Dn mL_law 1405 (.ireturn) 1 1406 := ⟨by decide +kernel, rfl⟩
theorem eL_law_1406 : Dn mL_law 1406 (.aload_n 1) 1 1407 := ⟨by decide +kernel, rfl⟩
theorem eL_law_1407 : Dn mL_law 1407 (.aload_n 0) 1 1408 := ⟨by decide +kernel, rfl⟩
theorem eL_law_1408 : Dn mL_law 1408 (.iload_n 3) 1 1409 := ⟨by decide +kernel, rfl⟩
theorem eL_law_1409 : Dn mL_law 1409 (.iconst 1) 1 1410 := ⟨by decide +kernel, rfl⟩
theorem eL_law_1410 : Dn mL_law 1410 (.iadd) 1 1411 := ⟨by decide +kernel, rfl⟩
theorem eL_law_1411 : Dn mL_law 1411 (.iaload) 1 1412 := ⟨by decide +kernel, rfl⟩
theorem eL_law_1412 : Dn mL_law 1412 (.invokevirtual 167) 3 1415 := ⟨by decide +kernel, rfl⟩
theorem eL_law_1415 : Dn mL_law 1415 (.aload_n 2) 1 1416 := ⟨by decide +kernel, rfl⟩
theorem eL_law_1416 : Dn mL_law 1416 (.aload_n 0) 1 1417 := ⟨by decide +kernel, rfl⟩
theorem eL_law_1417 : Dn mL_law 1417 (.iload_n 3) 1 1418 := ⟨by decide +kernel, rfl⟩
theorem eL_law_1418 : Dn mL_law 1418 (.iconst 1) 1 1419 := ⟨by decide +kernel, rfl⟩
theorem eL_law_1419 : Dn mL_law 1419 (.iadd) 1 1420 := ⟨by decide +kernel, rfl⟩
theorem eL_law_1420 : Dn mL_law 1420 (.iaload) 1 1421 := ⟨by decide +kernel, rfl⟩
theorem eL_law_1421 : Dn mL_law 1421 (.invokevirtual 170) 3 1424 := ⟨by decide +kernel, rfl⟩
theorem eL_law_1424 : Dj mL_law 1424 (.if_icmp .eq 113) (113) 1427 1537 := ⟨by decide +kernel, rfl, rfl⟩
theorem eL_law_1427 : Dn mL_law 1427 (.iconst 0) 1 1428 := ⟨by decide +kernel, rfl⟩
theorem eL_law_1428 : Dn mL_law 1428 (.ireturn) 1 1429 := ⟨by decide +kernel, rfl⟩
theorem eL_law_1429 : Dn mL_law 1429 (.aload_n 1) 1 1430 := ⟨by decide +kernel, rfl⟩
theorem eL_law_1430 : Dn mL_law 1430 (.aload_n 0) 1 1431 := ⟨by decide +kernel, rfl⟩
theorem eL_law_1431 : Dn mL_law 1431 (.iload_n 3) 1 1432 := ⟨by decide +kernel, rfl⟩
theorem eL_law_1432 : Dn mL_law 1432 (.iconst 1) 1 1433 := ⟨by decide +kernel, rfl⟩
theorem eL_law_1433 : Dn mL_law 1433 (.iadd) 1 1434 := ⟨by decide +kernel, rfl⟩
theorem eL_law_1434 : Dn mL_law 1434 (.iaload) 1 1435 := ⟨by decide +kernel, rfl⟩
theorem eL_law_1435 : Dn mL_law 1435 (.invokevirtual 171) 3 1438 := ⟨by decide +kernel, rfl⟩
theorem eL_law_1438 : Dn mL_law 1438 (.aload_n 2) 1 1439 := ⟨by decide +kernel, rfl⟩
theorem eL_law_1439 : Dn mL_law 1439 (.aload_n 0) 1 1440 := ⟨by decide +kernel, rfl⟩
theorem eL_law_1440 : Dn mL_law 1440 (.iload_n 3) 1 1441 := ⟨by decide +kernel, rfl⟩
theorem eL_law_1441 : Dn mL_law 1441 (.iconst 1) 1 1442 := ⟨by decide +kernel, rfl⟩
theorem eL_law_1442 : Dn mL_law 1442 (.iadd) 1 1443 := ⟨by decide +kernel, rfl⟩
theorem eL_law_1443 : Dn mL_law 1443 (.iaload) 1 1444 := ⟨by decide +kernel, rfl⟩
theorem eL_law_1444 : Dn mL_law 1444 (.invokevirtual 174) 3 1447 := ⟨by decide +kernel, rfl⟩
theorem eL_law_1447 : Dj mL_law 1447 (.if_icmp .eq 90) (90) 1450 1537 := ⟨by decide +kernel, rfl, rfl⟩
theorem eL_law_1450 : Dn mL_law 1450 (.iconst 0) 1 1451 := ⟨by decide +kernel, rfl⟩
theorem eL_law_1451 : Dn mL_law 1451 (.ireturn) 1 1452 := ⟨by decide +kernel, rfl⟩
theorem eL_law_1452 : Dn mL_law 1452 (.aload_n 1) 1 1453 := ⟨by decide +kernel, rfl⟩
theorem eL_law_1453 : Dn mL_law 1453 (.invokevirtual 175) 3 1456 := ⟨by decide +kernel, rfl⟩
theorem eL_law_1456 : Dn mL_law 1456 (.aload_n 2) 1 1457 := ⟨by decide +kernel, rfl⟩
theorem eL_law_1457 : Dn mL_law 1457 (.invokevirtual 178) 3 1460 := ⟨by decide +kernel, rfl⟩
theorem eL_law_1460 : Dj mL_law 1460 (.if_icmp .eq 77) (77) 1463 1537 := ⟨by decide +kernel, rfl, rfl⟩
theorem eL_law_1463 : Dn mL_law 1463 (.iconst 0) 1 1464 := ⟨by decide +kernel, rfl⟩
theorem eL_law_1464 : Dn mL_law 1464 (.ireturn) 1 1465 := ⟨by decide +kernel, rfl⟩
theorem eL_law_1465 : Dn mL_law 1465 (.aload_n 1) 1 1466 := ⟨by decide +kernel, rfl⟩
theorem eL_law_1466 : Dn mL_law 1466 (.invokevirtual 179) 3 1469 := ⟨by decide +kernel, rfl⟩
theorem eL_law_1469 : Dn mL_law 1469 (.aload_n 2) 1 1470 := ⟨by decide +kernel, rfl⟩
theorem eL_law_1470 : Dn mL_law 1470 (.invokevirtual 182) 3 1473 := ⟨by decide +kernel, rfl⟩
theorem eL_law_1473 : Dj mL_law 1473 (.if_icmp .eq 64) (64) 1476 1537 := ⟨by decide +kernel, rfl, rfl⟩
theorem eL_law_1476 : Dn mL_law 1476 (.iconst 0) 1 1477 := ⟨by decide +kernel, rfl⟩
theorem eL_law_1477 : Dn mL_law 1477 (.ireturn) 1 1478 := ⟨by decide +kernel, rfl⟩
theorem eL_law_1478 : Dn mL_law 1478 (.aload_n 1) 1 1479 := ⟨by decide +kernel, rfl⟩
theorem eL_law_1479 : Dn mL_law 1479 (.invokevirtual 183) 3 1482 := ⟨by decide +kernel, rfl⟩
theorem eL_law_1482 : Dn mL_law 1482 (.aload_n 2) 1 1483 := ⟨by decide +kernel, rfl⟩
theorem eL_law_1483 : Dn mL_law 1483 (.invokevirtual 186) 3 1486 := ⟨by decide +kernel, rfl⟩
theorem eL_law_1486 : Dj mL_law 1486 (.if_icmp .eq 51) (51) 1489 1537 := ⟨by decide +kernel, rfl, rfl⟩
theorem eL_law_1489 : Dn mL_law 1489 (.iconst 0) 1 1490 := ⟨by decide +kernel, rfl⟩
theorem eL_law_1490 : Dn mL_law 1490 (.ireturn) 1 1491 := ⟨by decide +kernel, rfl⟩
theorem eL_law_1491 : Dn mL_law 1491 (.aload_n 1) 1 1492 := ⟨by decide +kernel, rfl⟩
theorem eL_law_1492 : Dn mL_law 1492 (.aload_n 0) 1 1493 := ⟨by decide +kernel, rfl⟩
theorem eL_law_1493 : Dn mL_law 1493 (.iload_n 3) 1 1494 := ⟨by decide +kernel, rfl⟩
theorem eL_law_1494 : Dn mL_law 1494 (.iconst 1) 1 1495 := ⟨by decide +kernel, rfl⟩
theorem eL_law_1495 : Dn mL_law 1495 (.iadd) 1 1496 := ⟨by decide +kernel, rfl⟩
theorem eL_law_1496 : Dn mL_law 1496 (.iaload) 1 1497 := ⟨by decide +kernel, rfl⟩
theorem eL_law_1497 : Dn mL_law 1497 (.invokevirtual 187) 3 1500 := ⟨by decide +kernel, rfl⟩
theorem eL_law_1500 : Dn mL_law 1500 (.aload_n 2) 1 1501 := ⟨by decide +kernel, rfl⟩
theorem eL_law_1501 : Dn mL_law 1501 (.aload_n 0) 1 1502 := ⟨by decide +kernel, rfl⟩
theorem eL_law_1502 : Dn mL_law 1502 (.iload_n 3) 1 1503 := ⟨by decide +kernel, rfl⟩
theorem eL_law_1503 : Dn mL_law 1503 (.iconst 1) 1 1504 := ⟨by decide +kernel, rfl⟩
theorem eL_law_1504 : Dn mL_law 1504 (.iadd) 1 1505 := ⟨by decide +kernel, rfl⟩
theorem eL_law_1505 : Dn mL_law 1505 (.iaload) 1 1506 := ⟨by decide +kernel, rfl⟩
theorem eL_law_1506 : Dn mL_law 1506 (.invokevirtual 190) 3 1509 := ⟨by decide +kernel, rfl⟩
theorem eL_law_1509 : Dj mL_law 1509 (.if_icmp .eq 28) (28) 1512 1537 := ⟨by decide +kernel, rfl, rfl⟩
theorem eL_law_1512 : Dn mL_law 1512 (.iconst 0) 1 1513 := ⟨by decide +kernel, rfl⟩
theorem eL_law_1513 : Dn mL_law 1513 (.ireturn) 1 1514 := ⟨by decide +kernel, rfl⟩
theorem eL_law_1514 : Dn mL_law 1514 (.aload_n 1) 1 1515 := ⟨by decide +kernel, rfl⟩
theorem eL_law_1515 : Dn mL_law 1515 (.aload_n 0) 1 1516 := ⟨by decide +kernel, rfl⟩
theorem eL_law_1516 : Dn mL_law 1516 (.iload_n 3) 1 1517 := ⟨by decide +kernel, rfl⟩
theorem eL_law_1517 : Dn mL_law 1517 (.iconst 1) 1 1518 := ⟨by decide +kernel, rfl⟩
theorem eL_law_1518 : Dn mL_law 1518 (.iadd) 1 1519 := ⟨by decide +kernel, rfl⟩
theorem eL_law_1519 : Dn mL_law 1519 (.iaload) 1 1520 := ⟨by decide +kernel, rfl⟩
theorem eL_law_1520 : Dn mL_law 1520 (.invokevirtual 191) 3 1523 := ⟨by decide +kernel, rfl⟩
theorem eL_law_1523 : Dn mL_law 1523 (.aload_n 2) 1 1524 := ⟨by decide +kernel, rfl⟩
theorem eL_law_1524 : Dn mL_law 1524 (.aload_n 0) 1 1525 := ⟨by decide +kernel, rfl⟩
theorem eL_law_1525 : Dn mL_law 1525 (.iload_n 3) 1 1526 := ⟨by decide +kernel, rfl⟩
theorem eL_law_1526 : Dn mL_law 1526 (.iconst 1) 1 1527 := ⟨by decide +kernel, rfl⟩
theorem eL_law_1527 : Dn mL_law 1527 (.iadd) 1 1528 := ⟨by decide +kernel, rfl⟩
theorem eL_law_1528 : Dn mL_law 1528 (.iaload) 1 1529 := ⟨by decide +kernel, rfl⟩
theorem eL_law_1529 : Dn mL_law 1529 (.invokevirtual 194) 3 1532 := ⟨by decide +kernel, rfl⟩
theorem eL_law_1532 : Dj mL_law 1532 (.if_icmp .eq 5) (5) 1535 1537 := ⟨by decide +kernel, rfl, rfl⟩
theorem eL_law_1535 : Dn mL_law 1535 (.iconst 0) 1 1536 := ⟨by decide +kernel, rfl⟩
theorem eL_law_1536 : Dn mL_law 1536 (.ireturn) 1 1537 := ⟨by decide +kernel, rfl⟩
theorem eL_law_1537 : Dn mL_law 1537 (.iinc 3 6) 3 1540 := ⟨by decide +kernel, rfl⟩
theorem eL_law_1540 : Dj mL_law 1540 (.goto (-1522)) (-1522) 1543 18 := ⟨by decide +kernel, rfl, rfl⟩
theorem eL_law_1543 : Dn mL_law 1543 (.iconst 1) 1 1544 := ⟨by decide +kernel, rfl⟩
theorem eL_law_1544 : Dn mL_law 1544 (.ireturn) 1 1545 := ⟨by decide +kernel, rfl⟩
end
section
/-! ===== the pure machine: ints and longs as integers, objects by number, one memory; PW is the machine's W, said of these alone ===== -/
abbrev PV : Type := Int ⊕ (Int ⊕ Nat)
abbrev Iq (x : Int) : PV := .inl x
abbrev Jq (x : Int) : PV := .inr (.inl x)
abbrev Aq (o : Nat) : PV := .inr (.inr o)
abbrev Zm : Type := Nat → Nat → Int
def mup (mem : Zm) (o k : Nat) (v : Int) : Zm := fun o2 k2 => if o2 = o ∧ k2 = k then v else mem o2 k2
abbrev in32 (x : Int) : Prop := -2147483648 ≤ x ∧ x ≤ 2147483647
abbrev in64 (x : Int) : Prop := -9223372036854775808 ≤ x ∧ x ≤ 9223372036854775807
def tr (ad : Nat → Nat) : PV → Value
  | .inl x => .int (Int32.ofInt x)
  | .inr (.inl x) => .long (Int64.ofInt x)
  | .inr (.inr o) => .ref (ad o)
def okV : PV → Prop
  | .inl x => in32 x
  | .inr (.inl x) => in64 x
  | .inr (.inr _) => True
def okS : List PV → Prop
  | [] => True
  | v :: r => okV v ∧ okS r
def okO : Option PV → Prop
  | none => True
  | some v => okV v
def okL : List (Option PV) → Prop
  | [] => True
  | v :: r => okO v ∧ okL r
def okM (mem : Zm) : Prop := ∀ o k : Nat, (o = 22 ∧ k = 5 → in64 (mem o k)) ∧ (¬ (o = 22 ∧ k = 5) → in32 (mem o k))
/-- 0: an object of a class; 1: ints; 2: bytes; 3: sheets -/
def shpL : List (Nat × Nat) := [(0, 3), (0, 0), (1, 8), (1, 48), (1, 64), (1, 10), (1, 8), (1, 8), (0, 0), (1, 8), (1, 48), (1, 64), (1, 10), (1, 8), (1, 8), (0, 0), (1, 8), (1, 48), (1, 64), (1, 10), (1, 8), (1, 8), (0, 2), (2, 120), (3, 4), (0, 1), (1, 40), (0, 1), (1, 40), (0, 1), (1, 40), (0, 1), (1, 40), (1, 7), (0, 4), (1, 134), (1, 134), (1, 134), (1, 134), (1, 8), (1, 120), (1, 4), (1, 4), (1, 160)]
def shp (o : Nat) : Nat × Nat := shpL.getD o (9, 0)
def wobj (ad : Nat → Nat) (o ci : Nat) (f : Nat → Int) : List Value := match ci with
  | 0 => [.ref (ad (o + 1)), .ref (ad (o + 2)), .ref (ad (o + 3)), .ref (ad (o + 4)), .ref (ad (o + 5)), .ref (ad (o + 6)), .int (Int32.ofInt (f 6)), .int (Int32.ofInt (f 7)), .int (Int32.ofInt (f 8)), .int (Int32.ofInt (f 9))]
  | 1 => [.ref (ad (o + 1)), .int (Int32.ofInt (f 1)), .int (Int32.ofInt (f 2))]
  | 2 => [.ref (ad 23), .int (Int32.ofInt (f 1)), .int (Int32.ofInt (f 2)), .int (Int32.ofInt (f 3)), .int (Int32.ofInt (f 4)), .long (Int64.ofInt (f 5)), .int (Int32.ofInt (f 6))]
  | 3 => [.ref (ad 1), .ref (ad 8), .ref (ad 15), .int (Int32.ofInt (f 3)), .ref (ad 22), .ref (ad 24), .ref (ad 33)]
  | _ => [.ref (ad 35), .ref (ad 36), .ref (ad 37), .ref (ad 38), .int (Int32.ofInt (f 4)), .ref (ad 39), .ref (ad 40), .int (Int32.ofInt (f 7)), .ref (ad 41), .ref (ad 42), .ref (ad 43), .int (Int32.ofInt (f 11)), .int (Int32.ofInt (f 12)), .int (Int32.ofInt (f 13)), .int (Int32.ofInt (f 14)), .int (Int32.ofInt (f 15)), .int (Int32.ofInt (f 16)), .int (Int32.ofInt (f 17))]
/-- addresses; classes and their slots; the classes of int[], byte[], Sheet[]; what may be written -/
abbrev Gx : Type := (Nat → Nat) × va_G × ClassId × ClassId × ClassId × (Nat → Prop)
abbrev gA (g : Gx) : Nat → Prop := g.2.2.2.2.2
abbrev Sx : Type := Nat × (Nat → Int32)
def wcell (g : Gx) (o : Nat) (f : Nat → Int) : va_E := match shp o with
  | (0, ci) => .inr (ci, wobj g.1 o ci f)
  | (1, n) => .inl (g.2.2.1, n, .inl (fun j => Int32.ofInt (f j)))
  | (2, n) => .inl (g.2.2.2.1, n, .inl (fun j => Int32.ofInt (f j)))
  | (_, n) => .inl (g.2.2.2.2.1, n, .inr (.inr (.inr (.inr (fun j => some (g.1 (25 + 2 * j)))))))
def wsW (g : Gx) (mem : Zm) : va_W := (List.range 44).map (fun o => (g.1 o, wcell g o (mem o)))
def tysW (g : Gx) : List (ClassId × FieldType) := [(g.2.2.1, .int), (g.2.2.2.1, .byte), (g.2.2.2.2.1, .object RX1)]
def tbP (j : Nat) : Int := [1, 1, 2, 2, 2, 0, 0].getD j 0
def tbU (j : Nat) : Int := [-1, 0, 0, 2, 3, 0, 1].getD j 0
def tbK (j : Nat) : Int := [0x6368696C64, 0x736C79, 0x736C6F707079, 0x736576656E, 0x6C617A79, 0x686F6E657374, 0x73656C6C6572].getD j 0
def Wk (S : Sx) (g : Gx) (U : State) (H : Heap) : Prop :=
  va_K g.2.1 vwCl (tysW g) U ∧ va_Z RX3 "PRICES" "[I" (.ref (g.1 100)) (gA g) U H ∧ va_T .int (g.1 100) 7 (fun j => .int (Int32.ofInt (tbP j))) (gA g) U H
  ∧ va_Z RX3 "UNDER" "[I" (.ref (g.1 101)) (gA g) U H ∧ va_T .int (g.1 101) 7 (fun j => .int (Int32.ofInt (tbU j))) (gA g) U H
  ∧ va_Z RX2 "KIND_WORDS" "[J" (.ref (g.1 102)) (gA g) U H ∧ va_T .long (g.1 102) 7 (fun j => .long (Int64.ofInt (tbK j))) (gA g) U H
  ∧ va_X (g.1 103) S.1 S.2 U H ∧ ¬ gA g (g.1 103) ∧ S.1 < 2147483648 ∧ va_Nw nlP U
def Wm (g : Gx) (mem : Zm) (H : Heap) : Prop := va_P g.2.1 vwCl (wsW g mem) H ∧ va_D (gA g) (wsW g mem)
theorem Wk.moved {S : Sx} {g : Gx} {u U : State} {H : Heap} (hvm : u.vm.Alike U.vm) (hN : va_Nw nlP u → va_Nw nlP U) (h : Wk S g u H) : Wk S g U H := by
  obtain ⟨h1, h2, h3, h4, h5, h6, h7, h8, h9, h10, h11⟩ := h
  exact ⟨va_K.moved hvm h1, va_Z.moved hvm h2, va_T.moved hvm h3, va_Z.moved hvm h4, va_T.moved hvm h5, va_Z.moved hvm h6, va_T.moved hvm h7, va_X.moved hvm h8, h9, h10, hN h11⟩
theorem va_X.lt {b L : Nat} {xs : Nat → Int32} {U : State} {H : Heap} (h : va_X b L xs U H) : b < H.size := by
  obtain ⟨scr, h1, -⟩ := h
  exact (Array.getElem?_eq_some_iff.mp h1).1
theorem Wk.kept {S : Sx} {g : Gx} {U : State} {H H1 : Heap} (h : Wk S g U H) (hq : ∀ a : Nat, a < H.size → ¬ gA g a → H1[a]? = H[a]?) : Wk S g U H1 := by
  obtain ⟨h1, h2, h3, h4, h5, h6, h7, h8, h9, h10⟩ := h
  exact ⟨h1, va_Z.kept h2 hq, va_T.kept h3 hq, va_Z.kept h4 hq, va_T.kept h5 hq, va_Z.kept h6 hq, va_T.kept h7 hq, va_X.kept h8 (hq _ (va_X.lt h8) h9), h9, h10⟩
def lget : List (Option PV) → Nat → Option PV
  | [], _ => none
  | a :: _, 0 => a
  | _ :: r, n + 1 => lget r n
def isJ : Option PV → Bool
  | some (.inr (.inl _)) => true
  | _ => false
def lput : List (Option PV) → Nat → Option PV → List (Option PV)
  | [], _, _ => []
  | _ :: r, 0, v => v :: r
  | a :: r, n + 1, v => a :: lput r n v
/-- what is kept when a number of one word comes to a place -/
def lset : List (Option PV) → Nat → Option PV → List (Option PV)
  | [], _, _ => []
  | _ :: r, 0, v => v :: r
  | a :: r, 1, v => (if isJ a then none else a) :: lput r 0 v
  | a :: r, n + 2, v => a :: lset r (n + 1) v
def lvR (ad : Nat → Nat) (n : Nat) (L : Array Slot) (ls : List (Option PV)) : Prop := L.size = n ∧ lv_wf L ∧ ∀ (i : Nat) (v : PV), lget ls i = some v → L[i]? = some (.val (tr ad v))
def linit : Nat → List PV → List (Option PV)
  | 0, _ => []
  | n + 1, [] => none :: linit n []
  | n + 1, .inl x :: r => some (.inl x) :: linit n r
  | 1, .inr (.inl x) :: _ => [some (.inr (.inl x))]
  | n + 2, .inr (.inl x) :: r => some (.inr (.inl x)) :: none :: linit n r
  | n + 1, .inr (.inr x) :: r => some (.inr (.inr x)) :: linit n r
def wsD (y : MD) : List Cond := .code y.1 y.2.1 y.2.2.1 y.2.2.2.1 :: gtbl
def rmD (y : MD) : Room := { frames := y.2.2.2.2.1, cells := 0, slots := 0, locals := y.2.2.2.2.2 }
def Cx (S : Sx) (y : MD) (g : Gx) (p : Program) (R : Room) (s : State) (m : MethodId) (args : Array Value) (c : Code) (cells slots : Nat) : Prop :=
  p.tables.exec = Jvm.exec ∧ c.code = y.2.1 ∧ c.maxLocals = y.2.2.1 ∧ s.vm.findClass y.1.cls = some m.cls ∧ (∀ w ∈ gtbl, w.before args s = true) ∧ R.frames = y.2.2.2.2.1 ∧ R.locals = y.2.2.2.2.2 ∧ cells ≤ R.cells ∧ slots ≤ R.slots ∧ Wk S g s s.heap
def retI (y : MD) (pc : Nat) : Option PV → Prop
  | none => decode y.2.1 pc = .ok (.return_, 1)
  | some (.inl _) => decode y.2.1 pc = .ok (.ireturn, 1)
  | some (.inr (.inl _)) => decode y.2.1 pc = .ok (.lreturn, 1)
  | _ => False
def Rt (y : MD) (Q : Option PV → Zm → Prop) (g : Gx) (p : Program) (l : Launch) (e : Env) (R : Room) (s : State) (m : MethodId) (args : Array Value) (below : List Frame) (meth : Method) (c : Code) (cells slots : Nat) (QF : State → Prop) : Prop :=
  ∀ (r : Option PV) (mem : Zm) (H : Heap) (locs : List Loc) (L : Array Slot) (pc : Nat), Q r mem → Wm g mem H → va_S (gA g) s.heap H locs → okM mem → okO r → retI y pc r →
    W p l e R s m args below meth c H locs cells slots QF (F0 m pc L (r.toList.map (tr g.1)))
def PW (S : Sx) (y : MD) (Q : Option PV → Zm → Prop) (pc : Nat) (ls : List (Option PV)) (st : List PV) (mem : Zm) : Prop :=
  ∀ (g : Gx) (p : Program) (l : Launch) (e : Env) (R : Room) (s : State) (m : MethodId) (args : Array Value) (below : List Frame) (meth : Method) (c : Code) (cells slots : Nat) (QF : State → Prop),
    Cx S y g p R s m args c cells slots → Rt y Q g p l e R s m args below meth c cells slots QF →
    ∀ (H : Heap) (locs : List Loc) (L : Array Slot), Wm g mem H → va_S (gA g) s.heap H locs → okM mem → okS st → okL ls → lvR g.1 y.2.2.1 L ls →
      W p l e R s m args below meth c H locs cells slots QF (F0 m pc L (st.map (tr g.1)))
def QcW (S : Sx) (g : Gx) (Q : Option PV → Zm → Prop) : Array Value → State → Outcome → State → Prop := fun _ st0 oc t =>
  (∃ (r : Option PV) (mem : Zm), oc = .returned (r.map (tr g.1)) ∧ Q r mem ∧ okO r ∧ okM mem ∧ Wm g mem t.heap ∧ Wk S g t t.heap) ∧ va_F (gA g) st0 t
def Ct (S : Sx) (y : MD) (av : List PV) (mem : Zm) (Q : Option PV → Zm → Prop) : Prop :=
  ∀ (g : Gx) (l : Launch), okS av → okM mem → Met l y.1 (wsD y) (rmD y) (va_Pc (av.map (tr g.1)) (fun U => Wm g mem U.heap ∧ Wk S g U U.heap)) (QcW S g Q) 0 0 (gA g)
def Ct1 (S : Sx) (y : MD) (av : List PV) (mem : Zm) (v : Option PV) (mem1 : Zm) : Prop := Ct S y av mem (fun r m => r = v ∧ m = mem1)
/-! numbers -/
def wr (x : Int) : Int := (Int32.ofInt x).toInt
def bAnd (a b : Int) : Int := (Int32.ofInt a &&& Int32.ofInt b).toInt
def bOr (a b : Int) : Int := (Int32.ofInt a ||| Int32.ofInt b).toInt
def bXor (a b : Int) : Int := (Int32.ofInt a ^^^ Int32.ofInt b).toInt
def bShl (a b : Int) : Int := (Int32.ofInt a <<< (Int32.ofInt b &&& 31)).toInt
def bShr (a b : Int) : Int := (Int32.ofInt a >>> (Int32.ofInt b &&& 31)).toInt
def bUshr (a b : Int) : Int := ((Int32.ofInt a).toUInt32 >>> ((Int32.ofInt b).toUInt32 &&& Int32.toUInt32 31)).toInt32.toInt
def toB (a : Int) : Int := (Int32.ofInt a).toInt8.toInt32.toInt
def toSh (a : Int) : Int := (Int32.ofInt a).toInt16.toInt32.toInt
def lShl (a b : Int) : Int := (Int64.ofInt a <<< ((Int32.ofInt b).toInt64 &&& 63)).toInt
def lOr (a b : Int) : Int := (Int64.ofInt a ||| Int64.ofInt b).toInt
def wrL (x : Int) : Int := (Int64.ofInt x).toInt
def cmpL (a b : Int) : Int := if b < a then 1 else if a = b then 0 else -1
theorem in32_toInt (x : Int32) : in32 x.toInt := ⟨by have := Int32.le_toInt x; omega, by have := Int32.toInt_lt x; omega⟩
theorem in64_toInt (x : Int64) : in64 x.toInt := ⟨by have := Int64.le_toInt x; omega, by have := Int64.toInt_lt x; omega⟩
theorem ofI {x : Int} (h : in32 x) : (Int32.ofInt x).toInt = x := Int32.toInt_ofInt_of_le (by omega) (by omega)
theorem ofJ {x : Int} (h : in64 x) : (Int64.ofInt x).toInt = x := Int64.toInt_ofInt_of_le (by omega) (by omega)
theorem ofI_nat {x : Int} (h : in32 x) : (Int32.ofInt x).toNatClampNeg = x.toNat := Int32.toNatClampNeg_ofInt_of_le (by omega) (by omega)
theorem wr_id {x : Int} (h1 : -2147483648 ≤ x) (h2 : x ≤ 2147483647) : wr x = x := ofI ⟨h1, h2⟩
theorem wr_in (x : Int) : in32 (wr x) := in32_toInt _
theorem vpin {i : Int} {n : Nat} (h : 0 ≤ i ∧ i < n) (h2 : in32 i) : vp_in (Int32.ofInt i) n := vp_in_iff.mpr (by rw [ofI h2]; exact h)
/-! the world as a list -/
theorem wsW_get {g : Gx} {mem : Zm} {o : Nat} (ho : o < 44) : (wsW g mem)[o]? = some (g.1 o, wcell g o (mem o)) := by
  simp [wsW, List.getElem?_map, List.getElem?_range ho]
theorem wsW_set {g : Gx} {mem mem2 : Zm} {o : Nat} (ho : o < 44) (h : ∀ o2, o2 ≠ o → mem2 o2 = mem o2) : (wsW g mem).set o (g.1 o, wcell g o (mem2 o)) = wsW g mem2 := by
  apply List.ext_getElem?
  intro i
  by_cases hi : i = o
  · subst hi
    rw [List.getElem?_set_self (by simpa [wsW] using ho), wsW_get ho]
  · rw [List.getElem?_set_ne (Ne.symm hi)]
    by_cases h44 : i < 44
    · rw [wsW_get h44, wsW_get h44, h i hi]
    · rw [List.getElem?_eq_none (by simp [wsW]; omega), List.getElem?_eq_none (by simp [wsW]; omega)]
theorem shp_lt {o : Nat} {q : Nat × Nat} (h : shp o = q) (hq : q.1 ≠ 9) : o < 44 := by
  rcases Nat.lt_or_ge o 44 with h1 | h1
  · exact h1
  · exfalso
    apply hq
    rw [← h]
    unfold shp
    rw [List.getD_eq_getElem?_getD, List.getElem?_eq_none (by show 44 ≤ o; exact h1)]
    rfl
theorem okM_mup {mem : Zm} {o k : Nat} {v : Int} (h : okM mem) (hn : ¬ (o = 22 ∧ k = 5)) (hv : in32 v) : okM (mup mem o k v) := by
  intro o2 k2
  unfold mup
  refine ⟨fun q => ?_, fun q => ?_⟩
  · rw [if_neg (fun z => hn ⟨by omega, by omega⟩)]
    exact (h o2 k2).1 q
  · split
    · exact hv
    · exact (h o2 k2).2 q
theorem okM_mupJ {mem : Zm} {v : Int} (h : okM mem) (hv : in64 v) : okM (mup mem 22 5 v) := by
  intro o2 k2
  unfold mup
  refine ⟨fun q => ?_, fun q => ?_⟩
  · rw [if_pos q]
    exact hv
  · rw [if_neg q]
    exact (h o2 k2).2 q
theorem okM_i {mem : Zm} (h : okM mem) {o k : Nat} (hn : ¬ (o = 22 ∧ k = 5)) : in32 (mem o k) := (h o k).2 hn
theorem mup_other {mem : Zm} {o k : Nat} {v : Int} (o2 : Nat) (h : o2 ≠ o) : mup mem o k v o2 = mem o2 := by
  funext k2
  unfold mup
  rw [if_neg (fun q => h q.1)]
theorem mup_same {mem : Zm} {o k : Nat} {v : Int} : mup mem o k v o = fun j => if j = k then v else mem o j := by
  funext k2
  unfold mup
  by_cases h : k2 = k
  · rw [if_pos ⟨rfl, h⟩, if_pos h]
  · rw [if_neg (fun q => h q.2), if_neg h]
end
section
/-! ===== rows of the pure machine ===== -/
section PR
variable {S : Sx} {y : MD} {Q : Option PV → Zm → Prop} {pc pc2 tgt : Nat} {ls ls2 : List (Option PV)} {st : List PV} {mem : Zm}
theorem pw_iconst {n : Int} (hd : Dn y pc (.iconst n) 1 pc2) (hr : in32 n) (k : PW S y Q pc2 ls (Iq n :: st) mem) : PW S y Q pc ls st mem := by
  intro g p l e R s m args below meth c cells slots QF X rt H locs L w hS hM hs hl hv
  obtain ⟨hd, rfl⟩ := hd
  exact lv_iconst X.1 X.2.1 hd rfl (k g p l e R s m args below meth c cells slots QF X rt H locs L w hS hM ⟨hr, hs⟩ hl hv)
theorem pw_bipush {n : Int} (hd : Dn y pc (.bipush n) 2 pc2) (hr : in32 n) (he : (Int8.ofInt n).toInt32 = Int32.ofInt n) (k : PW S y Q pc2 ls (Iq n :: st) mem) : PW S y Q pc ls st mem := by
  intro g p l e R s m args below meth c cells slots QF X rt H locs L w hS hM hs hl hv
  obtain ⟨hd, rfl⟩ := hd
  exact lv_bipush X.1 X.2.1 hd he (k g p l e R s m args below meth c cells slots QF X rt H locs L w hS hM ⟨hr, hs⟩ hl hv)
theorem pw_sipush {n : Int} (hd : Dn y pc (.sipush n) 3 pc2) (hr : in32 n) (he : (Int16.ofInt n).toInt32 = Int32.ofInt n) (k : PW S y Q pc2 ls (Iq n :: st) mem) : PW S y Q pc ls st mem := by
  intro g p l e R s m args below meth c cells slots QF X rt H locs L w hS hM hs hl hv
  obtain ⟨hd, rfl⟩ := hd
  exact lv_sipush X.1 X.2.1 hd he (k g p l e R s m args below meth c cells slots QF X rt H locs L w hS hM ⟨hr, hs⟩ hl hv)
theorem pw_lconst {n : Fin 2} {v : Int} (hd : Dn y pc (.lconst n) 1 pc2) (hr : in64 v) (he : Int64.ofNat (n : Nat) = Int64.ofInt v) (k : PW S y Q pc2 ls (Jq v :: st) mem) : PW S y Q pc ls st mem := by
  intro g p l e R s m args below meth c cells slots QF X rt H locs L w hS hM hs hl hv
  obtain ⟨hd, rfl⟩ := hd
  exact lv_lconst X.1 X.2.1 hd he (k g p l e R s m args below meth c cells slots QF X rt H locs L w hS hM ⟨hr, hs⟩ hl hv)
theorem pw_ldc {idx : Nat} {n : Int} (hd : Dn y pc (.ldc idx) 2 pc2) (hr : in32 n) (hc : Cond.constant y.1.cls idx (Int32.ofInt n) ∈ gtbl) (k : PW S y Q pc2 ls (Iq n :: st) mem) : PW S y Q pc ls st mem := by
  intro g p l e R s m args below meth c cells slots QF X rt H locs L w hS hM hs hl hv
  obtain ⟨hd, rfl⟩ := hd
  exact lv_ldc X.1 X.2.1 X.2.2.2.1 (X.2.2.2.2.1 _ hc) hd (k g p l e R s m args below meth c cells slots QF X rt H locs L w hS hM ⟨hr, hs⟩ hl hv)
theorem pw_ldcw {idx : Nat} {n : Int} (hd : Dn y pc (.ldc_w idx) 3 pc2) (hr : in32 n) (hc : Cond.constant y.1.cls idx (Int32.ofInt n) ∈ gtbl) (k : PW S y Q pc2 ls (Iq n :: st) mem) : PW S y Q pc ls st mem := by
  intro g p l e R s m args below meth c cells slots QF X rt H locs L w hS hM hs hl hv
  obtain ⟨hd, rfl⟩ := hd
  exact lv_ldcw X.1 X.2.1 X.2.2.2.1 (X.2.2.2.2.1 _ hc) hd (k g p l e R s m args below meth c cells slots QF X rt H locs L w hS hM ⟨hr, hs⟩ hl hv)
theorem pw_ldc2 {idx : Nat} {n : Int} (hd : Dn y pc (.ldc2_w idx) 3 pc2) (hr : in64 n) (hc : Cond.constantLong y.1.cls idx (Int64.ofInt n) ∈ gtbl) (k : PW S y Q pc2 ls (Jq n :: st) mem) : PW S y Q pc ls st mem := by
  intro g p l e R s m args below meth c cells slots QF X rt H locs L w hS hM hs hl hv
  obtain ⟨hd, rfl⟩ := hd
  exact lv_ldc2 X.1 X.2.1 X.2.2.2.1 (X.2.2.2.2.1 _ hc) hd (k g p l e R s m args below meth c cells slots QF X rt H locs L w hS hM ⟨hr, hs⟩ hl hv)
theorem okL_get {ls : List (Option PV)} (h : okL ls) : ∀ (i : Nat) (v : PV), lget ls i = some v → okV v := by
  induction ls with
  | nil => intro i v hv; cases hv
  | cons a r ih =>
    intro i v hv
    cases i with
    | zero => subst hv; exact h.1
    | succ n => exact ih h.2 n v hv
theorem pw_iload_n {n : Fin 4} {i : Nat} {x : Int} (hd : Dn y pc (.iload_n n) 1 pc2) (hi : (n : Nat) = i) (hx : lget ls i = some (Iq x)) (k : PW S y Q pc2 ls (Iq x :: st) mem) : PW S y Q pc ls st mem := by
  intro g p l e R s m args below meth c cells slots QF X rt H locs L w hS hM hs hl hv
  obtain ⟨hd, rfl⟩ := hd
  exact lv_iload_n X.1 X.2.1 hd hi (hv.2.2 i _ hx) (k g p l e R s m args below meth c cells slots QF X rt H locs L w hS hM ⟨okL_get hl i _ hx, hs⟩ hl hv)
theorem pw_iload {i : Nat} {x : Int} (hd : Dn y pc (.iload i) 2 pc2) (hx : lget ls i = some (Iq x)) (k : PW S y Q pc2 ls (Iq x :: st) mem) : PW S y Q pc ls st mem := by
  intro g p l e R s m args below meth c cells slots QF X rt H locs L w hS hM hs hl hv
  obtain ⟨hd, rfl⟩ := hd
  exact lv_iload X.1 X.2.1 hd (hv.2.2 i _ hx) (k g p l e R s m args below meth c cells slots QF X rt H locs L w hS hM ⟨okL_get hl i _ hx, hs⟩ hl hv)
theorem pw_lload_n {n : Fin 4} {i : Nat} {x : Int} (hd : Dn y pc (.lload_n n) 1 pc2) (hi : (n : Nat) = i) (hx : lget ls i = some (Jq x)) (k : PW S y Q pc2 ls (Jq x :: st) mem) : PW S y Q pc ls st mem := by
  intro g p l e R s m args below meth c cells slots QF X rt H locs L w hS hM hs hl hv
  obtain ⟨hd, rfl⟩ := hd
  exact lv_lload_n X.1 X.2.1 hd hi (hv.2.2 i _ hx) (k g p l e R s m args below meth c cells slots QF X rt H locs L w hS hM ⟨okL_get hl i _ hx, hs⟩ hl hv)
theorem pw_lload {i : Nat} {x : Int} (hd : Dn y pc (.lload i) 2 pc2) (hx : lget ls i = some (Jq x)) (k : PW S y Q pc2 ls (Jq x :: st) mem) : PW S y Q pc ls st mem := by
  intro g p l e R s m args below meth c cells slots QF X rt H locs L w hS hM hs hl hv
  obtain ⟨hd, rfl⟩ := hd
  exact lv_lload X.1 X.2.1 hd (hv.2.2 i _ hx) (k g p l e R s m args below meth c cells slots QF X rt H locs L w hS hM ⟨okL_get hl i _ hx, hs⟩ hl hv)
theorem pw_aload_n {n : Fin 4} {i o : Nat} (hd : Dn y pc (.aload_n n) 1 pc2) (hi : (n : Nat) = i) (hx : lget ls i = some (Aq o)) (k : PW S y Q pc2 ls (Aq o :: st) mem) : PW S y Q pc ls st mem := by
  intro g p l e R s m args below meth c cells slots QF X rt H locs L w hS hM hs hl hv
  obtain ⟨hd, rfl⟩ := hd
  exact lv_aload_n X.1 X.2.1 hd hi (hv.2.2 i _ hx) (k g p l e R s m args below meth c cells slots QF X rt H locs L w hS hM ⟨trivial, hs⟩ hl hv)
theorem pw_aload {i o : Nat} (hd : Dn y pc (.aload i) 2 pc2) (hx : lget ls i = some (Aq o)) (k : PW S y Q pc2 ls (Aq o :: st) mem) : PW S y Q pc ls st mem := by
  intro g p l e R s m args below meth c cells slots QF X rt H locs L w hS hM hs hl hv
  obtain ⟨hd, rfl⟩ := hd
  exact lv_aload X.1 X.2.1 hd (hv.2.2 i _ hx) (k g p l e R s m args below meth c cells slots QF X rt H locs L w hS hM ⟨trivial, hs⟩ hl hv)
/-! stores -/
def lprs (ad : Nat → Nat) (n : Nat) (ls : List (Option PV)) : List (Nat × Value) := (List.range n).filterMap (fun i => (lget ls i).map (fun v => (i, tr ad v)))
theorem lprs_mem {ad : Nat → Nat} {n : Nat} {ls : List (Option PV)} {q : Nat × Value} : q ∈ lprs ad n ls ↔ q.1 < n ∧ ∃ v, lget ls q.1 = some v ∧ q.2 = tr ad v := by
  unfold lprs
  rw [List.mem_filterMap]
  constructor
  · rintro ⟨i, hi, h⟩
    cases hv : lget ls i with
    | none => rw [hv] at h; cases h
    | some v =>
      rw [hv] at h
      cases h
      exact ⟨List.mem_range.mp hi, v, hv, rfl⟩
  · rintro ⟨h1, v, h2, h3⟩
    refine ⟨q.1, List.mem_range.mpr h1, ?_⟩
    rw [h2, Option.map_some, ← h3]
theorem lvR_has {ad : Nat → Nat} {n : Nat} {L : Array Slot} {ls : List (Option PV)} (h : lvR ad n L ls) : lv_has L n (lprs ad n ls) := by
  refine ⟨h.1, h.2.1, fun q hq => ?_⟩
  obtain ⟨-, v, h2, h3⟩ := lprs_mem.mp hq
  rw [h.2.2 q.1 v h2, h3]
theorem lget_lt {ad : Nat → Nat} {n : Nat} {L : Array Slot} {ls : List (Option PV)} (h : lvR ad n L ls) {i : Nat} {v : PV} (hv : lget ls i = some v) : i < n := by
  have := h.2.2 i v hv
  rw [← h.1]
  exact lv_lt this
theorem lget_lput {ls : List (Option PV)} {v : Option PV} : ∀ {i j : Nat} {w : PV}, lget (lput ls i v) j = some w → (j = i ∧ v = some w) ∨ (j ≠ i ∧ lget ls j = some w) := by
  induction ls with
  | nil => intro i j w h; cases h
  | cons a r ih =>
    intro i j w h
    cases i with
    | zero =>
      cases j with
      | zero => exact Or.inl ⟨rfl, h⟩
      | succ n => exact Or.inr ⟨by omega, h⟩
    | succ m =>
      cases j with
      | zero => exact Or.inr ⟨by omega, h⟩
      | succ n =>
        rcases ih (i := m) (j := n) h with ⟨h1, h2⟩ | ⟨h1, h2⟩
        · exact Or.inl ⟨by omega, h2⟩
        · exact Or.inr ⟨by omega, h2⟩
theorem cat_J {v : PV} {ad : Nat → Nat} (h : (tr ad v).category = 2) : isJ (some v) = true := by
  rcases v with x | x | x
  · cases h
  · rfl
  · cases h
theorem lget_lset {ls : List (Option PV)} {v : Option PV} : ∀ {i j : Nat} {w : PV}, lget (lset ls i v) j = some w → (j = i ∧ v = some w) ∨ (j ≠ i ∧ lget ls j = some w ∧ ¬ (j + 1 = i ∧ isJ (some w) = true)) := by
  induction ls with
  | nil => intro i j w h; cases h
  | cons a r ih =>
    intro i j w h
    match i, j, h with
    | 0, 0, h => exact Or.inl ⟨rfl, h⟩
    | 0, n + 1, h => exact Or.inr ⟨by omega, h, by omega⟩
    | 1, 0, h =>
      refine Or.inr ⟨by omega, ?_⟩
      have h2 : (if isJ a = true then none else a) = some w := h
      by_cases hj : isJ a = true
      · rw [if_pos hj] at h2; cases h2
      · rw [if_neg hj] at h2
        exact ⟨h2, fun q => hj (by rw [h2]; exact q.2)⟩
    | 1, n + 1, h =>
      rcases lget_lput (i := 0) (j := n) h with ⟨h1, h2⟩ | ⟨h1, h2⟩
      · exact Or.inl ⟨by omega, h2⟩
      · exact Or.inr ⟨by omega, h2, by omega⟩
    | m + 2, 0, h => exact Or.inr ⟨by omega, h, by omega⟩
    | m + 2, n + 1, h =>
      rcases ih (i := m + 1) (j := n) h with ⟨h1, h2⟩ | ⟨h1, h2, h3⟩
      · exact Or.inl ⟨by omega, h2⟩
      · exact Or.inr ⟨by omega, h2, fun q => h3 ⟨by omega, q.2⟩⟩
theorem lvR_set {ad : Nat → Nat} {n i : Nat} {L L2 : Array Slot} {ls : List (Option PV)} {v : PV} (h : lvR ad n L ls)
    (h2 : lv_has L2 n ((i, tr ad v) :: (lprs ad n ls).filter (fun q => !(q.1 == i) && !(q.1 + 1 == i && q.2.category == 2)))) : lvR ad n L2 (lset ls i (some v)) := by
  refine ⟨h2.1, h2.2.1, fun j w hw => ?_⟩
  rcases lget_lset hw with ⟨h3, h4⟩ | ⟨h3, h4, h5⟩
  · cases h4
    subst h3
    exact h2.2.2 _ List.mem_cons_self
  · refine h2.2.2 (j, tr ad w) (List.mem_cons_of_mem _ (List.mem_filter.mpr ⟨lprs_mem.mpr ⟨lget_lt h h4, w, h4, rfl⟩, ?_⟩))
    simp only [Bool.and_eq_true, Bool.not_eq_true', beq_eq_false_iff_ne, ne_eq, Bool.and_eq_false_imp, beq_iff_eq]
    exact ⟨h3, fun q => by
      intro hc
      exact h5 ⟨q, cat_J hc⟩⟩
theorem okL_lput {ls : List (Option PV)} {v : Option PV} (h : okL ls) (hv : okO v) : ∀ i, okL (lput ls i v) := by
  induction ls with
  | nil => intro i; exact trivial
  | cons a r ih =>
    intro i
    cases i with
    | zero => exact ⟨hv, h.2⟩
    | succ n => exact ⟨h.1, ih h.2 n⟩
theorem okL_lset {ls : List (Option PV)} {v : Option PV} (h : okL ls) (hv : okO v) : ∀ i, okL (lset ls i v) := by
  induction ls with
  | nil => intro i; cases i <;> exact trivial
  | cons a r ih =>
    intro i
    match i with
    | 0 => exact ⟨hv, h.2⟩
    | 1 =>
      refine ⟨?_, okL_lput h.2 hv 0⟩
      show okO (if isJ a = true then none else a)
      split
      · exact trivial
      · exact h.1
    | n + 2 => exact ⟨h.1, ih h.2 (n + 1)⟩
theorem pw_istore_n {n : Fin 4} {i : Nat} {x : Int} (hd : Dn y pc (.istore_n n) 1 pc2) (hi : (n : Nat) = i) (hn : i < y.2.2.1) (he : lset ls i (some (Iq x)) = ls2) (k : PW S y Q pc2 ls2 st mem) : PW S y Q pc ls (Iq x :: st) mem := by
  intro g p l e R s m args below meth c cells slots QF X rt H locs L w hS hM hs hl hv
  obtain ⟨hd, rfl⟩ := hd
  subst he
  exact lv_istore_n X.1 X.2.1 hd hi (lvR_has hv) hn rfl (fun L2 h2 => k g p l e R s m args below meth c cells slots QF X rt H locs L2 w hS hM hs.2 (okL_lset (v := some (Iq x)) hl hs.1 i) (lvR_set (v := Iq x) hv h2))
theorem pw_istore {i : Nat} {x : Int} (hd : Dn y pc (.istore i) 2 pc2) (hn : i < y.2.2.1) (he : lset ls i (some (Iq x)) = ls2) (k : PW S y Q pc2 ls2 st mem) : PW S y Q pc ls (Iq x :: st) mem := by
  intro g p l e R s m args below meth c cells slots QF X rt H locs L w hS hM hs hl hv
  obtain ⟨hd, rfl⟩ := hd
  subst he
  exact lv_istore X.1 X.2.1 hd (lvR_has hv) hn rfl (fun L2 h2 => k g p l e R s m args below meth c cells slots QF X rt H locs L2 w hS hM hs.2 (okL_lset (v := some (Iq x)) hl hs.1 i) (lvR_set (v := Iq x) hv h2))
theorem pw_astore_n {n : Fin 4} {i o : Nat} (hd : Dn y pc (.astore_n n) 1 pc2) (hi : (n : Nat) = i) (hn : i < y.2.2.1) (he : lset ls i (some (Aq o)) = ls2) (k : PW S y Q pc2 ls2 st mem) : PW S y Q pc ls (Aq o :: st) mem := by
  intro g p l e R s m args below meth c cells slots QF X rt H locs L w hS hM hs hl hv
  obtain ⟨hd, rfl⟩ := hd
  subst he
  exact lv_astore_n X.1 X.2.1 hd hi (lvR_has hv) hn rfl (fun L2 h2 => k g p l e R s m args below meth c cells slots QF X rt H locs L2 w hS hM hs.2 (okL_lset (v := some (Aq o)) hl hs.1 i) (lvR_set (v := Aq o) hv h2))
theorem pw_astore {i o : Nat} (hd : Dn y pc (.astore i) 2 pc2) (hn : i < y.2.2.1) (he : lset ls i (some (Aq o)) = ls2) (k : PW S y Q pc2 ls2 st mem) : PW S y Q pc ls (Aq o :: st) mem := by
  intro g p l e R s m args below meth c cells slots QF X rt H locs L w hS hM hs hl hv
  obtain ⟨hd, rfl⟩ := hd
  subst he
  exact lv_astore X.1 X.2.1 hd (lvR_has hv) hn rfl (fun L2 h2 => k g p l e R s m args below meth c cells slots QF X rt H locs L2 w hS hM hs.2 (okL_lset (v := some (Aq o)) hl hs.1 i) (lvR_set (v := Aq o) hv h2))
theorem pw_iinc {i : Nat} {n x : Int} (hd : Dn y pc (.iinc i n) 3 pc2) (hx : lget ls i = some (Iq x)) (hr : in32 (x + n)) (he : lset ls i (some (Iq (x + n))) = ls2) (k : PW S y Q pc2 ls2 st mem) : PW S y Q pc ls st mem := by
  intro g p l e R s m args below meth c cells slots QF X rt H locs L w hS hM hs hl hv
  obtain ⟨hd, rfl⟩ := hd
  subst he
  obtain ⟨q, hq⟩ := List.getElem?_of_mem (lprs_mem.mpr ⟨lget_lt hv hx, Iq x, hx, rfl⟩ : ((i, tr g.1 (Iq x)) : Nat × Value) ∈ lprs g.1 y.2.2.1 ls)
  exact lv_iinc (k := q) (x := Int32.ofInt x) (v := Int32.ofInt (x + n)) X.1 X.2.1 hd (lvR_has hv) hq (Int32.ofInt_add x n).symm (lget_lt hv hx) rfl (fun L2 h2 => k g p l e R s m args below meth c cells slots QF X rt H locs L2 w hS hM hs (okL_lset (v := some (Iq (x + n))) hl hr i) (lvR_set (v := Iq (x + n)) hv h2))
/-! a long comes to a place and the next -/
def lset2 (ls : List (Option PV)) (i : Nat) (v : Option PV) : List (Option PV) := lput (lset ls i v) (i + 1) none
theorem lvR_set2 {ad : Nat → Nat} {n i : Nat} {L L2 : Array Slot} {ls : List (Option PV)} {v : PV} (h : lvR ad n L ls)
    (h2 : lv_has L2 n ((i, tr ad v) :: (lprs ad n ls).filter (fun q => !(q.1 == i) && (!(q.1 == i + 1) && !(q.1 + 1 == i && q.2.category == 2))))) : lvR ad n L2 (lset2 ls i (some v)) := by
  refine ⟨h2.1, h2.2.1, fun j w hw => ?_⟩
  rcases lget_lput hw with ⟨h3, h4⟩ | ⟨h6, hw⟩
  · cases h4
  rcases lget_lset hw with ⟨h3, h4⟩ | ⟨h3, h4, h5⟩
  · cases h4
    subst h3
    exact h2.2.2 _ List.mem_cons_self
  · refine h2.2.2 (j, tr ad w) (List.mem_cons_of_mem _ (List.mem_filter.mpr ⟨lprs_mem.mpr ⟨lget_lt h h4, w, h4, rfl⟩, ?_⟩))
    simp only [Bool.and_eq_true, Bool.not_eq_true', beq_eq_false_iff_ne, ne_eq, Bool.and_eq_false_imp, beq_iff_eq]
    exact ⟨h3, h6, fun q => by
      intro hc
      exact h5 ⟨q, cat_J hc⟩⟩
theorem pw_lstore_n {n : Fin 4} {i : Nat} {x : Int} (hd : Dn y pc (.lstore_n n) 1 pc2) (hi : (n : Nat) = i) (hn : i + 1 < y.2.2.1) (he : lset2 ls i (some (Jq x)) = ls2) (k : PW S y Q pc2 ls2 st mem) : PW S y Q pc ls (Jq x :: st) mem := by
  intro g p l e R s m args below meth c cells slots QF X rt H locs L w hS hM hs hl hv
  obtain ⟨hd, rfl⟩ := hd
  subst he
  exact lv_lstore_n X.1 X.2.1 hd hi (lvR_has hv) hn rfl (fun L2 h2 => k g p l e R s m args below meth c cells slots QF X rt H locs L2 w hS hM hs.2 (okL_lput (v := none) (okL_lset (v := some (Jq x)) hl hs.1 i) trivial (i + 1)) (lvR_set2 (v := Jq x) hv h2))
theorem pw_lstore {i : Nat} {x : Int} (hd : Dn y pc (.lstore i) 2 pc2) (hn : i + 1 < y.2.2.1) (he : lset2 ls i (some (Jq x)) = ls2) (k : PW S y Q pc2 ls2 st mem) : PW S y Q pc ls (Jq x :: st) mem := by
  intro g p l e R s m args below meth c cells slots QF X rt H locs L w hS hM hs hl hv
  obtain ⟨hd, rfl⟩ := hd
  subst he
  exact lv_lstore X.1 X.2.1 hd (lvR_has hv) hn rfl (fun L2 h2 => k g p l e R s m args below meth c cells slots QF X rt H locs L2 w hS hM hs.2 (okL_lput (v := none) (okL_lset (v := some (Jq x)) hl hs.1 i) trivial (i + 1)) (lvR_set2 (v := Jq x) hv h2))
end PR
end
section
section PA
variable {S : Sx} {y : MD} {Q : Option PV → Zm → Prop} {pc pc2 tgt : Nat} {ls ls2 : List (Option PV)} {st : List PV} {mem : Zm}
theorem pw_iadd {a b : Int} (hd : Dn y pc .iadd 1 pc2) (hr : in32 (a + b)) (k : PW S y Q pc2 ls (Iq (a + b) :: st) mem) : PW S y Q pc ls (Iq b :: Iq a :: st) mem := by
  intro g p l e R s m args below meth c cells slots QF X rt H locs L w hS hM hs hl hv
  obtain ⟨hd, rfl⟩ := hd
  refine lv_iadd X.1 X.2.1 hd ?_
  have ee := (Int32.ofInt_add a b).symm
  rw [ee]
  exact k g p l e R s m args below meth c cells slots QF X rt H locs L w hS hM ⟨hr, hs.2.2⟩ hl hv

theorem pw_iaddw {a b : Int} (hd : Dn y pc .iadd 1 pc2) (k : PW S y Q pc2 ls (Iq (wr (a + b)) :: st) mem) : PW S y Q pc ls (Iq b :: Iq a :: st) mem := by
  intro g p l e R s m args below meth c cells slots QF X rt H locs L w hS hM hs hl hv
  obtain ⟨hd, rfl⟩ := hd
  refine lv_iadd X.1 X.2.1 hd ?_
  have ee : Int32.ofInt a + Int32.ofInt b = Int32.ofInt (wr (a + b)) := by unfold wr; rw [Int32.ofInt_toInt, Int32.ofInt_add]
  rw [ee]
  exact k g p l e R s m args below meth c cells slots QF X rt H locs L w hS hM ⟨wr_in _, hs.2.2⟩ hl hv

theorem pw_isub {a b : Int} (hd : Dn y pc .isub 1 pc2) (hr : in32 (a - b)) (k : PW S y Q pc2 ls (Iq (a - b) :: st) mem) : PW S y Q pc ls (Iq b :: Iq a :: st) mem := by
  intro g p l e R s m args below meth c cells slots QF X rt H locs L w hS hM hs hl hv
  obtain ⟨hd, rfl⟩ := hd
  refine lv_isub X.1 X.2.1 hd ?_
  have ee := (Int32.ofInt_sub a b).symm
  rw [ee]
  exact k g p l e R s m args below meth c cells slots QF X rt H locs L w hS hM ⟨hr, hs.2.2⟩ hl hv

theorem pw_isubw {a b : Int} (hd : Dn y pc .isub 1 pc2) (k : PW S y Q pc2 ls (Iq (wr (a - b)) :: st) mem) : PW S y Q pc ls (Iq b :: Iq a :: st) mem := by
  intro g p l e R s m args below meth c cells slots QF X rt H locs L w hS hM hs hl hv
  obtain ⟨hd, rfl⟩ := hd
  refine lv_isub X.1 X.2.1 hd ?_
  have ee : Int32.ofInt a - Int32.ofInt b = Int32.ofInt (wr (a - b)) := by unfold wr; rw [Int32.ofInt_toInt, Int32.ofInt_sub]
  rw [ee]
  exact k g p l e R s m args below meth c cells slots QF X rt H locs L w hS hM ⟨wr_in _, hs.2.2⟩ hl hv

theorem pw_imul {a b : Int} (hd : Dn y pc .imul 1 pc2) (hr : in32 (a * b)) (k : PW S y Q pc2 ls (Iq (a * b) :: st) mem) : PW S y Q pc ls (Iq b :: Iq a :: st) mem := by
  intro g p l e R s m args below meth c cells slots QF X rt H locs L w hS hM hs hl hv
  obtain ⟨hd, rfl⟩ := hd
  refine lv_imul X.1 X.2.1 hd ?_
  have ee := (Int32.ofInt_mul a b).symm
  rw [ee]
  exact k g p l e R s m args below meth c cells slots QF X rt H locs L w hS hM ⟨hr, hs.2.2⟩ hl hv

theorem pw_imulw {a b : Int} (hd : Dn y pc .imul 1 pc2) (k : PW S y Q pc2 ls (Iq (wr (a * b)) :: st) mem) : PW S y Q pc ls (Iq b :: Iq a :: st) mem := by
  intro g p l e R s m args below meth c cells slots QF X rt H locs L w hS hM hs hl hv
  obtain ⟨hd, rfl⟩ := hd
  refine lv_imul X.1 X.2.1 hd ?_
  have ee : Int32.ofInt a * Int32.ofInt b = Int32.ofInt (wr (a * b)) := by unfold wr; rw [Int32.ofInt_toInt, Int32.ofInt_mul]
  rw [ee]
  exact k g p l e R s m args below meth c cells slots QF X rt H locs L w hS hM ⟨wr_in _, hs.2.2⟩ hl hv

theorem pw_iand {a b : Int} (hd : Dn y pc .iand 1 pc2) (k : PW S y Q pc2 ls (Iq (bAnd a b) :: st) mem) : PW S y Q pc ls (Iq b :: Iq a :: st) mem := by
  intro g p l e R s m args below meth c cells slots QF X rt H locs L w hS hM hs hl hv
  obtain ⟨hd, rfl⟩ := hd
  refine lv_iand X.1 X.2.1 hd ?_
  have ee := (Int32.ofInt_toInt (Int32.ofInt a &&& Int32.ofInt b)).symm
  rw [ee]
  exact k g p l e R s m args below meth c cells slots QF X rt H locs L w hS hM ⟨in32_toInt _, hs.2.2⟩ hl hv

theorem pw_ior {a b : Int} (hd : Dn y pc .ior 1 pc2) (k : PW S y Q pc2 ls (Iq (bOr a b) :: st) mem) : PW S y Q pc ls (Iq b :: Iq a :: st) mem := by
  intro g p l e R s m args below meth c cells slots QF X rt H locs L w hS hM hs hl hv
  obtain ⟨hd, rfl⟩ := hd
  refine lv_ior X.1 X.2.1 hd ?_
  have ee := (Int32.ofInt_toInt (Int32.ofInt a ||| Int32.ofInt b)).symm
  rw [ee]
  exact k g p l e R s m args below meth c cells slots QF X rt H locs L w hS hM ⟨in32_toInt _, hs.2.2⟩ hl hv

theorem pw_ixor {a b : Int} (hd : Dn y pc .ixor 1 pc2) (k : PW S y Q pc2 ls (Iq (bXor a b) :: st) mem) : PW S y Q pc ls (Iq b :: Iq a :: st) mem := by
  intro g p l e R s m args below meth c cells slots QF X rt H locs L w hS hM hs hl hv
  obtain ⟨hd, rfl⟩ := hd
  refine lv_ixor X.1 X.2.1 hd ?_
  have ee := (Int32.ofInt_toInt (Int32.ofInt a ^^^ Int32.ofInt b)).symm
  rw [ee]
  exact k g p l e R s m args below meth c cells slots QF X rt H locs L w hS hM ⟨in32_toInt _, hs.2.2⟩ hl hv

theorem pw_ishl {a b : Int} (hd : Dn y pc .ishl 1 pc2) (k : PW S y Q pc2 ls (Iq (bShl a b) :: st) mem) : PW S y Q pc ls (Iq b :: Iq a :: st) mem := by
  intro g p l e R s m args below meth c cells slots QF X rt H locs L w hS hM hs hl hv
  obtain ⟨hd, rfl⟩ := hd
  refine lv_ishl X.1 X.2.1 hd ?_
  have ee := (Int32.ofInt_toInt (Int32.ofInt a <<< (Int32.ofInt b &&& 31))).symm
  rw [ee]
  exact k g p l e R s m args below meth c cells slots QF X rt H locs L w hS hM ⟨in32_toInt _, hs.2.2⟩ hl hv

theorem pw_ishr {a b : Int} (hd : Dn y pc .ishr 1 pc2) (k : PW S y Q pc2 ls (Iq (bShr a b) :: st) mem) : PW S y Q pc ls (Iq b :: Iq a :: st) mem := by
  intro g p l e R s m args below meth c cells slots QF X rt H locs L w hS hM hs hl hv
  obtain ⟨hd, rfl⟩ := hd
  refine lv_ishr X.1 X.2.1 hd ?_
  have ee := (Int32.ofInt_toInt (Int32.ofInt a >>> (Int32.ofInt b &&& 31))).symm
  rw [ee]
  exact k g p l e R s m args below meth c cells slots QF X rt H locs L w hS hM ⟨in32_toInt _, hs.2.2⟩ hl hv

theorem pw_iushr {a b : Int} (hd : Dn y pc .iushr 1 pc2) (k : PW S y Q pc2 ls (Iq (bUshr a b) :: st) mem) : PW S y Q pc ls (Iq b :: Iq a :: st) mem := by
  intro g p l e R s m args below meth c cells slots QF X rt H locs L w hS hM hs hl hv
  obtain ⟨hd, rfl⟩ := hd
  exact lv_iushr X.1 X.2.1 hd (Int32.ofInt_toInt _).symm (k g p l e R s m args below meth c cells slots QF X rt H locs L w hS hM ⟨in32_toInt _, hs.2.2⟩ hl hv)

theorem tdivI {a b : Int} (ha : 0 ≤ a) (hb : 0 < b) (h1 : in32 a) (h2 : in32 b) : Int32.ofInt a / Int32.ofInt b = Int32.ofInt (a / b) ∧ in32 (a / b) := by
  have h3 : 0 ≤ a / b := Int.ediv_nonneg ha (by omega)
  have h4 : a / b ≤ a := Int.ediv_le_self b ha
  have h5 : in32 (a / b) := ⟨by omega, by omega⟩
  refine ⟨?_, h5⟩
  apply Int32.toInt_inj.mp
  rw [Int32.toInt_div_of_ne_right _ _ (fun q => by
    have := congrArg Int32.toInt q
    rw [ofI h2] at this
    have h6 : (-1 : Int32).toInt = -1 := by decide
    omega), ofI h1, ofI h2, ofI h5, Int.tdiv_eq_ediv_of_nonneg ha]
theorem ne0I {b : Int} (hb : 0 < b) (h2 : in32 b) : ¬ Int32.ofInt b = 0 := fun q => by
  have := congrArg Int32.toInt q
  rw [ofI h2] at this
  have h6 : (0 : Int32).toInt = 0 := by decide
  omega
theorem pw_idiv {a b : Int} (hd : Dn y pc .idiv 1 pc2) (ha : 0 ≤ a) (hb : 0 < b) (k : PW S y Q pc2 ls (Iq (a / b) :: st) mem) : PW S y Q pc ls (Iq b :: Iq a :: st) mem := by
  intro g p l e R s m args below meth c cells slots QF X rt H locs L w hS hM hs hl hv
  obtain ⟨hd, rfl⟩ := hd
  refine lv_idiv X.1 X.2.1 hd (ne0I hb hs.1) ?_
  obtain ⟨e1, e2⟩ := tdivI ha hb hs.2.1 hs.1
  rw [e1]
  exact k g p l e R s m args below meth c cells slots QF X rt H locs L w hS hM ⟨e2, hs.2.2⟩ hl hv
theorem emI {a b : Int} : a - a / b * b = a % b := by
  have := Int.emod_def a b
  rw [this, Int.mul_comm]
theorem pw_irem {a b : Int} (hd : Dn y pc .irem 1 pc2) (ha : 0 ≤ a) (hb : 0 < b) (k : PW S y Q pc2 ls (Iq (a % b) :: st) mem) : PW S y Q pc ls (Iq b :: Iq a :: st) mem := by
  intro g p l e R s m args below meth c cells slots QF X rt H locs L w hS hM hs hl hv
  obtain ⟨hd, rfl⟩ := hd
  refine lv_irem X.1 X.2.1 hd (ne0I hb hs.1) ?_
  obtain ⟨e1, e2⟩ := tdivI ha hb hs.2.1 hs.1
  rw [e1, ← Int32.ofInt_mul, ← Int32.ofInt_sub, emI]
  have h1 := Int.emod_nonneg a (show b ≠ 0 by omega)
  have h2 := Int.emod_lt_of_pos a hb
  have h3 := hs.1
  have h4 : in32 b := h3
  exact k g p l e R s m args below meth c cells slots QF X rt H locs L w hS hM ⟨(⟨by omega, by omega⟩ : in32 (a % b)), hs.2.2⟩ hl hv

theorem pw_lmul {a b : Int} (hd : Dn y pc .lmul 1 pc2) (k : PW S y Q pc2 ls (Jq (wrL (a * b)) :: st) mem) : PW S y Q pc ls (Jq b :: Jq a :: st) mem := by
  intro g p l e R s m args below meth c cells slots QF X rt H locs L w hS hM hs hl hv
  obtain ⟨hd, rfl⟩ := hd
  refine lv_lmul X.1 X.2.1 hd ?_
  have ee : Int64.ofInt a * Int64.ofInt b = Int64.ofInt (wrL (a * b)) := by unfold wrL; rw [Int64.ofInt_toInt, Int64.ofInt_mul]
  rw [ee]
  exact k g p l e R s m args below meth c cells slots QF X rt H locs L w hS hM ⟨in64_toInt _, hs.2.2⟩ hl hv
theorem tdivJ {a b : Int} (ha : 0 ≤ a) (hb : 0 < b) (h1 : in64 a) (h2 : in64 b) : Int64.ofInt a / Int64.ofInt b = Int64.ofInt (a / b) ∧ in64 (a / b) := by
  have h3 : 0 ≤ a / b := Int.ediv_nonneg ha (by omega)
  have h4 : a / b ≤ a := Int.ediv_le_self b ha
  have h5 : in64 (a / b) := ⟨by omega, by omega⟩
  refine ⟨?_, h5⟩
  apply Int64.toInt_inj.mp
  rw [Int64.toInt_div_of_ne_right _ _ (fun q => by
    have := congrArg Int64.toInt q
    rw [ofJ h2] at this
    have h6 : (-1 : Int64).toInt = -1 := by decide
    omega), ofJ h1, ofJ h2, ofJ h5, Int.tdiv_eq_ediv_of_nonneg ha]
theorem ne0J {b : Int} (hb : 0 < b) (h2 : in64 b) : ¬ Int64.ofInt b = 0 := fun q => by
  have := congrArg Int64.toInt q
  rw [ofJ h2] at this
  have h6 : (0 : Int64).toInt = 0 := by decide
  omega
theorem pw_ldiv {a b : Int} (hd : Dn y pc .ldiv 1 pc2) (ha : 0 ≤ a) (hb : 0 < b) (k : PW S y Q pc2 ls (Jq (a / b) :: st) mem) : PW S y Q pc ls (Jq b :: Jq a :: st) mem := by
  intro g p l e R s m args below meth c cells slots QF X rt H locs L w hS hM hs hl hv
  obtain ⟨hd, rfl⟩ := hd
  refine lv_ldiv X.1 X.2.1 hd (ne0J hb hs.1) ?_
  obtain ⟨e1, e2⟩ := tdivJ ha hb hs.2.1 hs.1
  rw [e1]
  exact k g p l e R s m args below meth c cells slots QF X rt H locs L w hS hM ⟨e2, hs.2.2⟩ hl hv
theorem pw_lrem {a b : Int} (hd : Dn y pc .lrem 1 pc2) (ha : 0 ≤ a) (hb : 0 < b) (k : PW S y Q pc2 ls (Jq (a % b) :: st) mem) : PW S y Q pc ls (Jq b :: Jq a :: st) mem := by
  intro g p l e R s m args below meth c cells slots QF X rt H locs L w hS hM hs hl hv
  obtain ⟨hd, rfl⟩ := hd
  refine lv_lrem X.1 X.2.1 hd (ne0J hb hs.1) ?_
  obtain ⟨e1, e2⟩ := tdivJ ha hb hs.2.1 hs.1
  rw [e1, ← Int64.ofInt_mul, ← Int64.ofInt_sub, emI]
  have h1 := Int.emod_nonneg a (show b ≠ 0 by omega)
  have h2 := Int.emod_lt_of_pos a hb
  have h3 := hs.1
  have h4 : in64 b := h3
  exact k g p l e R s m args below meth c cells slots QF X rt H locs L w hS hM ⟨(⟨by omega, by omega⟩ : in64 (a % b)), hs.2.2⟩ hl hv
theorem pw_lor {a b : Int} (hd : Dn y pc .lor 1 pc2) (k : PW S y Q pc2 ls (Jq (lOr a b) :: st) mem) : PW S y Q pc ls (Jq b :: Jq a :: st) mem := by
  intro g p l e R s m args below meth c cells slots QF X rt H locs L w hS hM hs hl hv
  obtain ⟨hd, rfl⟩ := hd
  refine lv_lor X.1 X.2.1 hd ?_
  have ee := (Int64.ofInt_toInt (Int64.ofInt a ||| Int64.ofInt b)).symm
  rw [ee]
  exact k g p l e R s m args below meth c cells slots QF X rt H locs L w hS hM ⟨in64_toInt _, hs.2.2⟩ hl hv
theorem pw_lshl {a b : Int} (hd : Dn y pc .lshl 1 pc2) (k : PW S y Q pc2 ls (Jq (lShl a b) :: st) mem) : PW S y Q pc ls (Iq b :: Jq a :: st) mem := by
  intro g p l e R s m args below meth c cells slots QF X rt H locs L w hS hM hs hl hv
  obtain ⟨hd, rfl⟩ := hd
  exact lv_lshl X.1 X.2.1 hd (Int64.ofInt_toInt _).symm (k g p l e R s m args below meth c cells slots QF X rt H locs L w hS hM ⟨in64_toInt _, hs.2.2⟩ hl hv)
theorem pw_i2l {a : Int} (hd : Dn y pc .i2l 1 pc2) (k : PW S y Q pc2 ls (Jq a :: st) mem) : PW S y Q pc ls (Iq a :: st) mem := by
  intro g p l e R s m args below meth c cells slots QF X rt H locs L w hS hM hs hl hv
  obtain ⟨hd, rfl⟩ := hd
  have h1 : in32 a := hs.1
  have h2 : in64 a := ⟨by omega, by omega⟩
  refine lv_i2l (v := Int64.ofInt a) X.1 X.2.1 hd ?_ (k g p l e R s m args below meth c cells slots QF X rt H locs L w hS hM ⟨h2, hs.2⟩ hl hv)
  apply Int64.toInt_inj.mp
  rw [Int32.toInt_toInt64, ofI h1, ofJ h2]
theorem pw_i2b {a : Int} (hd : Dn y pc .i2b 1 pc2) (k : PW S y Q pc2 ls (Iq (toB a) :: st) mem) : PW S y Q pc ls (Iq a :: st) mem := by
  intro g p l e R s m args below meth c cells slots QF X rt H locs L w hS hM hs hl hv
  obtain ⟨hd, rfl⟩ := hd
  exact lv_i2b X.1 X.2.1 hd (Int32.ofInt_toInt _).symm (k g p l e R s m args below meth c cells slots QF X rt H locs L w hS hM ⟨in32_toInt _, hs.2⟩ hl hv)
theorem pw_i2s {a : Int} (hd : Dn y pc .i2s 1 pc2) (k : PW S y Q pc2 ls (Iq (toSh a) :: st) mem) : PW S y Q pc ls (Iq a :: st) mem := by
  intro g p l e R s m args below meth c cells slots QF X rt H locs L w hS hM hs hl hv
  obtain ⟨hd, rfl⟩ := hd
  exact lv_i2s X.1 X.2.1 hd (Int32.ofInt_toInt _).symm (k g p l e R s m args below meth c cells slots QF X rt H locs L w hS hM ⟨in32_toInt _, hs.2⟩ hl hv)
theorem pw_lcmp {a b : Int} (hd : Dn y pc .lcmp 1 pc2) (k : PW S y Q pc2 ls (Iq (cmpL a b) :: st) mem) : PW S y Q pc ls (Jq b :: Jq a :: st) mem := by
  intro g p l e R s m args below meth c cells slots QF X rt H locs L w hS hM hs hl hv
  obtain ⟨hd, rfl⟩ := hd
  have h1 : in64 b := hs.1
  have h2 : in64 a := hs.2.1
  refine W.lcmp X.1 X.2.1 hd ?_
  have h3 : in32 (cmpL a b) := by unfold cmpL; split; exact ⟨by omega, by omega⟩; split <;> exact ⟨by omega, by omega⟩
  have ee : lg_cmp (Int64.ofInt a) (Int64.ofInt b) = Int32.ofInt (cmpL a b) := by
    unfold lg_cmp cmpL
    have e1 : (Int64.ofInt a > Int64.ofInt b) ↔ b < a := by
      show Int64.ofInt b < Int64.ofInt a ↔ b < a
      rw [Int64.lt_iff_toInt_lt, ofJ h1, ofJ h2]
    have e2 : (Int64.ofInt a = Int64.ofInt b) ↔ a = b := by
      rw [← Int64.toInt_inj, ofJ h1, ofJ h2]
    by_cases q1 : b < a
    · rw [if_pos (e1.mpr q1), if_pos q1]; rfl
    · rw [if_neg (fun z => q1 (e1.mp z)), if_neg q1]
      by_cases q2 : a = b
      · rw [if_pos (e2.mpr q2), if_pos q2]; rfl
      · rw [if_neg (fun z => q2 (e2.mp z)), if_neg q2]; rfl
  rw [ee]
  exact k g p l e R s m args below meth c cells slots QF X rt H locs L w hS hM ⟨h3, hs.2.2⟩ hl hv
theorem pw_dup {v : PV} (hd : Dn y pc .dup 1 pc2) (hc : isJ (some v) = false) (k : PW S y Q pc2 ls (v :: v :: st) mem) : PW S y Q pc ls (v :: st) mem := by
  intro g p l e R s m args below meth c cells slots QF X rt H locs L w hS hM hs hl hv
  obtain ⟨hd, rfl⟩ := hd
  refine lv_dup X.1 X.2.1 hd ?_ (k g p l e R s m args below meth c cells slots QF X rt H locs L w hS hM ⟨hs.1, hs⟩ hl hv)
  rcases v with x | x | x
  · rfl
  · cases hc
  · rfl
theorem pw_dup2 {v u : PV} (hd : Dn y pc .dup2 1 pc2) (hc : isJ (some v) = false) (hc2 : isJ (some u) = false) (k : PW S y Q pc2 ls (v :: u :: v :: u :: st) mem) : PW S y Q pc ls (v :: u :: st) mem := by
  intro g p l e R s m args below meth c cells slots QF X rt H locs L w hS hM hs hl hv
  obtain ⟨hd, rfl⟩ := hd
  refine lv_dup2_11 X.1 X.2.1 hd ?_ ?_ (k g p l e R s m args below meth c cells slots QF X rt H locs L w hS hM ⟨hs.1, hs.2.1, hs⟩ hl hv)
  · rcases v with x | x | x
    · rfl
    · cases hc
    · rfl
  · rcases u with x | x | x
    · rfl
    · cases hc2
    · rfl

theorem pw_goto {off : Int} (hd : Dj y pc (.goto off) off pc2 tgt) (k : PW S y Q tgt ls st mem) : PW S y Q pc ls st mem := by
  intro g p l e R s m args below meth c cells slots QF X rt H locs L w hS hM hs hl hv
  exact lv_goto X.1 X.2.1 hd.1 hd.2.2 (k g p l e R s m args below meth c cells slots QF X rt H locs L w hS hM hs hl hv)
theorem pw_icmp_eq {a b : Int} {off : Int} (hd : Dj y pc (.if_icmp .eq off) off pc2 tgt) (kt : a = b → PW S y Q tgt ls st mem) (kf : ¬ (a = b) → PW S y Q pc2 ls st mem) : PW S y Q pc ls (Iq b :: Iq a :: st) mem := by
  intro g p l e R s m args below meth c cells slots QF X rt H locs L w hS hM hs hl hv
  obtain ⟨hd, rfl, ht⟩ := hd
  have h1 : in32 b := hs.1
  have h2 : in32 a := hs.2.1
  have e1 : (Int32.ofInt a = Int32.ofInt b) ↔ a = b := by rw [← Int32.toInt_inj, ofI h1, ofI h2]
  have e2 : (Int32.ofInt a < Int32.ofInt b) ↔ a < b := by rw [Int32.lt_iff_toInt_lt, ofI h1, ofI h2]
  have e3 : (Int32.ofInt b < Int32.ofInt a) ↔ b < a := by rw [Int32.lt_iff_toInt_lt, ofI h1, ofI h2]
  have e4 : (Int32.ofInt a ≤ Int32.ofInt b) ↔ a ≤ b := by rw [Int32.le_iff_toInt_le, ofI h1, ofI h2]
  have e5 : (Int32.ofInt b ≤ Int32.ofInt a) ↔ b ≤ a := by rw [Int32.le_iff_toInt_le, ofI h1, ofI h2]
  exact lv_icmp_eq X.1 X.2.1 hd ht (fun q => kt (by first | exact e1.mp q | exact e2.mp q | exact e3.mp q | exact e4.mp q | exact e5.mp q | (intro z; exact q (e1.mpr z))) g p l e R s m args below meth c cells slots QF X rt H locs L w hS hM hs.2.2 hl hv) (fun q => kf (by intro z; first | exact q (e1.mpr z) | exact q (e2.mpr z) | exact q (e3.mpr z) | exact q (e4.mpr z) | exact q (e5.mpr z) | exact z (e1.mp q)) g p l e R s m args below meth c cells slots QF X rt H locs L w hS hM hs.2.2 hl hv)
theorem pw_if_eq {a : Int} {off : Int} (hd : Dj y pc (.ifCond .eq off) off pc2 tgt) (kt : a = 0 → PW S y Q tgt ls st mem) (kf : ¬ (a = 0) → PW S y Q pc2 ls st mem) : PW S y Q pc ls (Iq a :: st) mem := by
  intro g p l e R s m args below meth c cells slots QF X rt H locs L w hS hM hs hl hv
  obtain ⟨hd, rfl, ht⟩ := hd
  have h2 : in32 a := hs.1
  have h0 : (0 : Int32).toInt = 0 := by decide
  have e1 : (Int32.ofInt a = 0) ↔ a = 0 := by rw [← Int32.toInt_inj, ofI h2, h0]
  have e2 : (Int32.ofInt a < 0) ↔ a < 0 := by rw [Int32.lt_iff_toInt_lt, ofI h2, h0]
  have e3 : (0 < Int32.ofInt a) ↔ 0 < a := by rw [Int32.lt_iff_toInt_lt, ofI h2, h0]
  have e4 : (Int32.ofInt a ≤ 0) ↔ a ≤ 0 := by rw [Int32.le_iff_toInt_le, ofI h2, h0]
  have e5 : (0 ≤ Int32.ofInt a) ↔ 0 ≤ a := by rw [Int32.le_iff_toInt_le, ofI h2, h0]
  exact lv_if_eq X.1 X.2.1 hd ht (fun q => kt (by first | exact e1.mp q | exact e2.mp q | exact e3.mp q | exact e4.mp q | exact e5.mp q | (intro z; exact q (e1.mpr z))) g p l e R s m args below meth c cells slots QF X rt H locs L w hS hM hs.2 hl hv) (fun q => kf (by intro z; first | exact q (e1.mpr z) | exact q (e2.mpr z) | exact q (e3.mpr z) | exact q (e4.mpr z) | exact q (e5.mpr z) | exact z (e1.mp q)) g p l e R s m args below meth c cells slots QF X rt H locs L w hS hM hs.2 hl hv)
theorem pw_icmp_ne {a b : Int} {off : Int} (hd : Dj y pc (.if_icmp .ne off) off pc2 tgt) (kt : ¬ a = b → PW S y Q tgt ls st mem) (kf : ¬ (¬ a = b) → PW S y Q pc2 ls st mem) : PW S y Q pc ls (Iq b :: Iq a :: st) mem := by
  intro g p l e R s m args below meth c cells slots QF X rt H locs L w hS hM hs hl hv
  obtain ⟨hd, rfl, ht⟩ := hd
  have h1 : in32 b := hs.1
  have h2 : in32 a := hs.2.1
  have e1 : (Int32.ofInt a = Int32.ofInt b) ↔ a = b := by rw [← Int32.toInt_inj, ofI h1, ofI h2]
  have e2 : (Int32.ofInt a < Int32.ofInt b) ↔ a < b := by rw [Int32.lt_iff_toInt_lt, ofI h1, ofI h2]
  have e3 : (Int32.ofInt b < Int32.ofInt a) ↔ b < a := by rw [Int32.lt_iff_toInt_lt, ofI h1, ofI h2]
  have e4 : (Int32.ofInt a ≤ Int32.ofInt b) ↔ a ≤ b := by rw [Int32.le_iff_toInt_le, ofI h1, ofI h2]
  have e5 : (Int32.ofInt b ≤ Int32.ofInt a) ↔ b ≤ a := by rw [Int32.le_iff_toInt_le, ofI h1, ofI h2]
  exact lv_icmp_ne X.1 X.2.1 hd ht (fun q => kt (by first | exact e1.mp q | exact e2.mp q | exact e3.mp q | exact e4.mp q | exact e5.mp q | (intro z; exact q (e1.mpr z))) g p l e R s m args below meth c cells slots QF X rt H locs L w hS hM hs.2.2 hl hv) (fun q => kf (by intro z; first | exact q (e1.mpr z) | exact q (e2.mpr z) | exact q (e3.mpr z) | exact q (e4.mpr z) | exact q (e5.mpr z) | exact z (e1.mp q)) g p l e R s m args below meth c cells slots QF X rt H locs L w hS hM hs.2.2 hl hv)
theorem pw_if_ne {a : Int} {off : Int} (hd : Dj y pc (.ifCond .ne off) off pc2 tgt) (kt : ¬ a = 0 → PW S y Q tgt ls st mem) (kf : ¬ (¬ a = 0) → PW S y Q pc2 ls st mem) : PW S y Q pc ls (Iq a :: st) mem := by
  intro g p l e R s m args below meth c cells slots QF X rt H locs L w hS hM hs hl hv
  obtain ⟨hd, rfl, ht⟩ := hd
  have h2 : in32 a := hs.1
  have h0 : (0 : Int32).toInt = 0 := by decide
  have e1 : (Int32.ofInt a = 0) ↔ a = 0 := by rw [← Int32.toInt_inj, ofI h2, h0]
  have e2 : (Int32.ofInt a < 0) ↔ a < 0 := by rw [Int32.lt_iff_toInt_lt, ofI h2, h0]
  have e3 : (0 < Int32.ofInt a) ↔ 0 < a := by rw [Int32.lt_iff_toInt_lt, ofI h2, h0]
  have e4 : (Int32.ofInt a ≤ 0) ↔ a ≤ 0 := by rw [Int32.le_iff_toInt_le, ofI h2, h0]
  have e5 : (0 ≤ Int32.ofInt a) ↔ 0 ≤ a := by rw [Int32.le_iff_toInt_le, ofI h2, h0]
  exact lv_if_ne X.1 X.2.1 hd ht (fun q => kt (by first | exact e1.mp q | exact e2.mp q | exact e3.mp q | exact e4.mp q | exact e5.mp q | (intro z; exact q (e1.mpr z))) g p l e R s m args below meth c cells slots QF X rt H locs L w hS hM hs.2 hl hv) (fun q => kf (by intro z; first | exact q (e1.mpr z) | exact q (e2.mpr z) | exact q (e3.mpr z) | exact q (e4.mpr z) | exact q (e5.mpr z) | exact z (e1.mp q)) g p l e R s m args below meth c cells slots QF X rt H locs L w hS hM hs.2 hl hv)
theorem pw_icmp_lt {a b : Int} {off : Int} (hd : Dj y pc (.if_icmp .lt off) off pc2 tgt) (kt : a < b → PW S y Q tgt ls st mem) (kf : ¬ (a < b) → PW S y Q pc2 ls st mem) : PW S y Q pc ls (Iq b :: Iq a :: st) mem := by
  intro g p l e R s m args below meth c cells slots QF X rt H locs L w hS hM hs hl hv
  obtain ⟨hd, rfl, ht⟩ := hd
  have h1 : in32 b := hs.1
  have h2 : in32 a := hs.2.1
  have e1 : (Int32.ofInt a = Int32.ofInt b) ↔ a = b := by rw [← Int32.toInt_inj, ofI h1, ofI h2]
  have e2 : (Int32.ofInt a < Int32.ofInt b) ↔ a < b := by rw [Int32.lt_iff_toInt_lt, ofI h1, ofI h2]
  have e3 : (Int32.ofInt b < Int32.ofInt a) ↔ b < a := by rw [Int32.lt_iff_toInt_lt, ofI h1, ofI h2]
  have e4 : (Int32.ofInt a ≤ Int32.ofInt b) ↔ a ≤ b := by rw [Int32.le_iff_toInt_le, ofI h1, ofI h2]
  have e5 : (Int32.ofInt b ≤ Int32.ofInt a) ↔ b ≤ a := by rw [Int32.le_iff_toInt_le, ofI h1, ofI h2]
  exact lv_icmp_lt X.1 X.2.1 hd ht (fun q => kt (by first | exact e1.mp q | exact e2.mp q | exact e3.mp q | exact e4.mp q | exact e5.mp q | (intro z; exact q (e1.mpr z))) g p l e R s m args below meth c cells slots QF X rt H locs L w hS hM hs.2.2 hl hv) (fun q => kf (by intro z; first | exact q (e1.mpr z) | exact q (e2.mpr z) | exact q (e3.mpr z) | exact q (e4.mpr z) | exact q (e5.mpr z) | exact z (e1.mp q)) g p l e R s m args below meth c cells slots QF X rt H locs L w hS hM hs.2.2 hl hv)
theorem pw_if_lt {a : Int} {off : Int} (hd : Dj y pc (.ifCond .lt off) off pc2 tgt) (kt : a < 0 → PW S y Q tgt ls st mem) (kf : ¬ (a < 0) → PW S y Q pc2 ls st mem) : PW S y Q pc ls (Iq a :: st) mem := by
  intro g p l e R s m args below meth c cells slots QF X rt H locs L w hS hM hs hl hv
  obtain ⟨hd, rfl, ht⟩ := hd
  have h2 : in32 a := hs.1
  have h0 : (0 : Int32).toInt = 0 := by decide
  have e1 : (Int32.ofInt a = 0) ↔ a = 0 := by rw [← Int32.toInt_inj, ofI h2, h0]
  have e2 : (Int32.ofInt a < 0) ↔ a < 0 := by rw [Int32.lt_iff_toInt_lt, ofI h2, h0]
  have e3 : (0 < Int32.ofInt a) ↔ 0 < a := by rw [Int32.lt_iff_toInt_lt, ofI h2, h0]
  have e4 : (Int32.ofInt a ≤ 0) ↔ a ≤ 0 := by rw [Int32.le_iff_toInt_le, ofI h2, h0]
  have e5 : (0 ≤ Int32.ofInt a) ↔ 0 ≤ a := by rw [Int32.le_iff_toInt_le, ofI h2, h0]
  exact lv_if_lt X.1 X.2.1 hd ht (fun q => kt (by first | exact e1.mp q | exact e2.mp q | exact e3.mp q | exact e4.mp q | exact e5.mp q | (intro z; exact q (e1.mpr z))) g p l e R s m args below meth c cells slots QF X rt H locs L w hS hM hs.2 hl hv) (fun q => kf (by intro z; first | exact q (e1.mpr z) | exact q (e2.mpr z) | exact q (e3.mpr z) | exact q (e4.mpr z) | exact q (e5.mpr z) | exact z (e1.mp q)) g p l e R s m args below meth c cells slots QF X rt H locs L w hS hM hs.2 hl hv)
theorem pw_icmp_ge {a b : Int} {off : Int} (hd : Dj y pc (.if_icmp .ge off) off pc2 tgt) (kt : b ≤ a → PW S y Q tgt ls st mem) (kf : ¬ (b ≤ a) → PW S y Q pc2 ls st mem) : PW S y Q pc ls (Iq b :: Iq a :: st) mem := by
  intro g p l e R s m args below meth c cells slots QF X rt H locs L w hS hM hs hl hv
  obtain ⟨hd, rfl, ht⟩ := hd
  have h1 : in32 b := hs.1
  have h2 : in32 a := hs.2.1
  have e1 : (Int32.ofInt a = Int32.ofInt b) ↔ a = b := by rw [← Int32.toInt_inj, ofI h1, ofI h2]
  have e2 : (Int32.ofInt a < Int32.ofInt b) ↔ a < b := by rw [Int32.lt_iff_toInt_lt, ofI h1, ofI h2]
  have e3 : (Int32.ofInt b < Int32.ofInt a) ↔ b < a := by rw [Int32.lt_iff_toInt_lt, ofI h1, ofI h2]
  have e4 : (Int32.ofInt a ≤ Int32.ofInt b) ↔ a ≤ b := by rw [Int32.le_iff_toInt_le, ofI h1, ofI h2]
  have e5 : (Int32.ofInt b ≤ Int32.ofInt a) ↔ b ≤ a := by rw [Int32.le_iff_toInt_le, ofI h1, ofI h2]
  exact lv_icmp_ge X.1 X.2.1 hd ht (fun q => kt (by first | exact e1.mp q | exact e2.mp q | exact e3.mp q | exact e4.mp q | exact e5.mp q | (intro z; exact q (e1.mpr z))) g p l e R s m args below meth c cells slots QF X rt H locs L w hS hM hs.2.2 hl hv) (fun q => kf (by intro z; first | exact q (e1.mpr z) | exact q (e2.mpr z) | exact q (e3.mpr z) | exact q (e4.mpr z) | exact q (e5.mpr z) | exact z (e1.mp q)) g p l e R s m args below meth c cells slots QF X rt H locs L w hS hM hs.2.2 hl hv)
theorem pw_if_ge {a : Int} {off : Int} (hd : Dj y pc (.ifCond .ge off) off pc2 tgt) (kt : 0 ≤ a → PW S y Q tgt ls st mem) (kf : ¬ (0 ≤ a) → PW S y Q pc2 ls st mem) : PW S y Q pc ls (Iq a :: st) mem := by
  intro g p l e R s m args below meth c cells slots QF X rt H locs L w hS hM hs hl hv
  obtain ⟨hd, rfl, ht⟩ := hd
  have h2 : in32 a := hs.1
  have h0 : (0 : Int32).toInt = 0 := by decide
  have e1 : (Int32.ofInt a = 0) ↔ a = 0 := by rw [← Int32.toInt_inj, ofI h2, h0]
  have e2 : (Int32.ofInt a < 0) ↔ a < 0 := by rw [Int32.lt_iff_toInt_lt, ofI h2, h0]
  have e3 : (0 < Int32.ofInt a) ↔ 0 < a := by rw [Int32.lt_iff_toInt_lt, ofI h2, h0]
  have e4 : (Int32.ofInt a ≤ 0) ↔ a ≤ 0 := by rw [Int32.le_iff_toInt_le, ofI h2, h0]
  have e5 : (0 ≤ Int32.ofInt a) ↔ 0 ≤ a := by rw [Int32.le_iff_toInt_le, ofI h2, h0]
  exact lv_if_ge X.1 X.2.1 hd ht (fun q => kt (by first | exact e1.mp q | exact e2.mp q | exact e3.mp q | exact e4.mp q | exact e5.mp q | (intro z; exact q (e1.mpr z))) g p l e R s m args below meth c cells slots QF X rt H locs L w hS hM hs.2 hl hv) (fun q => kf (by intro z; first | exact q (e1.mpr z) | exact q (e2.mpr z) | exact q (e3.mpr z) | exact q (e4.mpr z) | exact q (e5.mpr z) | exact z (e1.mp q)) g p l e R s m args below meth c cells slots QF X rt H locs L w hS hM hs.2 hl hv)
theorem pw_icmp_gt {a b : Int} {off : Int} (hd : Dj y pc (.if_icmp .gt off) off pc2 tgt) (kt : b < a → PW S y Q tgt ls st mem) (kf : ¬ (b < a) → PW S y Q pc2 ls st mem) : PW S y Q pc ls (Iq b :: Iq a :: st) mem := by
  intro g p l e R s m args below meth c cells slots QF X rt H locs L w hS hM hs hl hv
  obtain ⟨hd, rfl, ht⟩ := hd
  have h1 : in32 b := hs.1
  have h2 : in32 a := hs.2.1
  have e1 : (Int32.ofInt a = Int32.ofInt b) ↔ a = b := by rw [← Int32.toInt_inj, ofI h1, ofI h2]
  have e2 : (Int32.ofInt a < Int32.ofInt b) ↔ a < b := by rw [Int32.lt_iff_toInt_lt, ofI h1, ofI h2]
  have e3 : (Int32.ofInt b < Int32.ofInt a) ↔ b < a := by rw [Int32.lt_iff_toInt_lt, ofI h1, ofI h2]
  have e4 : (Int32.ofInt a ≤ Int32.ofInt b) ↔ a ≤ b := by rw [Int32.le_iff_toInt_le, ofI h1, ofI h2]
  have e5 : (Int32.ofInt b ≤ Int32.ofInt a) ↔ b ≤ a := by rw [Int32.le_iff_toInt_le, ofI h1, ofI h2]
  exact lv_icmp_gt X.1 X.2.1 hd ht (fun q => kt (by first | exact e1.mp q | exact e2.mp q | exact e3.mp q | exact e4.mp q | exact e5.mp q | (intro z; exact q (e1.mpr z))) g p l e R s m args below meth c cells slots QF X rt H locs L w hS hM hs.2.2 hl hv) (fun q => kf (by intro z; first | exact q (e1.mpr z) | exact q (e2.mpr z) | exact q (e3.mpr z) | exact q (e4.mpr z) | exact q (e5.mpr z) | exact z (e1.mp q)) g p l e R s m args below meth c cells slots QF X rt H locs L w hS hM hs.2.2 hl hv)
theorem pw_if_gt {a : Int} {off : Int} (hd : Dj y pc (.ifCond .gt off) off pc2 tgt) (kt : 0 < a → PW S y Q tgt ls st mem) (kf : ¬ (0 < a) → PW S y Q pc2 ls st mem) : PW S y Q pc ls (Iq a :: st) mem := by
  intro g p l e R s m args below meth c cells slots QF X rt H locs L w hS hM hs hl hv
  obtain ⟨hd, rfl, ht⟩ := hd
  have h2 : in32 a := hs.1
  have h0 : (0 : Int32).toInt = 0 := by decide
  have e1 : (Int32.ofInt a = 0) ↔ a = 0 := by rw [← Int32.toInt_inj, ofI h2, h0]
  have e2 : (Int32.ofInt a < 0) ↔ a < 0 := by rw [Int32.lt_iff_toInt_lt, ofI h2, h0]
  have e3 : (0 < Int32.ofInt a) ↔ 0 < a := by rw [Int32.lt_iff_toInt_lt, ofI h2, h0]
  have e4 : (Int32.ofInt a ≤ 0) ↔ a ≤ 0 := by rw [Int32.le_iff_toInt_le, ofI h2, h0]
  have e5 : (0 ≤ Int32.ofInt a) ↔ 0 ≤ a := by rw [Int32.le_iff_toInt_le, ofI h2, h0]
  exact lv_if_gt X.1 X.2.1 hd ht (fun q => kt (by first | exact e1.mp q | exact e2.mp q | exact e3.mp q | exact e4.mp q | exact e5.mp q | (intro z; exact q (e1.mpr z))) g p l e R s m args below meth c cells slots QF X rt H locs L w hS hM hs.2 hl hv) (fun q => kf (by intro z; first | exact q (e1.mpr z) | exact q (e2.mpr z) | exact q (e3.mpr z) | exact q (e4.mpr z) | exact q (e5.mpr z) | exact z (e1.mp q)) g p l e R s m args below meth c cells slots QF X rt H locs L w hS hM hs.2 hl hv)
theorem pw_icmp_le {a b : Int} {off : Int} (hd : Dj y pc (.if_icmp .le off) off pc2 tgt) (kt : a ≤ b → PW S y Q tgt ls st mem) (kf : ¬ (a ≤ b) → PW S y Q pc2 ls st mem) : PW S y Q pc ls (Iq b :: Iq a :: st) mem := by
  intro g p l e R s m args below meth c cells slots QF X rt H locs L w hS hM hs hl hv
  obtain ⟨hd, rfl, ht⟩ := hd
  have h1 : in32 b := hs.1
  have h2 : in32 a := hs.2.1
  have e1 : (Int32.ofInt a = Int32.ofInt b) ↔ a = b := by rw [← Int32.toInt_inj, ofI h1, ofI h2]
  have e2 : (Int32.ofInt a < Int32.ofInt b) ↔ a < b := by rw [Int32.lt_iff_toInt_lt, ofI h1, ofI h2]
  have e3 : (Int32.ofInt b < Int32.ofInt a) ↔ b < a := by rw [Int32.lt_iff_toInt_lt, ofI h1, ofI h2]
  have e4 : (Int32.ofInt a ≤ Int32.ofInt b) ↔ a ≤ b := by rw [Int32.le_iff_toInt_le, ofI h1, ofI h2]
  have e5 : (Int32.ofInt b ≤ Int32.ofInt a) ↔ b ≤ a := by rw [Int32.le_iff_toInt_le, ofI h1, ofI h2]
  exact lv_icmp_le X.1 X.2.1 hd ht (fun q => kt (by first | exact e1.mp q | exact e2.mp q | exact e3.mp q | exact e4.mp q | exact e5.mp q | (intro z; exact q (e1.mpr z))) g p l e R s m args below meth c cells slots QF X rt H locs L w hS hM hs.2.2 hl hv) (fun q => kf (by intro z; first | exact q (e1.mpr z) | exact q (e2.mpr z) | exact q (e3.mpr z) | exact q (e4.mpr z) | exact q (e5.mpr z) | exact z (e1.mp q)) g p l e R s m args below meth c cells slots QF X rt H locs L w hS hM hs.2.2 hl hv)
theorem pw_if_le {a : Int} {off : Int} (hd : Dj y pc (.ifCond .le off) off pc2 tgt) (kt : a ≤ 0 → PW S y Q tgt ls st mem) (kf : ¬ (a ≤ 0) → PW S y Q pc2 ls st mem) : PW S y Q pc ls (Iq a :: st) mem := by
  intro g p l e R s m args below meth c cells slots QF X rt H locs L w hS hM hs hl hv
  obtain ⟨hd, rfl, ht⟩ := hd
  have h2 : in32 a := hs.1
  have h0 : (0 : Int32).toInt = 0 := by decide
  have e1 : (Int32.ofInt a = 0) ↔ a = 0 := by rw [← Int32.toInt_inj, ofI h2, h0]
  have e2 : (Int32.ofInt a < 0) ↔ a < 0 := by rw [Int32.lt_iff_toInt_lt, ofI h2, h0]
  have e3 : (0 < Int32.ofInt a) ↔ 0 < a := by rw [Int32.lt_iff_toInt_lt, ofI h2, h0]
  have e4 : (Int32.ofInt a ≤ 0) ↔ a ≤ 0 := by rw [Int32.le_iff_toInt_le, ofI h2, h0]
  have e5 : (0 ≤ Int32.ofInt a) ↔ 0 ≤ a := by rw [Int32.le_iff_toInt_le, ofI h2, h0]
  exact lv_if_le X.1 X.2.1 hd ht (fun q => kt (by first | exact e1.mp q | exact e2.mp q | exact e3.mp q | exact e4.mp q | exact e5.mp q | (intro z; exact q (e1.mpr z))) g p l e R s m args below meth c cells slots QF X rt H locs L w hS hM hs.2 hl hv) (fun q => kf (by intro z; first | exact q (e1.mpr z) | exact q (e2.mpr z) | exact q (e3.mpr z) | exact q (e4.mpr z) | exact q (e5.mpr z) | exact z (e1.mp q)) g p l e R s m args below meth c cells slots QF X rt H locs L w hS hM hs.2 hl hv)
/-- the cases of a switch, by their keys -/
def Swi (x : Int) (P : Nat → Prop) : List (Int × Nat) → Prop
  | [] => True
  | q :: r => (x = q.1 → P q.2) ∧ Swi x P r
theorem Swi.at {x : Int} {P : Nat → Prop} : ∀ {l : List (Int × Nat)} (j : Nat) {q : Int × Nat}, Swi x P l → l[j]? = some q → x = q.1 → P q.2 := by
  intro l
  induction l with
  | nil => intro j q _ h; simp at h
  | cons a r ih =>
    intro j q hs h hx
    cases j with
    | zero => simp at h; subst h; exact hs.1 hx
    | succ n => exact ih n hs.2 (by simpa using h) hx
theorem pw_tsw {x dflt lo hi : Int} {offs : Array Int} {len td : Nat} {ps : List (Int × Nat)} (hd : Dn y pc (.tableswitch dflt lo hi offs) len pc2) (hz : (offs.size : Int) = hi - lo + 1) (h1 : (List.range offs.size).map (fun j : Nat => lo + (j : Int)) = ps.map (fun q => q.1)) (h2 : offs.toList.map (fun o => (pc : Int) + o) = ps.map (fun q => (q.2 : Int))) (h3 : (pc : Int) + dflt = (td : Int))
    (k : Swi x (fun t => PW S y Q t ls st mem) ps) (kd : (x < lo ∨ hi < x) → PW S y Q td ls st mem) : PW S y Q pc ls (Iq x :: st) mem := by
  intro g p l e R s m args below meth c cells slots QF X rt H locs L w hS hM hs hl hv
  obtain ⟨hd, -⟩ := hd
  have hx : in32 x := hs.1
  by_cases h : x < lo ∨ hi < x
  · exact lv_tableOut X.1 X.2.1 hd (by rw [ofI hx]; exact h) h3 (kd h g p l e R s m args below meth c cells slots QF X rt H locs L w hS hM hs.2 hl hv)
  · have hj : (x - lo).toNat < offs.size := by omega
    have hj2 : offs[(x - lo).toNat]? = some offs[(x - lo).toNat] := Array.getElem?_eq_getElem hj
    have hp1 := congrArg (fun l => l[(x - lo).toNat]?) h1
    have hp2 := congrArg (fun l => l[(x - lo).toNat]?) h2
    simp only [List.getElem?_map, List.getElem?_range hj, Array.getElem?_toList, hj2, Option.map_some] at hp1 hp2
    cases hq : ps[(x - lo).toNat]? with
    | none => rw [hq] at hp1; cases hp1
    | some q =>
      rw [hq] at hp1 hp2
      simp only [Option.map_some, Option.some.injEq] at hp1 hp2
      refine lv_tableIn X.1 X.2.1 hd (by rw [ofI hx]; omega) (by rw [ofI hx]; omega) (by rw [ofI hx]; exact hj2) hp2 ?_
      exact (k.at (x - lo).toNat hq (by omega)) g p l e R s m args below meth c cells slots QF X rt H locs L w hS hM hs.2 hl hv
theorem pw_lsw {x dflt : Int} {ps0 : Array (Int × Int)} {len td : Nat} {ps : List (Int × Nat)} (hd : Dn y pc (.lookupswitch dflt ps0) len pc2) (hp : (ps0.toList.zip (ps0.toList.drop 1)).all (fun (a, next) => a.1 < next.1) = true) (h1 : ps0.toList.map (fun q => q.1) = ps.map (fun q => q.1)) (h2 : ps0.toList.map (fun q => (pc : Int) + q.2) = ps.map (fun q => (q.2 : Int))) (h3 : (pc : Int) + dflt = (td : Int))
    (k : Swi x (fun t => PW S y Q t ls st mem) ps) (kd : (∀ q ∈ ps, ¬ x = q.1) → PW S y Q td ls st mem) : PW S y Q pc ls (Iq x :: st) mem := by
  intro g p l e R s m args below meth c cells slots QF X rt H locs L w hS hM hs hl hv
  obtain ⟨hd, -⟩ := hd
  have hx : in32 x := hs.1
  have key : ∀ (a : List (Int × Int)) (b : List (Int × Nat)), a.map (fun q => q.1) = b.map (fun q => q.1) → a.map (fun q => (pc : Int) + q.2) = b.map (fun q => (q.2 : Int)) → Swi x (fun t => PW S y Q t ls st mem) b → ((∀ q ∈ b, ¬ x = q.1) → PW S y Q td ls st mem) →
      ∃ t : Nat, (pc : Int) + Op.lookupswitch.offset a dflt x = (t : Int) ∧ PW S y Q t ls st mem := by
    intro a
    induction a with
    | nil =>
      intro b e1 e2 hk hkd
      cases b with
      | nil => exact ⟨td, h3, hkd (fun q hq => by cases hq)⟩
      | cons q r => cases e1
    | cons z a ih =>
      intro b e1 e2 hk hkd
      cases b with
      | nil => cases e1
      | cons q r =>
        simp only [List.map_cons, List.cons.injEq] at e1 e2
        by_cases hz : x = z.1
        · refine ⟨q.2, ?_, hk.1 (by rw [hz, e1.1])⟩
          rw [← e2.1]
          obtain ⟨z1, z2⟩ := z
          rw [Op.lookupswitch.offset_cons, if_pos hz.symm]
        · obtain ⟨t, ht1, ht2⟩ := ih r e1.2 e2.2 hk.2 (fun hq => hkd (fun q2 h2 => by
            rcases List.mem_cons.mp h2 with h2 | h2
            · rw [h2, ← e1.1]; exact hz
            · exact hq q2 h2))
          refine ⟨t, ?_, ht2⟩
          rw [← ht1]
          obtain ⟨z1, z2⟩ := z
          rw [Op.lookupswitch.offset_cons, if_neg (fun q => hz q.symm)]
  obtain ⟨t, ht1, ht2⟩ := key _ _ h1 h2 k kd
  exact lv_lookup X.1 X.2.1 hd hp (by rw [ofI hx]) ht1 (ht2 g p l e R s m args below meth c cells slots QF X rt H locs L w hS hM hs.2 hl hv)
theorem pw_iret {v : Int} (hd : Dn y pc .ireturn 1 pc2) (k : Q (some (Iq v)) mem) : PW S y Q pc ls [Iq v] mem := by
  intro g p l e R s m args below meth c cells slots QF X rt H locs L w hS hM hs hl hv
  exact rt (some (Iq v)) mem H locs L pc k w hS hM hs.1 hd.1
theorem pw_lret {v : Int} (hd : Dn y pc .lreturn 1 pc2) (k : Q (some (Jq v)) mem) : PW S y Q pc ls [Jq v] mem := by
  intro g p l e R s m args below meth c cells slots QF X rt H locs L w hS hM hs hl hv
  exact rt (some (Jq v)) mem H locs L pc k w hS hM hs.1 hd.1
theorem pw_vret (hd : Dn y pc .return_ 1 pc2) (k : Q none mem) : PW S y Q pc ls [] mem := by
  intro g p l e R s m args below meth c cells slots QF X rt H locs L w hS hM hs hl hv
  exact rt none mem H locs L pc k w hS hM trivial hd.1
theorem pw_ok (k : okS st → okL ls → okM mem → PW S y Q pc ls st mem) : PW S y Q pc ls st mem := by
  intro g p l e R s m args below meth c cells slots QF X rt H locs L w hS hM hs hl hv
  exact k hs hl hM g p l e R s m args below meth c cells slots QF X rt H locs L w hS hM hs hl hv
end PA
end
section
/-! ===== fields, arrays, tables, calls ===== -/
section PH
variable {S : Sx} {y : MD} {Q : Option PV → Zm → Prop} {pc pc2 tgt : Nat} {ls ls2 : List (Option PV)} {st : List PV} {mem : Zm}
theorem wcell_obj {g : Gx} {o ci : Nat} {f : Nat → Int} (h : shp o = (0, ci)) : wcell g o f = .inr (ci, wobj g.1 o ci f) := by unfold wcell; rw [h]; rfl
theorem wcell_int {g : Gx} {o n : Nat} {f : Nat → Int} (h : shp o = (1, n)) : wcell g o f = .inl (g.2.2.1, n, .inl (fun j => Int32.ofInt (f j))) := by unfold wcell; rw [h]; rfl
theorem wcell_byte {g : Gx} {o n : Nat} {f : Nat → Int} (h : shp o = (2, n)) : wcell g o f = .inl (g.2.2.2.1, n, .inl (fun j => Int32.ofInt (f j))) := by unfold wcell; rw [h]; rfl
theorem wcell_ref {g : Gx} {o n : Nat} {f : Nat → Int} (h : shp o = (3, n)) : wcell g o f = .inl (g.2.2.2.2.1, n, .inr (.inr (.inr (.inr (fun j => some (g.1 (25 + 2 * j))))))) := by unfold wcell; rw [h]; rfl
theorem ws_obj {g : Gx} {o ci : Nat} (h : shp o = (0, ci)) : (wsW g mem)[o]? = some (g.1 o, .inr (ci, wobj g.1 o ci (mem o))) := by rw [wsW_get (shp_lt h (by show (0 : Nat) ≠ 9; decide)), wcell_obj h]
theorem ws_int {g : Gx} {o n : Nat} (h : shp o = (1, n)) : (wsW g mem)[o]? = some (g.1 o, .inl (g.2.2.1, n, .inl (fun j => Int32.ofInt (mem o j)))) := by rw [wsW_get (shp_lt h (by show (1 : Nat) ≠ 9; decide)), wcell_int h]
theorem ws_byte {g : Gx} {o n : Nat} (h : shp o = (2, n)) : (wsW g mem)[o]? = some (g.1 o, .inl (g.2.2.2.1, n, .inl (fun j => Int32.ofInt (mem o j)))) := by rw [wsW_get (shp_lt h (by show (2 : Nat) ≠ 9; decide)), wcell_byte h]
theorem ws_ref {g : Gx} {o n : Nat} (h : shp o = (3, n)) : (wsW g mem)[o]? = some (g.1 o, .inl (g.2.2.2.2.1, n, .inr (.inr (.inr (.inr (fun j => some (g.1 (25 + 2 * j)))))))) := by rw [wsW_get (shp_lt h (by show (3 : Nat) ≠ 9; decide)), wcell_ref h]
theorem ne22 {o k : Nat} {q : Nat × Nat} (h : shp o = q) (hq : q ≠ (0, 2)) : ¬ (o = 22 ∧ k = 5) := fun z => hq (by rw [← h, z.1]; rfl)
theorem pw_getf {idx ci k N o : Nat} {C : String} {T : u_T} {v : PV} (hd : Dn y pc (.getfield idx) 3 pc2) (hl : Cond.fieldLink y.1.cls idx (T k).1 (T k).2.1 (T k).2.2.1 ∈ gtbl) (hcl : vwCl[ci]? = some (C, T, N)) (hin : ∀ w ∈ u_ws C T N, w ∈ gtbl) (hk : k < N)
    (ho : shp o = (0, ci)) (hv0 : ∀ ad : Nat → Nat, (wobj ad o ci (mem o))[k]? = some (tr ad v)) (hok : okM mem → okV v) (kk : PW S y Q pc2 ls (v :: st) mem) : PW S y Q pc ls (Aq o :: st) mem := by
  intro g p l e R s m args below meth c cells slots QF X rt H locs L w hS hM hs hls hv
  obtain ⟨hd, rfl⟩ := hd
  exact va_get (D := g.2.1) (cl := vwCl) (tys := tysW g) (ws := wsW g mem) (C := C) (T := T) (N := N) (ci := ci) (fs := wobj g.1 o ci (mem o)) (v := tr g.1 v) (ref := (T k).1) X.1 X.2.1 X.2.2.2.2.1 hin X.2.2.2.1 X.2.2.2.2.2.2.2.2.2.1 w.1 o (ws_obj ho) hcl k hk (X.2.2.2.2.1 _ hl) (fun _ h => h) (hv0 g.1) hd (kk g p l e R s m args below meth c cells slots QF X rt H locs L w hS hM ⟨hok hM, hs.2⟩ hls hv)
theorem pw_putI {idx ci k N o : Nat} {C : String} {T : u_T} {x : Int} {ty : FieldType} {ty0 : Nat → FieldType} (hd : Dn y pc (.putfield idx) 3 pc2) (hl : Cond.fieldLink y.1.cls idx (T k).1 (T k).2.1 (T k).2.2.1 ∈ gtbl) (hcl : vwCl[ci]? = some (C, T, N)) (hin : ∀ w ∈ u_ws C T N, w ∈ gtbl) (hty : ∀ k, k < N → parseFieldDescriptor (T k).2.2.1 = some (ty0 k)) (hnm : ∀ a, a < N → ∀ b, b < N → a ≠ b → (T a).2.1 ≠ (T b).2.1) (hk : k < N)
    (hfin : (T k).2.2.2 = false) (hd2 : parseFieldDescriptor (T k).2.2.1 = some ty) (hn : narrow ty (.int (Int32.ofInt x)) = .int (Int32.ofInt x)) (hfit : fits ty (.int (Int32.ofInt x)) = true)
    (ho : shp o = (0, ci)) (hlen : ∀ ad : Nat → Nat, k < (wobj ad o ci (mem o)).length) (hset : ∀ ad : Nat → Nat, (wobj ad o ci (mem o)).set k (.int (Int32.ofInt x)) = wobj ad o ci (fun j => if j = k then x else mem o j)) (h22 : ¬ (o = 22 ∧ k = 5))
    (kk : PW S y Q pc2 ls st (mup mem o k x)) : PW S y Q pc ls (Iq x :: Aq o :: st) mem := by
  intro g p l e R s m args below meth c cells slots QF X rt H locs L w hS hM hs hls hv
  obtain ⟨hd, rfl⟩ := hd
  have e1 : (wsW g mem).set o (g.1 o, .inr (ci, (wobj g.1 o ci (mem o)).set k (.int (Int32.ofInt x)))) = wsW g (mup mem o k x) := by
    rw [← wsW_set (mem := mem) (mem2 := mup mem o k x) (shp_lt ho (by show (0 : Nat) ≠ 9; decide)) (fun o2 h => mup_other o2 h), wcell_obj ho, hset, mup_same]
  refine va_put (D := g.2.1) (cl := vwCl) (tys := tysW g) (ws := wsW g mem) (C := C) (T := T) (N := N) (ci := ci) (fs := wobj g.1 o ci (mem o)) (v := .int (Int32.ofInt x)) (ty := ty) (ref := (T k).1) X.1 X.2.1 X.2.2.2.2.1 hin ty0 hty hnm X.2.2.2.1 X.2.2.2.2.2.2.2.2.2.1 w.1 w.2 hS o (ws_obj ho) hcl k hk (X.2.2.2.2.1 _ hl) (fun _ h => h) hfin hd2 hn hfit (hlen g.1) hd (fun H1 locs1 hP hD hS1 => ?_)
  rw [e1] at hP hD
  exact kk g p l e R s m args below meth c cells slots QF X rt H1 locs1 L ⟨hP, hD⟩ hS1 (okM_mup hM h22 hs.1) hs.2.2 hls hv
theorem pw_putJ {idx : Nat} {x : Int} (hd : Dn y pc (.putfield idx) 3 pc2) (hl : Cond.fieldLink y.1.cls idx (TX2 5).1 (TX2 5).2.1 (TX2 5).2.2.1 ∈ gtbl) (hin : ∀ w ∈ u_ws RX2 TX2 7, w ∈ gtbl)
    (kk : PW S y Q pc2 ls st (mup mem 22 5 x)) : PW S y Q pc ls (Jq x :: Aq 22 :: st) mem := by
  intro g p l e R s m args below meth c cells slots QF X rt H locs L w hS hM hs hls hv
  obtain ⟨hd, rfl⟩ := hd
  have ho : shp 22 = (0, 2) := rfl
  have e1 : (wsW g mem).set 22 (g.1 22, .inr (2, (wobj g.1 22 2 (mem 22)).set 5 (.long (Int64.ofInt x)))) = wsW g (mup mem 22 5 x) := by
    rw [← wsW_set (mem := mem) (mem2 := mup mem 22 5 x) (shp_lt ho (by show (0 : Nat) ≠ 9; decide)) (fun o2 h => mup_other o2 h), wcell_obj ho, mup_same]
    rfl
  refine va_put (D := g.2.1) (cl := vwCl) (tys := tysW g) (ws := wsW g mem) (C := RX2) (T := TX2) (N := 7) (ci := 2) (fs := wobj g.1 22 2 (mem 22)) (v := .long (Int64.ofInt x)) (ty := .long) (ref := (TX2 5).1) X.1 X.2.1 X.2.2.2.2.1 hin tyX2 tyX2_ok nmX2 X.2.2.2.1 X.2.2.2.2.2.2.2.2.2.1 w.1 w.2 hS 22 (ws_obj ho) rfl 5 (by decide) (X.2.2.2.2.1 _ hl) (fun _ h => h) rfl (by decide +kernel) rfl rfl (Nat.le_of_ble_eq_true rfl) hd (fun H1 locs1 hP hD hS1 => ?_)
  rw [e1] at hP hD
  exact kk g p l e R s m args below meth c cells slots QF X rt H1 locs1 L ⟨hP, hD⟩ hS1 (okM_mupJ hM hs.1) hs.2.2 hls hv
theorem pw_iald {o n : Nat} {i : Int} (hd : Dn y pc .iaload 1 pc2) (ho : shp o = (1, n)) (hi : 0 ≤ i ∧ i < n) (kk : PW S y Q pc2 ls (Iq (mem o i.toNat) :: st) mem) : PW S y Q pc ls (Iq i :: Aq o :: st) mem := by
  intro g p l e R s m args below meth c cells slots QF X rt H locs L w hS hM hs hls hv
  obtain ⟨hd, rfl⟩ := hd
  refine va_iald (D := g.2.1) (cl := vwCl) (tys := tysW g) (ws := wsW g mem) X.1 X.2.1 X.2.2.2.2.2.2.2.2.2.1 w.1 o 0 (ws_int ho) rfl (vpin hi hs.1) hd ?_
  rw [ofI_nat hs.1]
  exact kk g p l e R s m args below meth c cells slots QF X rt H locs L w hS hM ⟨okM_i hM (ne22 ho (by simp)), hs.2.2⟩ hls hv
theorem pw_bald {o n : Nat} {i : Int} (hd : Dn y pc .baload 1 pc2) (ho : shp o = (2, n)) (hi : 0 ≤ i ∧ i < n) (kk : PW S y Q pc2 ls (Iq (mem o i.toNat) :: st) mem) : PW S y Q pc ls (Iq i :: Aq o :: st) mem := by
  intro g p l e R s m args below meth c cells slots QF X rt H locs L w hS hM hs hls hv
  obtain ⟨hd, rfl⟩ := hd
  refine va_bald (D := g.2.1) (cl := vwCl) (tys := tysW g) (ws := wsW g mem) X.1 X.2.1 X.2.2.2.2.2.2.2.2.2.1 w.1 o 1 (ws_byte ho) rfl (vpin hi hs.1) hd ?_
  rw [ofI_nat hs.1]
  exact kk g p l e R s m args below meth c cells slots QF X rt H locs L w hS hM ⟨okM_i hM (ne22 ho (by simp)), hs.2.2⟩ hls hv
theorem pw_aald {o n : Nat} {i : Int} (hd : Dn y pc .aaload 1 pc2) (ho : shp o = (3, n)) (hi : 0 ≤ i ∧ i < n) (kk : PW S y Q pc2 ls (Aq (25 + 2 * i.toNat) :: st) mem) : PW S y Q pc ls (Iq i :: Aq o :: st) mem := by
  intro g p l e R s m args below meth c cells slots QF X rt H locs L w hS hM hs hls hv
  obtain ⟨hd, rfl⟩ := hd
  refine va_aldq (D := g.2.1) (cl := vwCl) (tys := tysW g) (ws := wsW g mem) X.1 X.2.1 X.2.2.2.2.2.2.2.2.2.1 w.1 o 2 (ws_ref ho) rfl (vpin hi hs.1) hd ?_
  rw [ofI_nat hs.1]
  exact kk g p l e R s m args below meth c cells slots QF X rt H locs L w hS hM ⟨trivial, hs.2.2⟩ hls hv
theorem upd_ofI (f : Nat → Int) (k : Nat) (x : Int) : (fun j => Int32.ofInt (if j = k then x else f j)) = upd (fun j => Int32.ofInt (f j)) k (Int32.ofInt x) := by
  funext j
  unfold upd
  split <;> rfl
theorem pw_iast {o n : Nat} {i x : Int} (hd : Dn y pc .iastore 1 pc2) (ho : shp o = (1, n)) (hi : 0 ≤ i ∧ i < n) (kk : PW S y Q pc2 ls st (mup mem o i.toNat x)) : PW S y Q pc ls (Iq x :: Iq i :: Aq o :: st) mem := by
  intro g p l e R s m args below meth c cells slots QF X rt H locs L w hS hM hs hls hv
  obtain ⟨hd, rfl⟩ := hd
  have e1 : (wsW g mem).set o (g.1 o, .inl (g.2.2.1, n, .inl (upd (fun j => Int32.ofInt (mem o j)) i.toNat (Int32.ofInt x)))) = wsW g (mup mem o i.toNat x) := by
    rw [← wsW_set (mem := mem) (mem2 := mup mem o i.toNat x) (shp_lt ho (by show (1 : Nat) ≠ 9; decide)) (fun o2 h => mup_other o2 h), wcell_int ho, mup_same, upd_ofI]
  refine va_iast (D := g.2.1) (cl := vwCl) (tys := tysW g) (ws := wsW g mem) X.1 X.2.1 X.2.2.2.2.2.2.2.2.2.1 w.1 w.2 hS o 0 (ws_int ho) rfl (vpin hi hs.2.1) hd (fun H1 locs1 hP hD hS1 => ?_)
  rw [ofI_nat hs.2.1, e1] at hP hD
  exact kk g p l e R s m args below meth c cells slots QF X rt H1 locs1 L ⟨hP, hD⟩ hS1 (okM_mup hM (ne22 ho (by simp)) hs.1) hs.2.2.2 hls hv
theorem pw_bast {o n : Nat} {i x : Int} (hd : Dn y pc .bastore 1 pc2) (ho : shp o = (2, n)) (hi : 0 ≤ i ∧ i < n) (kk : PW S y Q pc2 ls st (mup mem o i.toNat (toB x))) : PW S y Q pc ls (Iq x :: Iq i :: Aq o :: st) mem := by
  intro g p l e R s m args below meth c cells slots QF X rt H locs L w hS hM hs hls hv
  obtain ⟨hd, rfl⟩ := hd
  have e0 : vp_nar .byte (Int32.ofInt x) = Int32.ofInt (toB x) := by rw [vp_nar_byte]; exact (Int32.ofInt_toInt _).symm
  have e1 : (wsW g mem).set o (g.1 o, .inl (g.2.2.2.1, n, .inl (upd (fun j => Int32.ofInt (mem o j)) i.toNat (Int32.ofInt (toB x))))) = wsW g (mup mem o i.toNat (toB x)) := by
    rw [← wsW_set (mem := mem) (mem2 := mup mem o i.toNat (toB x)) (shp_lt ho (by show (2 : Nat) ≠ 9; decide)) (fun o2 h => mup_other o2 h), wcell_byte ho, mup_same, upd_ofI]
  refine va_bast (D := g.2.1) (cl := vwCl) (tys := tysW g) (ws := wsW g mem) X.1 X.2.1 X.2.2.2.2.2.2.2.2.2.1 w.1 w.2 hS o 1 (ws_byte ho) rfl (vpin hi hs.2.1) hd (fun H1 locs1 hP hD hS1 => ?_)
  rw [ofI_nat hs.2.1, e0, e1] at hP hD
  exact kk g p l e R s m args below meth c cells slots QF X rt H1 locs1 L ⟨hP, hD⟩ hS1 (okM_mup hM (ne22 ho (by simp)) (in32_toInt _)) hs.2.2.2 hls hv
theorem pw_alen {o n : Nat} (hd : Dn y pc .arraylength 1 pc2) (ho : shp o = (1, n)) (hn : n < 2147483648) (kk : PW S y Q pc2 ls (Iq n :: st) mem) : PW S y Q pc ls (Aq o :: st) mem := by
  intro g p l e R s m args below meth c cells slots QF X rt H locs L w hS hM hs hls hv
  obtain ⟨hd, rfl⟩ := hd
  exact va_alen (D := g.2.1) (cl := vwCl) (tys := tysW g) (ws := wsW g mem) (v := Int32.ofInt (n : Int)) X.1 X.2.1 X.2.2.2.2.2.2.2.2.2.1 w.1 o 0 (ws_int ho) rfl (Int32.ofInt_eq_ofNat).symm hd (kk g p l e R s m args below meth c cells slots QF X rt H locs L w hS hM ⟨(⟨by omega, by omega⟩ : in32 (n : Int)), hs.2⟩ hls hv)
/-- what System.arraycopy leaves -/
def mcp (mem : Zm) (a b sp dp n : Nat) : Zm := fun o k => if o = b then (if dp ≤ k ∧ k < dp + n then mem a (sp + (k - dp)) else mem b k) else mem o k
theorem mcp_cell {mem : Zm} {a b sp dp n : Nat} : (fun j => Int32.ofInt (mcp mem a b sp dp n b j)) = va_cpy (fun j => Int32.ofInt (mem a j)) (fun j => Int32.ofInt (mem b j)) sp dp n := by
  funext j
  unfold mcp va_cpy
  rw [if_pos rfl]
  split <;> rfl
theorem pw_acopy {idx a b n0 n1 : Nat} {sp dp n : Int} (hd : Dn y pc (.invokestatic idx) 3 pc2) (hl : Cond.methodLink y.1.cls idx arraycopyName ∈ gtbl) (hnat : Cond.native arraycopyName ∈ gtbl) (hstt : Cond.static arraycopyName ∈ gtbl) (hini : Cond.initialized "java/lang/System" ∈ gtbl)
    (hfr : 1 ≤ y.2.2.2.2.1) (hlo : 34 ≤ y.2.2.2.2.2) (hst : st = []) (ha : shp a = (1, n0)) (hb : shp b = (1, n1)) (h1 : 0 ≤ sp ∧ 0 ≤ dp ∧ 0 ≤ n ∧ sp + n ≤ n0 ∧ dp + n ≤ n1)
    (kk : PW S y Q pc2 ls [] (mcp mem a b sp.toNat dp.toNat n.toNat)) : PW S y Q pc ls (Iq n :: Iq dp :: Aq b :: Iq sp :: Aq a :: st) mem := by
  intro g p l e R s m args below meth c cells slots QF X rt H locs L w hS hM hs hls hv
  obtain ⟨hd, rfl⟩ := hd
  subst hst
  have i1 : in32 n := hs.1
  have i2 : in32 dp := hs.2.1
  have i3 : in32 sp := hs.2.2.2.1
  have z0 : (0 : Int32).toInt = 0 := by decide
  have nn : ∀ {q : Int}, in32 q → 0 ≤ q → ¬ Int32.ofInt q < 0 := fun hq h0 h => by rw [Int32.lt_iff_toInt_lt, ofI hq, z0] at h; omega
  have e1 : (wsW g mem).set b (g.1 b, .inl (g.2.2.1, n1, .inl (va_cpy (fun j => Int32.ofInt (mem a j)) (fun j => Int32.ofInt (mem b j)) sp.toNat dp.toNat n.toNat))) = wsW g (mcp mem a b sp.toNat dp.toNat n.toNat) := by
    rw [← wsW_set (mem := mem) (mem2 := mcp mem a b sp.toNat dp.toNat n.toNat) (shp_lt hb (by show (1 : Nat) ≠ 9; decide)) (fun o2 h => by funext k; unfold mcp; rw [if_neg h]), wcell_int hb, mcp_cell]
  refine va_copyi (D := g.2.1) (cl := vwCl) (tys := tysW g) (ws := wsW g mem) (ty := .int) X.1 X.2.1 (X.2.2.1.trans hv.1.symm) X.2.2.2.1 (X.2.2.2.2.1 _ hl) (X.2.2.2.2.1 _ hnat) (X.2.2.2.2.1 _ hstt) (X.2.2.2.2.1 _ hini) X.2.2.2.2.2.2.2.2.2.1 w.1 w.2 hS a b 0 0 (ws_int ha) (ws_int hb) rfl rfl rfl (nn i3 h1.1) (nn i2 h1.2.1) (nn i1 h1.2.2.1)
    (by rw [ofI_nat i3, ofI_nat i1]; omega) (by rw [ofI_nat i2, ofI_nat i1]; omega) (fun i _ => rfl) (by rw [X.2.2.2.2.2.1]; exact hfr) (by rw [X.2.2.2.2.2.2.1]; exact Nat.le_trans (Nat.le_of_ble_eq_true rfl) hlo) hd (fun H1 locs1 hP hD hS1 => ?_)
  rw [ofI_nat i1, ofI_nat i2, ofI_nat i3, e1] at hP hD
  refine kk g p l e R s m args below meth c cells slots QF X rt H1 locs1 L ⟨hP, hD⟩ hS1 (fun o k => ⟨fun q => ?_, fun q => ?_⟩) trivial hls hv
  · unfold mcp
    rw [if_neg (fun z => ne22 (k := 5) hb (by simp) ⟨by omega, rfl⟩)]
    exact (hM o k).1 q
  · unfold mcp
    split
    · split
      · exact okM_i hM (ne22 ha (by simp))
      · exact okM_i hM (ne22 hb (by simp))
    · exact (hM o k).2 q
/-! tables -/
theorem pw_gsP {idx : Nat} (hd : Dn y pc (.getstatic idx) 3 pc2) (hl : Cond.fieldLinkNest y.1.cls idx RX3 "PRICES" "[I" RX3 = nlP) (kk : PW S y Q pc2 ls (Aq 100 :: st) mem) : PW S y Q pc ls st mem := by
  intro g p l e R s m args below meth c cells slots QF X rt H locs L w hS hM hs hls hv
  obtain ⟨hd, rfl⟩ := hd
  exact va_getsN (host := RX3) X.1 X.2.1 X.2.2.2.2.2.2.2.2.2.2.1 hS X.2.2.2.1 (by rw [hl]; exact va_Nw.use rfl X.2.2.2.2.2.2.2.2.2.2.2.2.2.2.2.2.2.2.2) (fun _ h => h) hd (kk g p l e R s m args below meth c cells slots QF X rt H locs L w hS hM ⟨trivial, hs⟩ hls hv)
theorem pw_gsU {idx : Nat} (hd : Dn y pc (.getstatic idx) 3 pc2) (hl : Cond.fieldLink y.1.cls idx RX3 "UNDER" "[I" ∈ gtbl) (kk : PW S y Q pc2 ls (Aq 101 :: st) mem) : PW S y Q pc ls st mem := by
  intro g p l e R s m args below meth c cells slots QF X rt H locs L w hS hM hs hls hv
  obtain ⟨hd, rfl⟩ := hd
  exact va_gets X.1 X.2.1 X.2.2.2.2.2.2.2.2.2.2.2.2.1 hS X.2.2.2.1 (X.2.2.2.2.1 _ hl) (fun _ h => h) hd (kk g p l e R s m args below meth c cells slots QF X rt H locs L w hS hM ⟨trivial, hs⟩ hls hv)
theorem pw_gsK {idx : Nat} (hd : Dn y pc (.getstatic idx) 3 pc2) (hl : Cond.fieldLink y.1.cls idx RX2 "KIND_WORDS" "[J" ∈ gtbl) (kk : PW S y Q pc2 ls (Aq 102 :: st) mem) : PW S y Q pc ls st mem := by
  intro g p l e R s m args below meth c cells slots QF X rt H locs L w hS hM hs hls hv
  obtain ⟨hd, rfl⟩ := hd
  exact va_gets X.1 X.2.1 X.2.2.2.2.2.2.2.2.2.2.2.2.2.2.1 hS X.2.2.2.1 (X.2.2.2.2.1 _ hl) (fun _ h => h) hd (kk g p l e R s m args below meth c cells slots QF X rt H locs L w hS hM ⟨trivial, hs⟩ hls hv)
theorem tbP_in (j : Nat) : in32 (tbP j) := by
  unfold tbP
  match j with
  | 0 => exact ⟨by decide, by decide⟩
  | 1 => exact ⟨by decide, by decide⟩
  | 2 => exact ⟨by decide, by decide⟩
  | 3 => exact ⟨by decide, by decide⟩
  | 4 => exact ⟨by decide, by decide⟩
  | 5 => exact ⟨by decide, by decide⟩
  | 6 => exact ⟨by decide, by decide⟩
  | n + 7 => exact ⟨by show (-2147483648 : Int) ≤ 0; decide, by show (0 : Int) ≤ 2147483647; decide⟩
theorem tbU_in (j : Nat) : in32 (tbU j) := by
  unfold tbU
  match j with
  | 0 => exact ⟨by decide, by decide⟩
  | 1 => exact ⟨by decide, by decide⟩
  | 2 => exact ⟨by decide, by decide⟩
  | 3 => exact ⟨by decide, by decide⟩
  | 4 => exact ⟨by decide, by decide⟩
  | 5 => exact ⟨by decide, by decide⟩
  | 6 => exact ⟨by decide, by decide⟩
  | n + 7 => exact ⟨by show (-2147483648 : Int) ≤ 0; decide, by show (0 : Int) ≤ 2147483647; decide⟩
theorem tbK_in (j : Nat) : in64 (tbK j) := by
  unfold tbK
  match j with
  | 0 => exact ⟨by decide, by decide⟩
  | 1 => exact ⟨by decide, by decide⟩
  | 2 => exact ⟨by decide, by decide⟩
  | 3 => exact ⟨by decide, by decide⟩
  | 4 => exact ⟨by decide, by decide⟩
  | 5 => exact ⟨by decide, by decide⟩
  | 6 => exact ⟨by decide, by decide⟩
  | n + 7 => exact ⟨by show (-9223372036854775808 : Int) ≤ 0; decide, by show (0 : Int) ≤ 9223372036854775807; decide⟩
theorem pw_ialdP {i : Int} (hd : Dn y pc .iaload 1 pc2) (hi : 0 ≤ i ∧ i < 7) (kk : PW S y Q pc2 ls (Iq (tbP i.toNat) :: st) mem) : PW S y Q pc ls (Iq i :: Aq 100 :: st) mem := by
  intro g p l e R s m args below meth c cells slots QF X rt H locs L w hS hM hs hls hv
  obtain ⟨hd, rfl⟩ := hd
  refine va_ti X.1 X.2.1 X.2.2.2.2.2.2.2.2.2.2.2.1 hS (vpin (n := 7) hi hs.1) (v := tr g.1 (Iq (tbP i.toNat))) (by rw [ofI_nat hs.1]; rfl) hd (kk g p l e R s m args below meth c cells slots QF X rt H locs L w hS hM ⟨tbP_in _, hs.2.2⟩ hls hv)
theorem pw_ialdU {i : Int} (hd : Dn y pc .iaload 1 pc2) (hi : 0 ≤ i ∧ i < 7) (kk : PW S y Q pc2 ls (Iq (tbU i.toNat) :: st) mem) : PW S y Q pc ls (Iq i :: Aq 101 :: st) mem := by
  intro g p l e R s m args below meth c cells slots QF X rt H locs L w hS hM hs hls hv
  obtain ⟨hd, rfl⟩ := hd
  refine va_ti X.1 X.2.1 X.2.2.2.2.2.2.2.2.2.2.2.2.2.1 hS (vpin (n := 7) hi hs.1) (v := tr g.1 (Iq (tbU i.toNat))) (by rw [ofI_nat hs.1]; rfl) hd (kk g p l e R s m args below meth c cells slots QF X rt H locs L w hS hM ⟨tbU_in _, hs.2.2⟩ hls hv)
theorem pw_laldK {i : Int} (hd : Dn y pc .laload 1 pc2) (hi : 0 ≤ i ∧ i < 7) (kk : PW S y Q pc2 ls (Jq (tbK i.toNat) :: st) mem) : PW S y Q pc ls (Iq i :: Aq 102 :: st) mem := by
  intro g p l e R s m args below meth c cells slots QF X rt H locs L w hS hM hs hls hv
  obtain ⟨hd, rfl⟩ := hd
  refine va_tl X.1 X.2.1 X.2.2.2.2.2.2.2.2.2.2.2.2.2.2.2.1 hS (vpin (n := 7) hi hs.1) (v := tr g.1 (Jq (tbK i.toNat))) (by rw [ofI_nat hs.1]; rfl) hd (kk g p l e R s m args below meth c cells slots QF X rt H locs L w hS hM ⟨tbK_in _, hs.2.2⟩ hls hv)
/-! the script -/
theorem pw_scr {i : Int} (hd : Dn y pc .iaload 1 pc2) (hi : 0 ≤ i ∧ i < S.1) (kk : PW S y Q pc2 ls (Iq (S.2 i.toNat).toInt :: st) mem) : PW S y Q pc ls (Iq i :: Aq 103 :: st) mem := by
  intro g p l e R s m args below meth c cells slots QF X rt H locs L w hS hM hs hls hv
  obtain ⟨hd, rfl⟩ := hd
  obtain ⟨h8, h9, h10, h11⟩ := X.2.2.2.2.2.2.2.2.2.2.2.2.2.2.2.2
  refine va_sld X.1 X.2.1 h8 (va_X.lt h8) h9 hS (vpin hi hs.1) hd ?_
  have e1 : Value.int (S.2 (Int32.ofInt i).toNatClampNeg) = tr g.1 (Iq (S.2 i.toNat).toInt) := by
    show _ = Value.int (Int32.ofInt (S.2 i.toNat).toInt)
    rw [ofI_nat hs.1, Int32.ofInt_toInt]
  rw [e1]
  exact kk g p l e R s m args below meth c cells slots QF X rt H locs L w hS hM ⟨in32_toInt _, hs.2.2⟩ hls hv
theorem pw_slen (hd : Dn y pc .arraylength 1 pc2) (kk : PW S y Q pc2 ls (Iq S.1 :: st) mem) : PW S y Q pc ls (Aq 103 :: st) mem := by
  intro g p l e R s m args below meth c cells slots QF X rt H locs L w hS hM hs hls hv
  obtain ⟨hd, rfl⟩ := hd
  obtain ⟨h8, h9, h10, h11⟩ := X.2.2.2.2.2.2.2.2.2.2.2.2.2.2.2.2
  refine va_slen X.1 X.2.1 h8 (va_X.lt h8) h9 hS hd ?_
  rw [← Int32.ofInt_eq_ofNat]
  exact kk g p l e R s m args below meth c cells slots QF X rt H locs L w hS hM ⟨(⟨by omega, by omega⟩ : in32 (S.1 : Int)), hs.2⟩ hls hv
end PH
end
section
/-! ===== calls and contracts of the pure machine ===== -/
def LkV (own : String) (idx : Nat) (z : MD) (n : Nat) : Prop :=
  Cond.methodLink own idx z.1 ∈ gtbl ∧ Cond.instanceMethod z.1 ∈ gtbl ∧ Cond.selects z.1.cls z.1 z.1 ∈ gtbl ∧ Cond.initialized z.1.cls ∈ gtbl ∧ Cond.code z.1 z.2.1 z.2.2.1 z.2.2.2.1 ∈ gtbl
  ∧ (z.1.cls ≠ "java/lang/invoke/MethodHandle" ∧ z.1.cls ≠ "java/lang/invoke/VarHandle" ∧ (parseMethodDescriptor z.1.desc).map (fun d => d.parameters.length) = some n)
def LkS (own : String) (idx : Nat) (z : MD) (n : Nat) : Prop :=
  Cond.methodLink own idx z.1 ∈ gtbl ∧ Cond.static z.1 ∈ gtbl ∧ Cond.initialized z.1.cls ∈ gtbl ∧ Cond.code z.1 z.2.1 z.2.2.1 z.2.2.2.1 ∈ gtbl
  ∧ (z.1.cls ≠ "java/lang/invoke/MethodHandle" ∧ z.1.cls ≠ "java/lang/invoke/VarHandle" ∧ (parseMethodDescriptor z.1.desc).map (fun d => d.parameters.length) = some n)
theorem good_tbl : GoodIn gtbl gtbl := fun w hw => ⟨hw, good_of_word (List.mem_filter.mp hw).2⟩
theorem good_in {w : Cond} (h : w ∈ gtbl) : w ∈ gtbl ∧ ((w.onTables && w.keeps) = true ∨ ∃ ty, w = .arrayClass ty) := good_tbl w h
theorem good_D {z : MD} (h : Cond.code z.1 z.2.1 z.2.2.1 z.2.2.2.1 ∈ gtbl) : GoodIn gtbl (wsD z) := fun w hw => by
  rcases List.mem_cons.mp hw with h1 | h1
  · rw [h1]; exact good_in h
  · exact good_in h1
theorem cat_tr (ad : Nat → Nat) (v : PV) : (tr ad v).category = if isJ (some v) then 2 else 1 := by
  rcases v with x | x | x <;> rfl
def catS : List PV → Nat
  | [] => 0
  | v :: r => (if isJ (some v) then 2 else 1) + catS r
theorem catS_tr (ad : Nat → Nat) (st : List PV) : ((st.map (tr ad)).map fun v => v.category).sum = catS st := by
  induction st with
  | nil => rfl
  | cons v r ih =>
    simp only [List.map_cons, List.sum_cons, ih, catS, cat_tr]
theorem blindW {S : Sx} {g : Gx} {mem : Zm} {av : List Value} : FrameBlind (va_Pc av (fun U => Wm g mem U.heap ∧ Wk S g U U.heap)) := by
  intro a U f mk h
  obtain ⟨h1, h2, h3⟩ := h
  exact ⟨h1, h2, Wk.moved (u := U) (U := U.calling f mk a) (Vm.Alike.refl U.vm) (fun h => va_Nw.same rfl rfl h) h3⟩
section PC
variable {S : Sx} {y : MD} {Q : Option PV → Zm → Prop} {pc pc2 tgt : Nat} {ls ls2 : List (Option PV)} {st stk : List PV} {mem mem1 : Zm}
theorem Wk.to {g : Gx} {s t : State} {H : Heap} {locs : List Loc} (h : Wk S g s s.heap) (hS : va_S (gA g) s.heap H locs) (ht : t.heap = H) (hvm : s.WarmedH t.vm) : Wk S g t t.heap := by
  rw [ht]
  exact Wk.moved hvm.alike (fun h => va_Nw.warmF hvm h) (Wk.kept h (fun a h1 h2 => hS.2.1 a h1 h2))
/-- behind a call -/
theorem pw_after {g : Gx} {p : Program} {l : Launch} {e : Env} {R : Room} {s : State} {m : MethodId} {args : Array Value} {below : List Frame} {meth : Method} {c : Code} {cells slots : Nat} {QF : State → Prop} {H : Heap} {locs : List Loc} {L : Array Slot} {a : Array Value} {Qz : Option PV → Zm → Prop} {st0 : List Value}
    (hX : Cx S y g p R s m args c cells slots) (rt : Rt y Q g p l e R s m args below meth c cells slots QF) (hS : va_S (gA g) s.heap H locs) (hs : okS st) (hls : okL ls) (hv : lvR g.1 y.2.2.1 L ls)
    (hr : va_Run p l e R s m args below meth c H locs cells slots 0 0 (F0 m pc L st0) (st.map (tr g.1)) (QcW S g Qz a) (gA g))
    (k : ∀ (r : Option PV) (mem1 : Zm), Qz r mem1 → PW S y Q (pc + 3) ls (r.toList ++ st) mem1) : W p l e R s m args below meth c H locs cells slots QF (F0 m pc L st0) := by
  intro T hT X
  obtain ⟨v, st₀, t, T2, L2, h0, X2, hL, e1, e2, ⟨⟨r, mem1, hv1, hq, ho, hm, hw, hk⟩, hz, hkp⟩, stp⟩ := hr T hT X
  have hv2 : v = r.map (tr g.1) := by cases hv1; rfl
  rw [h0] at hz hkp
  have hok : okS (r.toList ++ st) := by
    cases r with
    | none => exact hs
    | some r => exact ⟨ho, hs⟩
  obtain ⟨t2, a1, b1⟩ := k r mem1 hq g p l e R s m args below meth c cells slots QF hX rt T2.heap (locs ++ L2) L (by rw [e1]; exact hw)
    ⟨Nat.le_trans hS.1 (by rw [e1]; exact hz), fun q h1 h2 => by rw [e1, hkp q (Nat.lt_of_lt_of_le h1 hS.1) h2]; exact hS.2.1 q h1 h2, fun q hq => by
      rcases List.mem_append.mp hq with h | h
      · exact hS.2.2 q h
      · exact hL q h⟩ hm hok hls hv T2 rfl X2
  refine ⟨t2, stp t2 ?_, b1⟩
  have e3 : v.toList ++ List.map (tr g.1) st = List.map (tr g.1) (r.toList ++ st) := by
    rw [hv2]
    cases r <;> rfl
  rw [e3]
  exact a1
theorem pw_callV {z : MD} {idx n o ci : Nat} {av : List PV} {q : vw_C} {Qz : Option PV → Zm → Prop} (hd : Dn y pc (.invokevirtual idx) 3 pc2) (hk : LkV y.1.cls idx z n) (hn : av.length = n) (hfr : z.2.2.2.2.1 + 1 ≤ y.2.2.2.2.1) (hlo : 8 + (z.2.2.1 + 11) + z.2.2.2.2.2 ≤ y.2.2.2.2.2)
    (ho : shp o = (0, ci)) (hq : vwCl[ci]? = some q) (hC : q.1 = z.1.cls) (hc8 : catS st ≤ 8) (hst : stk = av.reverse ++ Aq o :: st) (hc : Ct S z (Aq o :: av) mem Qz) (k : ∀ (r : Option PV) (mem1 : Zm), Qz r mem1 → PW S y Q pc2 ls (r.toList ++ st) mem1) : PW S y Q pc ls stk mem := by
  intro g p l e R s m args below meth c cells slots QF X rt H locs L w hS hM hs hls hv
  obtain ⟨hd, rfl⟩ := hd
  subst hst
  obtain ⟨k1, k2, k3, k4, k5, k6⟩ := hk
  have hsp : okS (Aq o :: av) ∧ okS st := by
    have : ∀ a : List PV, okS (a ++ Aq o :: st) → (∀ v ∈ a, okV v) ∧ okS st := by
      intro a
      induction a with
      | nil => intro h; exact ⟨fun v hv => (by cases hv), h.2⟩
      | cons x a ih =>
        intro h
        obtain ⟨h1, h2⟩ := ih h.2
        exact ⟨fun v hv => by
          rcases List.mem_cons.mp hv with h3 | h3
          · rw [h3]; exact h.1
          · exact h1 v h3, h2⟩
    obtain ⟨h1, h2⟩ := this _ hs
    refine ⟨⟨trivial, ?_⟩, h2⟩
    have h3 : ∀ v ∈ av, okV v := fun v hv => h1 v (List.mem_reverse.mpr hv)
    clear h1 hs hn hc
    induction av with
    | nil => exact trivial
    | cons x a ih => exact ⟨h3 x List.mem_cons_self, ih (fun v hv => h3 v (List.mem_cons_of_mem _ hv))⟩
  have hMet := hc g l hsp.1 hM
  have hcw : CallW R s args y.1.cls z.1.cls idx z.1 z.2.1 z.2.2.1 z.2.2.2.1 (wsD z) (rmD z) 0 0 n := by
    refine cwV n X.2.2.2.2.1 (fun w hw => ?_) rfl rfl rfl ⟨rfl, k6⟩ ⟨by rw [X.2.2.2.2.2.1]; exact hfr, by rw [X.2.2.2.2.2.2.1]; exact hlo⟩
    unfold wsV at hw
    rcases List.mem_append.mp hw with h | h
    · simp only [List.mem_cons, List.not_mem_nil, or_false] at h
      rcases h with h | h | h | h <;> rw [h]
      · exact good_in k1
      · exact good_in k2
      · exact good_in k3
      · exact good_in k4
    · exact good_D k5 w h
  have hrec := va_recv (tys := tysW g) X.2.2.2.2.2.2.2.2.2.1 w.1 hq (ws_obj ho)
  rw [hC] at hrec
  refine pw_after (a := (Value.ref (g.1 o) :: av.map (tr g.1)).toArray) X rt hS hsp.2 hls hv (va_runV (C := z.1.cls) (b := g.1 o) (As := av.map (tr g.1)) (rest := st.map (tr g.1)) ⟨X.1, X.2.1, X.2.2.1, X.2.2.2.1, X.2.2.2.2.1⟩ hMet hcw ⟨blindW, hrec, fun U hU hW => ⟨rfl, by rw [hU]; exact w, Wk.to X.2.2.2.2.2.2.2.2.2 hS hU hW⟩⟩ rfl (by rw [List.length_map]; exact hn) hv.1 ?_ ?_ hd ⟨X.2.2.2.2.2.2.2.1, X.2.2.2.2.2.2.2.2.1⟩) k
  · show List.map (tr g.1) (av.reverse ++ Aq o :: st) = (av.map (tr g.1)).reverse ++ .ref (g.1 o) :: st.map (tr g.1)
    rw [List.map_append, List.map_reverse]
    rfl
  · exact lv_room (by rw [catS_tr]; exact hc8)
theorem pw_callS {z : MD} {idx n : Nat} {av : List PV} {Qz : Option PV → Zm → Prop} (hd : Dn y pc (.invokestatic idx) 3 pc2) (hk : LkS y.1.cls idx z n) (hn : av.length = n) (hfr : z.2.2.2.2.1 + 1 ≤ y.2.2.2.2.1) (hlo : 8 + (z.2.2.1 + 11) + z.2.2.2.2.2 ≤ y.2.2.2.2.2)
    (hc8 : catS st ≤ 8) (hst : stk = av.reverse ++ st) (hc : Ct S z av mem Qz) (k : ∀ (r : Option PV) (mem1 : Zm), Qz r mem1 → PW S y Q pc2 ls (r.toList ++ st) mem1) : PW S y Q pc ls stk mem := by
  intro g p l e R s m args below meth c cells slots QF X rt H locs L w hS hM hs hls hv
  obtain ⟨hd, rfl⟩ := hd
  subst hst
  obtain ⟨k1, k2, k4, k5, k6⟩ := hk
  have hsp : okS av ∧ okS st := by
    have : ∀ a : List PV, okS (a ++ st) → (∀ v ∈ a, okV v) ∧ okS st := by
      intro a
      induction a with
      | nil => intro h; exact ⟨fun v hv => (by cases hv), h⟩
      | cons x a ih =>
        intro h
        obtain ⟨h1, h2⟩ := ih h.2
        exact ⟨fun v hv => by
          rcases List.mem_cons.mp hv with h3 | h3
          · rw [h3]; exact h.1
          · exact h1 v h3, h2⟩
    obtain ⟨h1, h2⟩ := this _ hs
    refine ⟨?_, h2⟩
    have h3 : ∀ v ∈ av, okV v := fun v hv => h1 v (List.mem_reverse.mpr hv)
    clear h1 hs hn hc
    induction av with
    | nil => exact trivial
    | cons x a ih => exact ⟨h3 x List.mem_cons_self, ih (fun v hv => h3 v (List.mem_cons_of_mem _ hv))⟩
  have hMet := hc g l hsp.1 hM
  have hcw : CallB R s args y.1.cls idx z.1 z.2.1 z.2.2.1 z.2.2.2.1 (wsD z) (rmD z) 0 0 n ∧ (Cond.static z.1).before args s = true := by
    refine va_cwS n X.2.2.2.2.1 (fun w hw => ?_) rfl rfl rfl k6 ⟨by rw [X.2.2.2.2.2.1]; exact hfr, by rw [X.2.2.2.2.2.2.1]; exact hlo⟩
    unfold va_wsS at hw
    rcases List.mem_append.mp hw with h | h
    · simp only [List.mem_cons, List.not_mem_nil, or_false] at h
      rcases h with h | h | h <;> rw [h]
      · exact good_in k1
      · exact good_in k2
      · exact good_in k4
    · exact good_D k5 w h
  refine pw_after (a := (av.map (tr g.1)).toArray) X rt hS hsp.2 hls hv (va_runS (As := av.map (tr g.1)) (rest := st.map (tr g.1)) ⟨X.1, X.2.1, X.2.2.1, X.2.2.2.1, X.2.2.2.2.1⟩ hMet hcw ⟨blindW, fun U hU hW => ⟨rfl, by rw [hU]; exact w, Wk.to X.2.2.2.2.2.2.2.2.2 hS hU hW⟩⟩ rfl (by rw [List.length_map]; exact hn) hv.1 ?_ ?_ hd ⟨X.2.2.2.2.2.2.2.1, X.2.2.2.2.2.2.2.2.1⟩) k
  · show List.map (tr g.1) (av.reverse ++ st) = (av.map (tr g.1)).reverse ++ st.map (tr g.1)
    rw [List.map_append, List.map_reverse]
  · exact lv_room (by rw [catS_tr]; exact hc8)
/-! a contract out of a walk -/
def retF : Option FieldType → Option PV → Prop
  | none, none => True
  | some .int, some (.inl _) => True
  | some .boolean, some (.inl v) => v = 0 ∨ v = 1
  | some .long, some (.inr (.inl _)) => True
  | _, _ => False
def retK (y : MD) (r : Option PV) : Prop := retF y.2.2.2.1 r
theorem retF_cases {q : Option FieldType} {r : Option PV} (h : retF q r) : (q = none ∧ r = none) ∨ (q = some .int ∧ ∃ x, r = some (.inl x)) ∨ (q = some .boolean ∧ ∃ x, r = some (.inl x) ∧ (x = 0 ∨ x = 1)) ∨ (q = some .long ∧ ∃ x, r = some (.inr (.inl x))) := by
  unfold retF at h
  split at h
  · exact Or.inl ⟨rfl, rfl⟩
  · exact Or.inr (Or.inl ⟨rfl, _, rfl⟩)
  · exact Or.inr (Or.inr (Or.inl ⟨rfl, _, rfl, h⟩))
  · exact Or.inr (Or.inr (Or.inr ⟨rfl, _, rfl⟩))
  · exact h.elim
theorem lget_linit {ad : Nat → Nat} : ∀ (n : Nat) (av : List PV) (b i : Nat) (v : PV), lget (linit n av) i = some v → (b + i, tr ad v) ∈ lv_args b (av.map (tr ad)) := by
  intro n
  induction n using Nat.strongRecOn with
  | ind n ih =>
    intro av b i v h
    match n, av, h with
    | 0, _, h => cases h
    | n + 1, [], h =>
      cases i with
      | zero => cases h
      | succ i =>
        have := ih n (Nat.lt_succ_self n) [] b i v h
        simp [lv_args] at this
    | n + 1, .inl x :: r, h =>
      cases i with
      | zero =>
        cases h
        show _ ∈ lv_args b (Value.int _ :: _)
        simp [lv_args, tr]
      | succ i =>
        have := ih n (Nat.lt_succ_self n) r (b + 1) i v h
        show _ ∈ lv_args b (Value.int _ :: _)
        have e : b + (i + 1) = b + 1 + i := by omega
        rw [e]
        simp only [lv_args]
        exact List.mem_cons_of_mem _ this
    | 1, .inr (.inl x) :: r, h =>
      cases i with
      | zero =>
        cases h
        show _ ∈ lv_args b (Value.long _ :: _)
        simp [lv_args, tr]
      | succ i => cases h
    | n + 2, .inr (.inl x) :: r, h =>
      match i, h with
      | 0, h =>
        cases h
        show _ ∈ lv_args b (Value.long _ :: _)
        simp [lv_args, tr]
      | 1, h => cases h
      | i + 2, h =>
        have := ih n (by omega) r (b + 2) i v h
        show _ ∈ lv_args b (Value.long _ :: _)
        have e : b + (i + 2) = b + 2 + i := by omega
        rw [e]
        simp only [lv_args]
        exact List.mem_cons_of_mem _ this
    | n + 1, .inr (.inr x) :: r, h =>
      cases i with
      | zero =>
        cases h
        show _ ∈ lv_args b (Value.ref _ :: _)
        simp [lv_args, tr]
      | succ i =>
        have := ih n (Nat.lt_succ_self n) r (b + 1) i v h
        show _ ∈ lv_args b (Value.ref _ :: _)
        have e : b + (i + 1) = b + 1 + i := by omega
        rw [e]
        simp only [lv_args]
        exact List.mem_cons_of_mem _ this
theorem okL_linit : ∀ (n : Nat) (av : List PV), okS av → okL (linit n av) := by
  intro n
  induction n using Nat.strongRecOn with
  | ind n ih =>
    intro av h
    match n, av, h with
    | 0, _, h => exact trivial
    | n + 1, [], h => exact ⟨trivial, ih n (Nat.lt_succ_self n) [] trivial⟩
    | n + 1, .inl x :: r, h => exact ⟨h.1, ih n (Nat.lt_succ_self n) r h.2⟩
    | 1, .inr (.inl x) :: r, h => exact ⟨h.1, trivial⟩
    | n + 2, .inr (.inl x) :: r, h => exact ⟨h.1, trivial, ih n (by omega) r h.2⟩
    | n + 1, .inr (.inr x) :: r, h => exact ⟨trivial, ih n (Nat.lt_succ_self n) r h.2⟩
theorem sl_len (ad : Nat → Nat) (av : List PV) : (lg_sl (av.map (tr ad))).length = catS av := by
  induction av with
  | nil => rfl
  | cons v r ih =>
    unfold lg_sl at ih ⊢
    rw [List.map_cons, List.flatMap_cons, List.length_append, ih]
    rcases v with x | x | x <;> rfl
theorem Ct.ofP {av : List PV} (hp : plainName y.1.cls = true) (hc : catS av ≤ y.2.2.1) (hret : ∀ r m, Q r m → retK y r) (h : PW S y Q 0 (linit y.2.2.1 av) [] mem) : Ct S y av mem Q := by
  intro g l hav hM
  refine Met.ofW (cc := y.2.1) (maxL := y.2.2.1) (ret := y.2.2.2.1) hp rfl ?_
  intro p e s m args below meth c s₁ B hml hv
  obtain ⟨rfl, hW, hK⟩ := hv
  have hx := B.exec
  have hb := B.bytes
  have hr := B.returns
  have hts := atoms_spec (ws := wsD y) B.pre
  have hown : s.vm.findClass y.1.cls = some m.cls := findClass_of_methodNamed B.named
  have hlocks := B.notSynchronized
  have hl := lv_entry (av.map (tr g.1)) (n := y.2.2.1) (by rw [sl_len]; exact hc)
  rw [lg_entry_eq]
  have hlv : lvR g.1 y.2.2.1 ((lg_sl (av.map (tr g.1)) ++ List.replicate (y.2.2.1 - (lg_sl (av.map (tr g.1))).length) Slot.unset).toArray) (linit y.2.2.1 av) := by
    refine ⟨hl.1, hl.2.1, fun i v hi => ?_⟩
    have := hl.2.2 _ (lget_linit (ad := g.1) _ av 0 i v hi)
    rw [Nat.zero_add] at this
    exact this
  refine h g p l e _ s m _ below meth c 0 0 _ ⟨hx, hb, hml, hown, fun w hw => hts w (List.mem_cons_of_mem _ hw), rfl, rfl, Nat.zero_le _, Nat.zero_le _, hK⟩ ?_ s.heap [] _ hW va_S.rf hM trivial (okL_linit _ _ hav) hlv
  intro r mem2 H locs L pc hQ hWm hS hM2 ho hri
  have hrk := hret r mem2 hQ
  have post : ∀ t : State, t.heap = H → s.WarmedH t.vm → QcW S g Q (av.map (tr g.1)).toArray s (.returned (r.map (tr g.1))) t := fun t ht hwm =>
    ⟨⟨r, mem2, rfl, hQ, ho, hM2, by rw [ht]; exact hWm, Wk.to hK hS ht hwm⟩, hS.F ht⟩
  rcases retF_cases hrk with ⟨q1, rfl⟩ | ⟨q1, x, rfl⟩ | ⟨q1, x, rfl, q2⟩ | ⟨q1, x, rfl⟩
  · exact W.vret hx hb (hr.trans q1) post hS.2.2 hri
  · exact W.iret hx hb (hr.trans q1) post hS.2.2 hri
  · refine W.zret hx hb (hr.trans q1) ?_ post hS.2.2 hri
    rcases q2 with rfl | rfl <;> rfl
  · exact W.lret hx hb (hr.trans q1) post hS.2.2 hri
end PC
end
section
/-! ===== what the classes link ===== -/
def isRoom (r : Nat) : Prop := r = 1 ∨ r = 8 ∨ r = 15
def isSheet (r : Nat) : Prop := r = 25 ∨ r = 27 ∨ r = 29 ∨ r = 31
theorem shR {r : Nat} (h : isRoom r) : shp r = (0, 0) := by rcases h with rfl | rfl | rfl <;> rfl
theorem shR1 {r : Nat} (h : isRoom r) : shp (r + 1) = (1, 8) := by rcases h with rfl | rfl | rfl <;> rfl
theorem shR2 {r : Nat} (h : isRoom r) : shp (r + 2) = (1, 48) := by rcases h with rfl | rfl | rfl <;> rfl
theorem shR3 {r : Nat} (h : isRoom r) : shp (r + 3) = (1, 64) := by rcases h with rfl | rfl | rfl <;> rfl
theorem shR4 {r : Nat} (h : isRoom r) : shp (r + 4) = (1, 10) := by rcases h with rfl | rfl | rfl <;> rfl
theorem shR5 {r : Nat} (h : isRoom r) : shp (r + 5) = (1, 8) := by rcases h with rfl | rfl | rfl <;> rfl
theorem shR6 {r : Nat} (h : isRoom r) : shp (r + 6) = (1, 8) := by rcases h with rfl | rfl | rfl <;> rfl
theorem shS {r : Nat} (h : isSheet r) : shp r = (0, 1) := by rcases h with rfl | rfl | rfl | rfl <;> rfl
theorem shS1 {r : Nat} (h : isSheet r) : shp (r + 1) = (1, 40) := by rcases h with rfl | rfl | rfl | rfl <;> rfl
theorem isSh {i : Int} (h : 0 ≤ i ∧ i < 4) : isSheet (25 + 2 * i.toNat) := by
  unfold isSheet
  omega
theorem isR1 : isRoom 1 := Or.inl rfl
theorem isR8 : isRoom 8 := Or.inr (Or.inl rfl)
theorem isR15 : isRoom 15 := Or.inr (Or.inr rfl)
def bI (p : Prop) [Decidable p] : Int := if p then 1 else 0
theorem sh0 : shp 0 = (0, 3) := rfl
theorem sh1 : shp 1 = (0, 0) := rfl
theorem sh2 : shp 2 = (1, 8) := rfl
theorem sh3 : shp 3 = (1, 48) := rfl
theorem sh4 : shp 4 = (1, 64) := rfl
theorem sh5 : shp 5 = (1, 10) := rfl
theorem sh6 : shp 6 = (1, 8) := rfl
theorem sh7 : shp 7 = (1, 8) := rfl
theorem sh8 : shp 8 = (0, 0) := rfl
theorem sh9 : shp 9 = (1, 8) := rfl
theorem sh10 : shp 10 = (1, 48) := rfl
theorem sh11 : shp 11 = (1, 64) := rfl
theorem sh12 : shp 12 = (1, 10) := rfl
theorem sh13 : shp 13 = (1, 8) := rfl
theorem sh14 : shp 14 = (1, 8) := rfl
theorem sh15 : shp 15 = (0, 0) := rfl
theorem sh16 : shp 16 = (1, 8) := rfl
theorem sh17 : shp 17 = (1, 48) := rfl
theorem sh18 : shp 18 = (1, 64) := rfl
theorem sh19 : shp 19 = (1, 10) := rfl
theorem sh20 : shp 20 = (1, 8) := rfl
theorem sh21 : shp 21 = (1, 8) := rfl
theorem sh22 : shp 22 = (0, 2) := rfl
theorem sh23 : shp 23 = (2, 120) := rfl
theorem sh24 : shp 24 = (3, 4) := rfl
theorem sh25 : shp 25 = (0, 1) := rfl
theorem sh26 : shp 26 = (1, 40) := rfl
theorem sh27 : shp 27 = (0, 1) := rfl
theorem sh28 : shp 28 = (1, 40) := rfl
theorem sh29 : shp 29 = (0, 1) := rfl
theorem sh30 : shp 30 = (1, 40) := rfl
theorem sh31 : shp 31 = (0, 1) := rfl
theorem sh32 : shp 32 = (1, 40) := rfl
theorem sh33 : shp 33 = (1, 7) := rfl
theorem sh34 : shp 34 = (0, 4) := rfl
theorem sh35 : shp 35 = (1, 134) := rfl
theorem sh36 : shp 36 = (1, 134) := rfl
theorem sh37 : shp 37 = (1, 134) := rfl
theorem sh38 : shp 38 = (1, 134) := rfl
theorem sh39 : shp 39 = (1, 8) := rfl
theorem sh40 : shp 40 = (1, 120) := rfl
theorem sh41 : shp 41 = (1, 4) := rfl
theorem sh42 : shp 42 = (1, 4) := rfl
theorem sh43 : shp 43 = (1, 160) := rfl
set_option maxRecDepth 100000 in
theorem inX0 : ∀ w ∈ u_ws RX0 TX0 10, w ∈ gtbl := by decide +kernel
set_option maxRecDepth 100000 in
theorem inX1 : ∀ w ∈ u_ws RX1 TX1 3, w ∈ gtbl := by decide +kernel
set_option maxRecDepth 100000 in
theorem inX2 : ∀ w ∈ u_ws RX2 TX2 7, w ∈ gtbl := by decide +kernel
set_option maxRecDepth 100000 in
theorem inX3 : ∀ w ∈ u_ws RX3 TX3 7, w ∈ gtbl := by decide +kernel
set_option maxRecDepth 100000 in
theorem inX4 : ∀ w ∈ u_ws RX4 TX4 18, w ∈ gtbl := by decide +kernel
theorem gf_RX0_9 {S : Sx} {y : MD} {Q : Option PV → Zm → Prop} {pc pc2 : Nat} {ls : List (Option PV)} {st : List PV} {mem : Zm} {o : Nat} (hy : y.1.cls = RX0) (hd : Dn y pc (.getfield 9) 3 pc2) (ho : shp o = (0, 0)) (kk : PW S y Q pc2 ls (Aq (o + 1) :: st) mem) : PW S y Q pc ls (Aq o :: st) mem := pw_getf (T := TX0) (C := RX0) (N := 10) (ci := 0) (k := 0) (v := Aq (o + 1)) hd (by rw [hy]; exact in_gt 81 (by decide +kernel) rfl) rfl inX0 (by decide) ho (fun _ => rfl) (fun _ => trivial) kk
theorem gf_RX0_15 {S : Sx} {y : MD} {Q : Option PV → Zm → Prop} {pc pc2 : Nat} {ls : List (Option PV)} {st : List PV} {mem : Zm} {o : Nat} (hy : y.1.cls = RX0) (hd : Dn y pc (.getfield 15) 3 pc2) (ho : shp o = (0, 0)) (kk : PW S y Q pc2 ls (Aq (o + 2) :: st) mem) : PW S y Q pc ls (Aq o :: st) mem := pw_getf (T := TX0) (C := RX0) (N := 10) (ci := 0) (k := 1) (v := Aq (o + 2)) hd (by rw [hy]; exact in_gt 84 (by decide +kernel) rfl) rfl inX0 (by decide) ho (fun _ => rfl) (fun _ => trivial) kk
theorem gf_RX0_18 {S : Sx} {y : MD} {Q : Option PV → Zm → Prop} {pc pc2 : Nat} {ls : List (Option PV)} {st : List PV} {mem : Zm} {o : Nat} (hy : y.1.cls = RX0) (hd : Dn y pc (.getfield 18) 3 pc2) (ho : shp o = (0, 0)) (kk : PW S y Q pc2 ls (Aq (o + 3) :: st) mem) : PW S y Q pc ls (Aq o :: st) mem := pw_getf (T := TX0) (C := RX0) (N := 10) (ci := 0) (k := 2) (v := Aq (o + 3)) hd (by rw [hy]; exact in_gt 85 (by decide +kernel) rfl) rfl inX0 (by decide) ho (fun _ => rfl) (fun _ => trivial) kk
theorem gf_RX0_21 {S : Sx} {y : MD} {Q : Option PV → Zm → Prop} {pc pc2 : Nat} {ls : List (Option PV)} {st : List PV} {mem : Zm} {o : Nat} (hy : y.1.cls = RX0) (hd : Dn y pc (.getfield 21) 3 pc2) (ho : shp o = (0, 0)) (kk : PW S y Q pc2 ls (Aq (o + 4) :: st) mem) : PW S y Q pc ls (Aq o :: st) mem := pw_getf (T := TX0) (C := RX0) (N := 10) (ci := 0) (k := 3) (v := Aq (o + 4)) hd (by rw [hy]; exact in_gt 86 (by decide +kernel) rfl) rfl inX0 (by decide) ho (fun _ => rfl) (fun _ => trivial) kk
theorem gf_RX0_24 {S : Sx} {y : MD} {Q : Option PV → Zm → Prop} {pc pc2 : Nat} {ls : List (Option PV)} {st : List PV} {mem : Zm} {o : Nat} (hy : y.1.cls = RX0) (hd : Dn y pc (.getfield 24) 3 pc2) (ho : shp o = (0, 0)) (kk : PW S y Q pc2 ls (Aq (o + 5) :: st) mem) : PW S y Q pc ls (Aq o :: st) mem := pw_getf (T := TX0) (C := RX0) (N := 10) (ci := 0) (k := 4) (v := Aq (o + 5)) hd (by rw [hy]; exact in_gt 88 (by decide +kernel) rfl) rfl inX0 (by decide) ho (fun _ => rfl) (fun _ => trivial) kk
theorem gf_RX0_27 {S : Sx} {y : MD} {Q : Option PV → Zm → Prop} {pc pc2 : Nat} {ls : List (Option PV)} {st : List PV} {mem : Zm} {o : Nat} (hy : y.1.cls = RX0) (hd : Dn y pc (.getfield 27) 3 pc2) (ho : shp o = (0, 0)) (kk : PW S y Q pc2 ls (Aq (o + 6) :: st) mem) : PW S y Q pc ls (Aq o :: st) mem := pw_getf (T := TX0) (C := RX0) (N := 10) (ci := 0) (k := 5) (v := Aq (o + 6)) hd (by rw [hy]; exact in_gt 89 (by decide +kernel) rfl) rfl inX0 (by decide) ho (fun _ => rfl) (fun _ => trivial) kk
theorem gf_RX0_30 {S : Sx} {y : MD} {Q : Option PV → Zm → Prop} {pc pc2 : Nat} {ls : List (Option PV)} {st : List PV} {mem : Zm} {o : Nat} (hy : y.1.cls = RX0) (hd : Dn y pc (.getfield 30) 3 pc2) (ho : shp o = (0, 0)) (kk : PW S y Q pc2 ls (Iq (mem o 6) :: st) mem) : PW S y Q pc ls (Aq o :: st) mem := pw_getf (T := TX0) (C := RX0) (N := 10) (ci := 0) (k := 6) (v := Iq (mem o 6)) hd (by rw [hy]; exact in_gt 90 (by decide +kernel) rfl) rfl inX0 (by decide) ho (fun _ => rfl) (fun h => okM_i h (fun q => by have := ho; rw [q.1] at this; cases this)) kk
theorem gf_RX0_34 {S : Sx} {y : MD} {Q : Option PV → Zm → Prop} {pc pc2 : Nat} {ls : List (Option PV)} {st : List PV} {mem : Zm} {o : Nat} (hy : y.1.cls = RX0) (hd : Dn y pc (.getfield 34) 3 pc2) (ho : shp o = (0, 0)) (kk : PW S y Q pc2 ls (Iq (mem o 7) :: st) mem) : PW S y Q pc ls (Aq o :: st) mem := pw_getf (T := TX0) (C := RX0) (N := 10) (ci := 0) (k := 7) (v := Iq (mem o 7)) hd (by rw [hy]; exact in_gt 93 (by decide +kernel) rfl) rfl inX0 (by decide) ho (fun _ => rfl) (fun h => okM_i h (fun q => by have := ho; rw [q.1] at this; cases this)) kk
theorem gf_RX0_37 {S : Sx} {y : MD} {Q : Option PV → Zm → Prop} {pc pc2 : Nat} {ls : List (Option PV)} {st : List PV} {mem : Zm} {o : Nat} (hy : y.1.cls = RX0) (hd : Dn y pc (.getfield 37) 3 pc2) (ho : shp o = (0, 0)) (kk : PW S y Q pc2 ls (Iq (mem o 8) :: st) mem) : PW S y Q pc ls (Aq o :: st) mem := pw_getf (T := TX0) (C := RX0) (N := 10) (ci := 0) (k := 8) (v := Iq (mem o 8)) hd (by rw [hy]; exact in_gt 96 (by decide +kernel) rfl) rfl inX0 (by decide) ho (fun _ => rfl) (fun h => okM_i h (fun q => by have := ho; rw [q.1] at this; cases this)) kk
theorem gf_RX0_40 {S : Sx} {y : MD} {Q : Option PV → Zm → Prop} {pc pc2 : Nat} {ls : List (Option PV)} {st : List PV} {mem : Zm} {o : Nat} (hy : y.1.cls = RX0) (hd : Dn y pc (.getfield 40) 3 pc2) (ho : shp o = (0, 0)) (kk : PW S y Q pc2 ls (Iq (mem o 9) :: st) mem) : PW S y Q pc ls (Aq o :: st) mem := pw_getf (T := TX0) (C := RX0) (N := 10) (ci := 0) (k := 9) (v := Iq (mem o 9)) hd (by rw [hy]; exact in_gt 98 (by decide +kernel) rfl) rfl inX0 (by decide) ho (fun _ => rfl) (fun h => okM_i h (fun q => by have := ho; rw [q.1] at this; cases this)) kk
theorem pf_RX0_30 {S : Sx} {y : MD} {Q : Option PV → Zm → Prop} {pc pc2 : Nat} {ls : List (Option PV)} {st : List PV} {mem : Zm} {o : Nat} {x : Int} (hy : y.1.cls = RX0) (hd : Dn y pc (.putfield 30) 3 pc2) (ho : shp o = (0, 0)) (kk : PW S y Q pc2 ls st (mup mem o 6 x)) : PW S y Q pc ls (Iq x :: Aq o :: st) mem := pw_putI (T := TX0) (C := RX0) (N := 10) (ci := 0) (k := 6) (ty := .int) (ty0 := tyX0) hd (by rw [hy]; exact in_gt 90 (by decide +kernel) rfl) rfl inX0 tyX0_ok nmX0 (by decide) rfl (by decide +kernel) rfl rfl ho (fun _ => Nat.le_of_ble_eq_true rfl) (fun _ => rfl) (fun q => by have := ho; rw [q.1] at this; cases this) kk
theorem pf_RX0_34 {S : Sx} {y : MD} {Q : Option PV → Zm → Prop} {pc pc2 : Nat} {ls : List (Option PV)} {st : List PV} {mem : Zm} {o : Nat} {x : Int} (hy : y.1.cls = RX0) (hd : Dn y pc (.putfield 34) 3 pc2) (ho : shp o = (0, 0)) (kk : PW S y Q pc2 ls st (mup mem o 7 x)) : PW S y Q pc ls (Iq x :: Aq o :: st) mem := pw_putI (T := TX0) (C := RX0) (N := 10) (ci := 0) (k := 7) (ty := .int) (ty0 := tyX0) hd (by rw [hy]; exact in_gt 93 (by decide +kernel) rfl) rfl inX0 tyX0_ok nmX0 (by decide) rfl (by decide +kernel) rfl rfl ho (fun _ => Nat.le_of_ble_eq_true rfl) (fun _ => rfl) (fun q => by have := ho; rw [q.1] at this; cases this) kk
theorem pf_RX0_37 {S : Sx} {y : MD} {Q : Option PV → Zm → Prop} {pc pc2 : Nat} {ls : List (Option PV)} {st : List PV} {mem : Zm} {o : Nat} {x : Int} (hy : y.1.cls = RX0) (hd : Dn y pc (.putfield 37) 3 pc2) (ho : shp o = (0, 0)) (kk : PW S y Q pc2 ls st (mup mem o 8 x)) : PW S y Q pc ls (Iq x :: Aq o :: st) mem := pw_putI (T := TX0) (C := RX0) (N := 10) (ci := 0) (k := 8) (ty := .int) (ty0 := tyX0) hd (by rw [hy]; exact in_gt 96 (by decide +kernel) rfl) rfl inX0 tyX0_ok nmX0 (by decide) rfl (by decide +kernel) rfl rfl ho (fun _ => Nat.le_of_ble_eq_true rfl) (fun _ => rfl) (fun q => by have := ho; rw [q.1] at this; cases this) kk
theorem pf_RX0_40 {S : Sx} {y : MD} {Q : Option PV → Zm → Prop} {pc pc2 : Nat} {ls : List (Option PV)} {st : List PV} {mem : Zm} {o : Nat} {x : Int} (hy : y.1.cls = RX0) (hd : Dn y pc (.putfield 40) 3 pc2) (ho : shp o = (0, 0)) (kk : PW S y Q pc2 ls st (mup mem o 9 x)) : PW S y Q pc ls (Iq x :: Aq o :: st) mem := pw_putI (T := TX0) (C := RX0) (N := 10) (ci := 0) (k := 9) (ty := .int) (ty0 := tyX0) hd (by rw [hy]; exact in_gt 98 (by decide +kernel) rfl) rfl inX0 tyX0_ok nmX0 (by decide) rfl (by decide +kernel) rfl rfl ho (fun _ => Nat.le_of_ble_eq_true rfl) (fun _ => rfl) (fun q => by have := ho; rw [q.1] at this; cases this) kk
theorem gf_RX1_9 {S : Sx} {y : MD} {Q : Option PV → Zm → Prop} {pc pc2 : Nat} {ls : List (Option PV)} {st : List PV} {mem : Zm} {o : Nat} (hy : y.1.cls = RX1) (hd : Dn y pc (.getfield 9) 3 pc2) (ho : shp o = (0, 1)) (kk : PW S y Q pc2 ls (Aq (o + 1) :: st) mem) : PW S y Q pc ls (Aq o :: st) mem := pw_getf (T := TX1) (C := RX1) (N := 3) (ci := 1) (k := 0) (v := Aq (o + 1)) hd (by rw [hy]; exact in_gt 159 (by decide +kernel) rfl) rfl inX1 (by decide) ho (fun _ => rfl) (fun _ => trivial) kk
theorem gf_RX1_15 {S : Sx} {y : MD} {Q : Option PV → Zm → Prop} {pc pc2 : Nat} {ls : List (Option PV)} {st : List PV} {mem : Zm} {o : Nat} (hy : y.1.cls = RX1) (hd : Dn y pc (.getfield 15) 3 pc2) (ho : shp o = (0, 1)) (kk : PW S y Q pc2 ls (Iq (mem o 1) :: st) mem) : PW S y Q pc ls (Aq o :: st) mem := pw_getf (T := TX1) (C := RX1) (N := 3) (ci := 1) (k := 1) (v := Iq (mem o 1)) hd (by rw [hy]; exact in_gt 161 (by decide +kernel) rfl) rfl inX1 (by decide) ho (fun _ => rfl) (fun h => okM_i h (fun q => by have := ho; rw [q.1] at this; cases this)) kk
theorem gf_RX1_19 {S : Sx} {y : MD} {Q : Option PV → Zm → Prop} {pc pc2 : Nat} {ls : List (Option PV)} {st : List PV} {mem : Zm} {o : Nat} (hy : y.1.cls = RX1) (hd : Dn y pc (.getfield 19) 3 pc2) (ho : shp o = (0, 1)) (kk : PW S y Q pc2 ls (Iq (mem o 2) :: st) mem) : PW S y Q pc ls (Aq o :: st) mem := pw_getf (T := TX1) (C := RX1) (N := 3) (ci := 1) (k := 2) (v := Iq (mem o 2)) hd (by rw [hy]; exact in_gt 163 (by decide +kernel) rfl) rfl inX1 (by decide) ho (fun _ => rfl) (fun h => okM_i h (fun q => by have := ho; rw [q.1] at this; cases this)) kk
theorem pf_RX1_15 {S : Sx} {y : MD} {Q : Option PV → Zm → Prop} {pc pc2 : Nat} {ls : List (Option PV)} {st : List PV} {mem : Zm} {o : Nat} {x : Int} (hy : y.1.cls = RX1) (hd : Dn y pc (.putfield 15) 3 pc2) (ho : shp o = (0, 1)) (kk : PW S y Q pc2 ls st (mup mem o 1 x)) : PW S y Q pc ls (Iq x :: Aq o :: st) mem := pw_putI (T := TX1) (C := RX1) (N := 3) (ci := 1) (k := 1) (ty := .int) (ty0 := tyX1) hd (by rw [hy]; exact in_gt 161 (by decide +kernel) rfl) rfl inX1 tyX1_ok nmX1 (by decide) rfl (by decide +kernel) rfl rfl ho (fun _ => Nat.le_of_ble_eq_true rfl) (fun _ => rfl) (fun q => by have := ho; rw [q.1] at this; cases this) kk
theorem pf_RX1_19 {S : Sx} {y : MD} {Q : Option PV → Zm → Prop} {pc pc2 : Nat} {ls : List (Option PV)} {st : List PV} {mem : Zm} {o : Nat} {x : Int} (hy : y.1.cls = RX1) (hd : Dn y pc (.putfield 19) 3 pc2) (ho : shp o = (0, 1)) (kk : PW S y Q pc2 ls st (mup mem o 2 x)) : PW S y Q pc ls (Iq x :: Aq o :: st) mem := pw_putI (T := TX1) (C := RX1) (N := 3) (ci := 1) (k := 2) (ty := .int) (ty0 := tyX1) hd (by rw [hy]; exact in_gt 163 (by decide +kernel) rfl) rfl inX1 tyX1_ok nmX1 (by decide) rfl (by decide +kernel) rfl rfl ho (fun _ => Nat.le_of_ble_eq_true rfl) (fun _ => rfl) (fun q => by have := ho; rw [q.1] at this; cases this) kk
theorem gf_RX2_9 {S : Sx} {y : MD} {Q : Option PV → Zm → Prop} {pc pc2 : Nat} {ls : List (Option PV)} {st : List PV} {mem : Zm} {o : Nat} (hy : y.1.cls = RX2) (hd : Dn y pc (.getfield 9) 3 pc2) (ho : shp o = (0, 2)) (kk : PW S y Q pc2 ls (Aq (23) :: st) mem) : PW S y Q pc ls (Aq o :: st) mem := pw_getf (T := TX2) (C := RX2) (N := 7) (ci := 2) (k := 0) (v := Aq (23)) hd (by rw [hy]; exact in_gt 128 (by decide +kernel) rfl) rfl inX2 (by decide) ho (fun _ => rfl) (fun _ => trivial) kk
theorem gf_RX2_15 {S : Sx} {y : MD} {Q : Option PV → Zm → Prop} {pc pc2 : Nat} {ls : List (Option PV)} {st : List PV} {mem : Zm} {o : Nat} (hy : y.1.cls = RX2) (hd : Dn y pc (.getfield 15) 3 pc2) (ho : shp o = (0, 2)) (kk : PW S y Q pc2 ls (Iq (mem o 1) :: st) mem) : PW S y Q pc ls (Aq o :: st) mem := pw_getf (T := TX2) (C := RX2) (N := 7) (ci := 2) (k := 1) (v := Iq (mem o 1)) hd (by rw [hy]; exact in_gt 129 (by decide +kernel) rfl) rfl inX2 (by decide) ho (fun _ => rfl) (fun h => okM_i h (by omega)) kk
theorem gf_RX2_19 {S : Sx} {y : MD} {Q : Option PV → Zm → Prop} {pc pc2 : Nat} {ls : List (Option PV)} {st : List PV} {mem : Zm} {o : Nat} (hy : y.1.cls = RX2) (hd : Dn y pc (.getfield 19) 3 pc2) (ho : shp o = (0, 2)) (kk : PW S y Q pc2 ls (Iq (mem o 2) :: st) mem) : PW S y Q pc ls (Aq o :: st) mem := pw_getf (T := TX2) (C := RX2) (N := 7) (ci := 2) (k := 2) (v := Iq (mem o 2)) hd (by rw [hy]; exact in_gt 131 (by decide +kernel) rfl) rfl inX2 (by decide) ho (fun _ => rfl) (fun h => okM_i h (by omega)) kk
theorem gf_RX2_22 {S : Sx} {y : MD} {Q : Option PV → Zm → Prop} {pc pc2 : Nat} {ls : List (Option PV)} {st : List PV} {mem : Zm} {o : Nat} (hy : y.1.cls = RX2) (hd : Dn y pc (.getfield 22) 3 pc2) (ho : shp o = (0, 2)) (kk : PW S y Q pc2 ls (Iq (mem o 3) :: st) mem) : PW S y Q pc ls (Aq o :: st) mem := pw_getf (T := TX2) (C := RX2) (N := 7) (ci := 2) (k := 3) (v := Iq (mem o 3)) hd (by rw [hy]; exact in_gt 132 (by decide +kernel) rfl) rfl inX2 (by decide) ho (fun _ => rfl) (fun h => okM_i h (by omega)) kk
theorem gf_RX2_25 {S : Sx} {y : MD} {Q : Option PV → Zm → Prop} {pc pc2 : Nat} {ls : List (Option PV)} {st : List PV} {mem : Zm} {o : Nat} (hy : y.1.cls = RX2) (hd : Dn y pc (.getfield 25) 3 pc2) (ho : shp o = (0, 2)) (kk : PW S y Q pc2 ls (Iq (mem o 4) :: st) mem) : PW S y Q pc ls (Aq o :: st) mem := pw_getf (T := TX2) (C := RX2) (N := 7) (ci := 2) (k := 4) (v := Iq (mem o 4)) hd (by rw [hy]; exact in_gt 133 (by decide +kernel) rfl) rfl inX2 (by decide) ho (fun _ => rfl) (fun h => okM_i h (by omega)) kk
theorem gf_RX2_28 {S : Sx} {y : MD} {Q : Option PV → Zm → Prop} {pc pc2 : Nat} {ls : List (Option PV)} {st : List PV} {mem : Zm} (hy : y.1.cls = RX2) (hd : Dn y pc (.getfield 28) 3 pc2) (kk : PW S y Q pc2 ls (Jq (mem 22 5) :: st) mem) : PW S y Q pc ls (Aq 22 :: st) mem := pw_getf (T := TX2) (C := RX2) (N := 7) (ci := 2) (k := 5) (v := Jq (mem 22 5)) hd (by rw [hy]; exact in_gt 134 (by decide +kernel) rfl) rfl inX2 (by decide) sh22 (fun _ => rfl) (fun h => (h 22 5).1 ⟨rfl, rfl⟩) kk
theorem gf_RX2_32 {S : Sx} {y : MD} {Q : Option PV → Zm → Prop} {pc pc2 : Nat} {ls : List (Option PV)} {st : List PV} {mem : Zm} {o : Nat} (hy : y.1.cls = RX2) (hd : Dn y pc (.getfield 32) 3 pc2) (ho : shp o = (0, 2)) (kk : PW S y Q pc2 ls (Iq (mem o 6) :: st) mem) : PW S y Q pc ls (Aq o :: st) mem := pw_getf (T := TX2) (C := RX2) (N := 7) (ci := 2) (k := 6) (v := Iq (mem o 6)) hd (by rw [hy]; exact in_gt 135 (by decide +kernel) rfl) rfl inX2 (by decide) ho (fun _ => rfl) (fun h => okM_i h (by omega)) kk
theorem gf_RX2_64 {S : Sx} {y : MD} {Q : Option PV → Zm → Prop} {pc pc2 : Nat} {ls : List (Option PV)} {st : List PV} {mem : Zm} {o : Nat} (hy : y.1.cls = RX2) (hd : Dn y pc (.getfield 64) 3 pc2) (ho : shp o = (0, 0)) (kk : PW S y Q pc2 ls (Aq (o + 1) :: st) mem) : PW S y Q pc ls (Aq o :: st) mem := pw_getf (T := TX0) (C := RX0) (N := 10) (ci := 0) (k := 0) (v := Aq (o + 1)) hd (by rw [hy]; exact in_gt 83 (by decide +kernel) rfl) rfl inX0 (by decide) ho (fun _ => rfl) (fun _ => trivial) kk
theorem gf_RX2_73 {S : Sx} {y : MD} {Q : Option PV → Zm → Prop} {pc pc2 : Nat} {ls : List (Option PV)} {st : List PV} {mem : Zm} {o : Nat} (hy : y.1.cls = RX2) (hd : Dn y pc (.getfield 73) 3 pc2) (ho : shp o = (0, 0)) (kk : PW S y Q pc2 ls (Iq (mem o 7) :: st) mem) : PW S y Q pc ls (Aq o :: st) mem := pw_getf (T := TX0) (C := RX0) (N := 10) (ci := 0) (k := 7) (v := Iq (mem o 7)) hd (by rw [hy]; exact in_gt 95 (by decide +kernel) rfl) rfl inX0 (by decide) ho (fun _ => rfl) (fun h => okM_i h (fun q => by have := ho; rw [q.1] at this; cases this)) kk
theorem pf_RX2_15 {S : Sx} {y : MD} {Q : Option PV → Zm → Prop} {pc pc2 : Nat} {ls : List (Option PV)} {st : List PV} {mem : Zm} {o : Nat} {x : Int} (hy : y.1.cls = RX2) (hd : Dn y pc (.putfield 15) 3 pc2) (ho : shp o = (0, 2)) (kk : PW S y Q pc2 ls st (mup mem o 1 x)) : PW S y Q pc ls (Iq x :: Aq o :: st) mem := pw_putI (T := TX2) (C := RX2) (N := 7) (ci := 2) (k := 1) (ty := .int) (ty0 := tyX2) hd (by rw [hy]; exact in_gt 129 (by decide +kernel) rfl) rfl inX2 tyX2_ok nmX2 (by decide) rfl (by decide +kernel) rfl rfl ho (fun _ => Nat.le_of_ble_eq_true rfl) (fun _ => rfl) (by omega) kk
theorem pf_RX2_19 {S : Sx} {y : MD} {Q : Option PV → Zm → Prop} {pc pc2 : Nat} {ls : List (Option PV)} {st : List PV} {mem : Zm} {o : Nat} {x : Int} (hy : y.1.cls = RX2) (hd : Dn y pc (.putfield 19) 3 pc2) (ho : shp o = (0, 2)) (kk : PW S y Q pc2 ls st (mup mem o 2 x)) : PW S y Q pc ls (Iq x :: Aq o :: st) mem := pw_putI (T := TX2) (C := RX2) (N := 7) (ci := 2) (k := 2) (ty := .int) (ty0 := tyX2) hd (by rw [hy]; exact in_gt 131 (by decide +kernel) rfl) rfl inX2 tyX2_ok nmX2 (by decide) rfl (by decide +kernel) rfl rfl ho (fun _ => Nat.le_of_ble_eq_true rfl) (fun _ => rfl) (by omega) kk
theorem pf_RX2_22 {S : Sx} {y : MD} {Q : Option PV → Zm → Prop} {pc pc2 : Nat} {ls : List (Option PV)} {st : List PV} {mem : Zm} {o : Nat} {x : Int} (hy : y.1.cls = RX2) (hd : Dn y pc (.putfield 22) 3 pc2) (ho : shp o = (0, 2)) (kk : PW S y Q pc2 ls st (mup mem o 3 x)) : PW S y Q pc ls (Iq x :: Aq o :: st) mem := pw_putI (T := TX2) (C := RX2) (N := 7) (ci := 2) (k := 3) (ty := .int) (ty0 := tyX2) hd (by rw [hy]; exact in_gt 132 (by decide +kernel) rfl) rfl inX2 tyX2_ok nmX2 (by decide) rfl (by decide +kernel) rfl rfl ho (fun _ => Nat.le_of_ble_eq_true rfl) (fun _ => rfl) (by omega) kk
theorem pf_RX2_25 {S : Sx} {y : MD} {Q : Option PV → Zm → Prop} {pc pc2 : Nat} {ls : List (Option PV)} {st : List PV} {mem : Zm} {o : Nat} {x : Int} (hy : y.1.cls = RX2) (hd : Dn y pc (.putfield 25) 3 pc2) (ho : shp o = (0, 2)) (kk : PW S y Q pc2 ls st (mup mem o 4 x)) : PW S y Q pc ls (Iq x :: Aq o :: st) mem := pw_putI (T := TX2) (C := RX2) (N := 7) (ci := 2) (k := 4) (ty := .int) (ty0 := tyX2) hd (by rw [hy]; exact in_gt 133 (by decide +kernel) rfl) rfl inX2 tyX2_ok nmX2 (by decide) rfl (by decide +kernel) rfl rfl ho (fun _ => Nat.le_of_ble_eq_true rfl) (fun _ => rfl) (by omega) kk
theorem pf_RX2_28 {S : Sx} {y : MD} {Q : Option PV → Zm → Prop} {pc pc2 : Nat} {ls : List (Option PV)} {st : List PV} {mem : Zm} {x : Int} (hy : y.1.cls = RX2) (hd : Dn y pc (.putfield 28) 3 pc2) (kk : PW S y Q pc2 ls st (mup mem 22 5 x)) : PW S y Q pc ls (Jq x :: Aq 22 :: st) mem := pw_putJ hd (by rw [hy]; exact in_gt 134 (by decide +kernel) rfl) inX2 kk
theorem pf_RX2_32 {S : Sx} {y : MD} {Q : Option PV → Zm → Prop} {pc pc2 : Nat} {ls : List (Option PV)} {st : List PV} {mem : Zm} {o : Nat} {x : Int} (hy : y.1.cls = RX2) (hd : Dn y pc (.putfield 32) 3 pc2) (ho : shp o = (0, 2)) (kk : PW S y Q pc2 ls st (mup mem o 6 x)) : PW S y Q pc ls (Iq x :: Aq o :: st) mem := pw_putI (T := TX2) (C := RX2) (N := 7) (ci := 2) (k := 6) (ty := .int) (ty0 := tyX2) hd (by rw [hy]; exact in_gt 135 (by decide +kernel) rfl) rfl inX2 tyX2_ok nmX2 (by decide) rfl (by decide +kernel) rfl rfl ho (fun _ => Nat.le_of_ble_eq_true rfl) (fun _ => rfl) (by omega) kk
theorem pf_RX2_70 {S : Sx} {y : MD} {Q : Option PV → Zm → Prop} {pc pc2 : Nat} {ls : List (Option PV)} {st : List PV} {mem : Zm} {o : Nat} {x : Int} (hy : y.1.cls = RX2) (hd : Dn y pc (.putfield 70) 3 pc2) (ho : shp o = (0, 0)) (kk : PW S y Q pc2 ls st (mup mem o 6 x)) : PW S y Q pc ls (Iq x :: Aq o :: st) mem := pw_putI (T := TX0) (C := RX0) (N := 10) (ci := 0) (k := 6) (ty := .int) (ty0 := tyX0) hd (by rw [hy]; exact in_gt 92 (by decide +kernel) rfl) rfl inX0 tyX0_ok nmX0 (by decide) rfl (by decide +kernel) rfl rfl ho (fun _ => Nat.le_of_ble_eq_true rfl) (fun _ => rfl) (fun q => by have := ho; rw [q.1] at this; cases this) kk
theorem gf_RX3_10 {S : Sx} {y : MD} {Q : Option PV → Zm → Prop} {pc pc2 : Nat} {ls : List (Option PV)} {st : List PV} {mem : Zm} {o : Nat} (hy : y.1.cls = RX3) (hd : Dn y pc (.getfield 10) 3 pc2) (ho : shp o = (0, 3)) (kk : PW S y Q pc2 ls (Aq (1) :: st) mem) : PW S y Q pc ls (Aq o :: st) mem := pw_getf (T := TX3) (C := RX3) (N := 7) (ci := 3) (k := 0) (v := Aq (1)) hd (by rw [hy]; exact in_gt 172 (by decide +kernel) rfl) rfl inX3 (by decide) ho (fun _ => rfl) (fun _ => trivial) kk
theorem gf_RX3_16 {S : Sx} {y : MD} {Q : Option PV → Zm → Prop} {pc pc2 : Nat} {ls : List (Option PV)} {st : List PV} {mem : Zm} {o : Nat} (hy : y.1.cls = RX3) (hd : Dn y pc (.getfield 16) 3 pc2) (ho : shp o = (0, 3)) (kk : PW S y Q pc2 ls (Aq (8) :: st) mem) : PW S y Q pc ls (Aq o :: st) mem := pw_getf (T := TX3) (C := RX3) (N := 7) (ci := 3) (k := 1) (v := Aq (8)) hd (by rw [hy]; exact in_gt 173 (by decide +kernel) rfl) rfl inX3 (by decide) ho (fun _ => rfl) (fun _ => trivial) kk
theorem gf_RX3_19 {S : Sx} {y : MD} {Q : Option PV → Zm → Prop} {pc pc2 : Nat} {ls : List (Option PV)} {st : List PV} {mem : Zm} {o : Nat} (hy : y.1.cls = RX3) (hd : Dn y pc (.getfield 19) 3 pc2) (ho : shp o = (0, 3)) (kk : PW S y Q pc2 ls (Aq (15) :: st) mem) : PW S y Q pc ls (Aq o :: st) mem := pw_getf (T := TX3) (C := RX3) (N := 7) (ci := 3) (k := 2) (v := Aq (15)) hd (by rw [hy]; exact in_gt 174 (by decide +kernel) rfl) rfl inX3 (by decide) ho (fun _ => rfl) (fun _ => trivial) kk
theorem gf_RX3_22 {S : Sx} {y : MD} {Q : Option PV → Zm → Prop} {pc pc2 : Nat} {ls : List (Option PV)} {st : List PV} {mem : Zm} {o : Nat} (hy : y.1.cls = RX3) (hd : Dn y pc (.getfield 22) 3 pc2) (ho : shp o = (0, 3)) (kk : PW S y Q pc2 ls (Iq (mem o 3) :: st) mem) : PW S y Q pc ls (Aq o :: st) mem := pw_getf (T := TX3) (C := RX3) (N := 7) (ci := 3) (k := 3) (v := Iq (mem o 3)) hd (by rw [hy]; exact in_gt 175 (by decide +kernel) rfl) rfl inX3 (by decide) ho (fun _ => rfl) (fun h => okM_i h (fun q => by have := ho; rw [q.1] at this; cases this)) kk
theorem gf_RX3_29 {S : Sx} {y : MD} {Q : Option PV → Zm → Prop} {pc pc2 : Nat} {ls : List (Option PV)} {st : List PV} {mem : Zm} {o : Nat} (hy : y.1.cls = RX3) (hd : Dn y pc (.getfield 29) 3 pc2) (ho : shp o = (0, 3)) (kk : PW S y Q pc2 ls (Aq (22) :: st) mem) : PW S y Q pc ls (Aq o :: st) mem := pw_getf (T := TX3) (C := RX3) (N := 7) (ci := 3) (k := 4) (v := Aq (22)) hd (by rw [hy]; exact in_gt 176 (by decide +kernel) rfl) rfl inX3 (by decide) ho (fun _ => rfl) (fun _ => trivial) kk
theorem gf_RX3_35 {S : Sx} {y : MD} {Q : Option PV → Zm → Prop} {pc pc2 : Nat} {ls : List (Option PV)} {st : List PV} {mem : Zm} {o : Nat} (hy : y.1.cls = RX3) (hd : Dn y pc (.getfield 35) 3 pc2) (ho : shp o = (0, 3)) (kk : PW S y Q pc2 ls (Aq (24) :: st) mem) : PW S y Q pc ls (Aq o :: st) mem := pw_getf (T := TX3) (C := RX3) (N := 7) (ci := 3) (k := 5) (v := Aq (24)) hd (by rw [hy]; exact in_gt 177 (by decide +kernel) rfl) rfl inX3 (by decide) ho (fun _ => rfl) (fun _ => trivial) kk
theorem gf_RX3_40 {S : Sx} {y : MD} {Q : Option PV → Zm → Prop} {pc pc2 : Nat} {ls : List (Option PV)} {st : List PV} {mem : Zm} {o : Nat} (hy : y.1.cls = RX3) (hd : Dn y pc (.getfield 40) 3 pc2) (ho : shp o = (0, 3)) (kk : PW S y Q pc2 ls (Aq (33) :: st) mem) : PW S y Q pc ls (Aq o :: st) mem := pw_getf (T := TX3) (C := RX3) (N := 7) (ci := 3) (k := 6) (v := Aq (33)) hd (by rw [hy]; exact in_gt 178 (by decide +kernel) rfl) rfl inX3 (by decide) ho (fun _ => rfl) (fun _ => trivial) kk
theorem gf_RX3_53 {S : Sx} {y : MD} {Q : Option PV → Zm → Prop} {pc pc2 : Nat} {ls : List (Option PV)} {st : List PV} {mem : Zm} {o : Nat} (hy : y.1.cls = RX3) (hd : Dn y pc (.getfield 53) 3 pc2) (ho : shp o = (0, 0)) (kk : PW S y Q pc2 ls (Aq (o + 1) :: st) mem) : PW S y Q pc ls (Aq o :: st) mem := pw_getf (T := TX0) (C := RX0) (N := 10) (ci := 0) (k := 0) (v := Aq (o + 1)) hd (by rw [hy]; exact in_gt 82 (by decide +kernel) rfl) rfl inX0 (by decide) ho (fun _ => rfl) (fun _ => trivial) kk
theorem gf_RX3_56 {S : Sx} {y : MD} {Q : Option PV → Zm → Prop} {pc pc2 : Nat} {ls : List (Option PV)} {st : List PV} {mem : Zm} {o : Nat} (hy : y.1.cls = RX3) (hd : Dn y pc (.getfield 56) 3 pc2) (ho : shp o = (0, 0)) (kk : PW S y Q pc2 ls (Iq (mem o 6) :: st) mem) : PW S y Q pc ls (Aq o :: st) mem := pw_getf (T := TX0) (C := RX0) (N := 10) (ci := 0) (k := 6) (v := Iq (mem o 6)) hd (by rw [hy]; exact in_gt 91 (by decide +kernel) rfl) rfl inX0 (by decide) ho (fun _ => rfl) (fun h => okM_i h (fun q => by have := ho; rw [q.1] at this; cases this)) kk
theorem gf_RX3_60 {S : Sx} {y : MD} {Q : Option PV → Zm → Prop} {pc pc2 : Nat} {ls : List (Option PV)} {st : List PV} {mem : Zm} {o : Nat} (hy : y.1.cls = RX3) (hd : Dn y pc (.getfield 60) 3 pc2) (ho : shp o = (0, 0)) (kk : PW S y Q pc2 ls (Iq (mem o 7) :: st) mem) : PW S y Q pc ls (Aq o :: st) mem := pw_getf (T := TX0) (C := RX0) (N := 10) (ci := 0) (k := 7) (v := Iq (mem o 7)) hd (by rw [hy]; exact in_gt 94 (by decide +kernel) rfl) rfl inX0 (by decide) ho (fun _ => rfl) (fun h => okM_i h (fun q => by have := ho; rw [q.1] at this; cases this)) kk
theorem gf_RX3_101 {S : Sx} {y : MD} {Q : Option PV → Zm → Prop} {pc pc2 : Nat} {ls : List (Option PV)} {st : List PV} {mem : Zm} {o : Nat} (hy : y.1.cls = RX3) (hd : Dn y pc (.getfield 101) 3 pc2) (ho : shp o = (0, 0)) (kk : PW S y Q pc2 ls (Iq (mem o 8) :: st) mem) : PW S y Q pc ls (Aq o :: st) mem := pw_getf (T := TX0) (C := RX0) (N := 10) (ci := 0) (k := 8) (v := Iq (mem o 8)) hd (by rw [hy]; exact in_gt 97 (by decide +kernel) rfl) rfl inX0 (by decide) ho (fun _ => rfl) (fun h => okM_i h (fun q => by have := ho; rw [q.1] at this; cases this)) kk
theorem gf_RX3_174 {S : Sx} {y : MD} {Q : Option PV → Zm → Prop} {pc pc2 : Nat} {ls : List (Option PV)} {st : List PV} {mem : Zm} {o : Nat} (hy : y.1.cls = RX3) (hd : Dn y pc (.getfield 174) 3 pc2) (ho : shp o = (0, 0)) (kk : PW S y Q pc2 ls (Iq (mem o 9) :: st) mem) : PW S y Q pc ls (Aq o :: st) mem := pw_getf (T := TX0) (C := RX0) (N := 10) (ci := 0) (k := 9) (v := Iq (mem o 9)) hd (by rw [hy]; exact in_gt 99 (by decide +kernel) rfl) rfl inX0 (by decide) ho (fun _ => rfl) (fun h => okM_i h (fun q => by have := ho; rw [q.1] at this; cases this)) kk
theorem gf_RX3_177 {S : Sx} {y : MD} {Q : Option PV → Zm → Prop} {pc pc2 : Nat} {ls : List (Option PV)} {st : List PV} {mem : Zm} {o : Nat} (hy : y.1.cls = RX3) (hd : Dn y pc (.getfield 177) 3 pc2) (ho : shp o = (0, 2)) (kk : PW S y Q pc2 ls (Iq (mem o 1) :: st) mem) : PW S y Q pc ls (Aq o :: st) mem := pw_getf (T := TX2) (C := RX2) (N := 7) (ci := 2) (k := 1) (v := Iq (mem o 1)) hd (by rw [hy]; exact in_gt 130 (by decide +kernel) rfl) rfl inX2 (by decide) ho (fun _ => rfl) (fun h => okM_i h (by omega)) kk
theorem gf_RX3_187 {S : Sx} {y : MD} {Q : Option PV → Zm → Prop} {pc pc2 : Nat} {ls : List (Option PV)} {st : List PV} {mem : Zm} {o : Nat} (hy : y.1.cls = RX3) (hd : Dn y pc (.getfield 187) 3 pc2) (ho : shp o = (0, 0)) (kk : PW S y Q pc2 ls (Aq (o + 4) :: st) mem) : PW S y Q pc ls (Aq o :: st) mem := pw_getf (T := TX0) (C := RX0) (N := 10) (ci := 0) (k := 3) (v := Aq (o + 4)) hd (by rw [hy]; exact in_gt 87 (by decide +kernel) rfl) rfl inX0 (by decide) ho (fun _ => rfl) (fun _ => trivial) kk
theorem gf_RX3_201 {S : Sx} {y : MD} {Q : Option PV → Zm → Prop} {pc pc2 : Nat} {ls : List (Option PV)} {st : List PV} {mem : Zm} {o : Nat} (hy : y.1.cls = RX3) (hd : Dn y pc (.getfield 201) 3 pc2) (ho : shp o = (0, 1)) (kk : PW S y Q pc2 ls (Iq (mem o 2) :: st) mem) : PW S y Q pc ls (Aq o :: st) mem := pw_getf (T := TX1) (C := RX1) (N := 3) (ci := 1) (k := 2) (v := Iq (mem o 2)) hd (by rw [hy]; exact in_gt 164 (by decide +kernel) rfl) rfl inX1 (by decide) ho (fun _ => rfl) (fun h => okM_i h (fun q => by have := ho; rw [q.1] at this; cases this)) kk
theorem gf_RX3_212 {S : Sx} {y : MD} {Q : Option PV → Zm → Prop} {pc pc2 : Nat} {ls : List (Option PV)} {st : List PV} {mem : Zm} {o : Nat} (hy : y.1.cls = RX3) (hd : Dn y pc (.getfield 212) 3 pc2) (ho : shp o = (0, 1)) (kk : PW S y Q pc2 ls (Iq (mem o 1) :: st) mem) : PW S y Q pc ls (Aq o :: st) mem := pw_getf (T := TX1) (C := RX1) (N := 3) (ci := 1) (k := 1) (v := Iq (mem o 1)) hd (by rw [hy]; exact in_gt 162 (by decide +kernel) rfl) rfl inX1 (by decide) ho (fun _ => rfl) (fun h => okM_i h (fun q => by have := ho; rw [q.1] at this; cases this)) kk
theorem gf_RX3_218 {S : Sx} {y : MD} {Q : Option PV → Zm → Prop} {pc pc2 : Nat} {ls : List (Option PV)} {st : List PV} {mem : Zm} {o : Nat} (hy : y.1.cls = RX3) (hd : Dn y pc (.getfield 218) 3 pc2) (ho : shp o = (0, 1)) (kk : PW S y Q pc2 ls (Aq (o + 1) :: st) mem) : PW S y Q pc ls (Aq o :: st) mem := pw_getf (T := TX1) (C := RX1) (N := 3) (ci := 1) (k := 0) (v := Aq (o + 1)) hd (by rw [hy]; exact in_gt 160 (by decide +kernel) rfl) rfl inX1 (by decide) ho (fun _ => rfl) (fun _ => trivial) kk
theorem pf_RX3_22 {S : Sx} {y : MD} {Q : Option PV → Zm → Prop} {pc pc2 : Nat} {ls : List (Option PV)} {st : List PV} {mem : Zm} {o : Nat} {x : Int} (hy : y.1.cls = RX3) (hd : Dn y pc (.putfield 22) 3 pc2) (ho : shp o = (0, 3)) (hz : x = 0 ∨ x = 1) (kk : PW S y Q pc2 ls st (mup mem o 3 x)) : PW S y Q pc ls (Iq x :: Aq o :: st) mem := pw_putI (T := TX3) (C := RX3) (N := 7) (ci := 3) (k := 3) (ty := .boolean) (ty0 := tyX3) hd (by rw [hy]; exact in_gt 175 (by decide +kernel) rfl) rfl inX3 tyX3_ok nmX3 (by decide) rfl (by decide +kernel) (by rcases hz with rfl | rfl <;> rfl) (by rcases hz with rfl | rfl <;> rfl) ho (fun _ => Nat.le_of_ble_eq_true rfl) (fun _ => rfl) (fun q => by have := ho; rw [q.1] at this; cases this) kk
theorem pf_RX3_56 {S : Sx} {y : MD} {Q : Option PV → Zm → Prop} {pc pc2 : Nat} {ls : List (Option PV)} {st : List PV} {mem : Zm} {o : Nat} {x : Int} (hy : y.1.cls = RX3) (hd : Dn y pc (.putfield 56) 3 pc2) (ho : shp o = (0, 0)) (kk : PW S y Q pc2 ls st (mup mem o 6 x)) : PW S y Q pc ls (Iq x :: Aq o :: st) mem := pw_putI (T := TX0) (C := RX0) (N := 10) (ci := 0) (k := 6) (ty := .int) (ty0 := tyX0) hd (by rw [hy]; exact in_gt 91 (by decide +kernel) rfl) rfl inX0 tyX0_ok nmX0 (by decide) rfl (by decide +kernel) rfl rfl ho (fun _ => Nat.le_of_ble_eq_true rfl) (fun _ => rfl) (fun q => by have := ho; rw [q.1] at this; cases this) kk
theorem pf_RX3_174 {S : Sx} {y : MD} {Q : Option PV → Zm → Prop} {pc pc2 : Nat} {ls : List (Option PV)} {st : List PV} {mem : Zm} {o : Nat} {x : Int} (hy : y.1.cls = RX3) (hd : Dn y pc (.putfield 174) 3 pc2) (ho : shp o = (0, 0)) (kk : PW S y Q pc2 ls st (mup mem o 9 x)) : PW S y Q pc ls (Iq x :: Aq o :: st) mem := pw_putI (T := TX0) (C := RX0) (N := 10) (ci := 0) (k := 9) (ty := .int) (ty0 := tyX0) hd (by rw [hy]; exact in_gt 99 (by decide +kernel) rfl) rfl inX0 tyX0_ok nmX0 (by decide) rfl (by decide +kernel) rfl rfl ho (fun _ => Nat.le_of_ble_eq_true rfl) (fun _ => rfl) (fun q => by have := ho; rw [q.1] at this; cases this) kk
theorem pf_RX3_177 {S : Sx} {y : MD} {Q : Option PV → Zm → Prop} {pc pc2 : Nat} {ls : List (Option PV)} {st : List PV} {mem : Zm} {o : Nat} {x : Int} (hy : y.1.cls = RX3) (hd : Dn y pc (.putfield 177) 3 pc2) (ho : shp o = (0, 2)) (kk : PW S y Q pc2 ls st (mup mem o 1 x)) : PW S y Q pc ls (Iq x :: Aq o :: st) mem := pw_putI (T := TX2) (C := RX2) (N := 7) (ci := 2) (k := 1) (ty := .int) (ty0 := tyX2) hd (by rw [hy]; exact in_gt 130 (by decide +kernel) rfl) rfl inX2 tyX2_ok nmX2 (by decide) rfl (by decide +kernel) rfl rfl ho (fun _ => Nat.le_of_ble_eq_true rfl) (fun _ => rfl) (by omega) kk
theorem gf_RX4_7 {S : Sx} {y : MD} {Q : Option PV → Zm → Prop} {pc pc2 : Nat} {ls : List (Option PV)} {st : List PV} {mem : Zm} {o : Nat} (hy : y.1.cls = RX4) (hd : Dn y pc (.getfield 7) 3 pc2) (ho : shp o = (0, 4)) (kk : PW S y Q pc2 ls (Aq (35) :: st) mem) : PW S y Q pc ls (Aq o :: st) mem := pw_getf (T := TX4) (C := RX4) (N := 18) (ci := 4) (k := 0) (v := Aq (35)) hd (by rw [hy]; exact in_gt 656 (by decide +kernel) rfl) rfl inX4 (by decide) ho (fun _ => rfl) (fun _ => trivial) kk
theorem gf_RX4_13 {S : Sx} {y : MD} {Q : Option PV → Zm → Prop} {pc pc2 : Nat} {ls : List (Option PV)} {st : List PV} {mem : Zm} {o : Nat} (hy : y.1.cls = RX4) (hd : Dn y pc (.getfield 13) 3 pc2) (ho : shp o = (0, 4)) (kk : PW S y Q pc2 ls (Aq (36) :: st) mem) : PW S y Q pc ls (Aq o :: st) mem := pw_getf (T := TX4) (C := RX4) (N := 18) (ci := 4) (k := 1) (v := Aq (36)) hd (by rw [hy]; exact in_gt 657 (by decide +kernel) rfl) rfl inX4 (by decide) ho (fun _ => rfl) (fun _ => trivial) kk
theorem gf_RX4_16 {S : Sx} {y : MD} {Q : Option PV → Zm → Prop} {pc pc2 : Nat} {ls : List (Option PV)} {st : List PV} {mem : Zm} {o : Nat} (hy : y.1.cls = RX4) (hd : Dn y pc (.getfield 16) 3 pc2) (ho : shp o = (0, 4)) (kk : PW S y Q pc2 ls (Aq (37) :: st) mem) : PW S y Q pc ls (Aq o :: st) mem := pw_getf (T := TX4) (C := RX4) (N := 18) (ci := 4) (k := 2) (v := Aq (37)) hd (by rw [hy]; exact in_gt 658 (by decide +kernel) rfl) rfl inX4 (by decide) ho (fun _ => rfl) (fun _ => trivial) kk
theorem gf_RX4_19 {S : Sx} {y : MD} {Q : Option PV → Zm → Prop} {pc pc2 : Nat} {ls : List (Option PV)} {st : List PV} {mem : Zm} {o : Nat} (hy : y.1.cls = RX4) (hd : Dn y pc (.getfield 19) 3 pc2) (ho : shp o = (0, 4)) (kk : PW S y Q pc2 ls (Aq (38) :: st) mem) : PW S y Q pc ls (Aq o :: st) mem := pw_getf (T := TX4) (C := RX4) (N := 18) (ci := 4) (k := 3) (v := Aq (38)) hd (by rw [hy]; exact in_gt 659 (by decide +kernel) rfl) rfl inX4 (by decide) ho (fun _ => rfl) (fun _ => trivial) kk
theorem gf_RX4_22 {S : Sx} {y : MD} {Q : Option PV → Zm → Prop} {pc pc2 : Nat} {ls : List (Option PV)} {st : List PV} {mem : Zm} {o : Nat} (hy : y.1.cls = RX4) (hd : Dn y pc (.getfield 22) 3 pc2) (ho : shp o = (0, 4)) (kk : PW S y Q pc2 ls (Aq (39) :: st) mem) : PW S y Q pc ls (Aq o :: st) mem := pw_getf (T := TX4) (C := RX4) (N := 18) (ci := 4) (k := 5) (v := Aq (39)) hd (by rw [hy]; exact in_gt 661 (by decide +kernel) rfl) rfl inX4 (by decide) ho (fun _ => rfl) (fun _ => trivial) kk
theorem gf_RX4_25 {S : Sx} {y : MD} {Q : Option PV → Zm → Prop} {pc pc2 : Nat} {ls : List (Option PV)} {st : List PV} {mem : Zm} {o : Nat} (hy : y.1.cls = RX4) (hd : Dn y pc (.getfield 25) 3 pc2) (ho : shp o = (0, 4)) (kk : PW S y Q pc2 ls (Aq (40) :: st) mem) : PW S y Q pc ls (Aq o :: st) mem := pw_getf (T := TX4) (C := RX4) (N := 18) (ci := 4) (k := 6) (v := Aq (40)) hd (by rw [hy]; exact in_gt 662 (by decide +kernel) rfl) rfl inX4 (by decide) ho (fun _ => rfl) (fun _ => trivial) kk
theorem gf_RX4_28 {S : Sx} {y : MD} {Q : Option PV → Zm → Prop} {pc pc2 : Nat} {ls : List (Option PV)} {st : List PV} {mem : Zm} {o : Nat} (hy : y.1.cls = RX4) (hd : Dn y pc (.getfield 28) 3 pc2) (ho : shp o = (0, 4)) (kk : PW S y Q pc2 ls (Aq (41) :: st) mem) : PW S y Q pc ls (Aq o :: st) mem := pw_getf (T := TX4) (C := RX4) (N := 18) (ci := 4) (k := 8) (v := Aq (41)) hd (by rw [hy]; exact in_gt 664 (by decide +kernel) rfl) rfl inX4 (by decide) ho (fun _ => rfl) (fun _ => trivial) kk
theorem gf_RX4_31 {S : Sx} {y : MD} {Q : Option PV → Zm → Prop} {pc pc2 : Nat} {ls : List (Option PV)} {st : List PV} {mem : Zm} {o : Nat} (hy : y.1.cls = RX4) (hd : Dn y pc (.getfield 31) 3 pc2) (ho : shp o = (0, 4)) (kk : PW S y Q pc2 ls (Aq (42) :: st) mem) : PW S y Q pc ls (Aq o :: st) mem := pw_getf (T := TX4) (C := RX4) (N := 18) (ci := 4) (k := 9) (v := Aq (42)) hd (by rw [hy]; exact in_gt 665 (by decide +kernel) rfl) rfl inX4 (by decide) ho (fun _ => rfl) (fun _ => trivial) kk
theorem gf_RX4_34 {S : Sx} {y : MD} {Q : Option PV → Zm → Prop} {pc pc2 : Nat} {ls : List (Option PV)} {st : List PV} {mem : Zm} {o : Nat} (hy : y.1.cls = RX4) (hd : Dn y pc (.getfield 34) 3 pc2) (ho : shp o = (0, 4)) (kk : PW S y Q pc2 ls (Aq (43) :: st) mem) : PW S y Q pc ls (Aq o :: st) mem := pw_getf (T := TX4) (C := RX4) (N := 18) (ci := 4) (k := 10) (v := Aq (43)) hd (by rw [hy]; exact in_gt 666 (by decide +kernel) rfl) rfl inX4 (by decide) ho (fun _ => rfl) (fun _ => trivial) kk
theorem gf_RX4_184 {S : Sx} {y : MD} {Q : Option PV → Zm → Prop} {pc pc2 : Nat} {ls : List (Option PV)} {st : List PV} {mem : Zm} {o : Nat} (hy : y.1.cls = RX4) (hd : Dn y pc (.getfield 184) 3 pc2) (ho : shp o = (0, 4)) (kk : PW S y Q pc2 ls (Iq (mem o 11) :: st) mem) : PW S y Q pc ls (Aq o :: st) mem := pw_getf (T := TX4) (C := RX4) (N := 18) (ci := 4) (k := 11) (v := Iq (mem o 11)) hd (by rw [hy]; exact in_gt 667 (by decide +kernel) rfl) rfl inX4 (by decide) ho (fun _ => rfl) (fun h => okM_i h (fun q => by have := ho; rw [q.1] at this; cases this)) kk
theorem gf_RX4_188 {S : Sx} {y : MD} {Q : Option PV → Zm → Prop} {pc pc2 : Nat} {ls : List (Option PV)} {st : List PV} {mem : Zm} {o : Nat} (hy : y.1.cls = RX4) (hd : Dn y pc (.getfield 188) 3 pc2) (ho : shp o = (0, 4)) (kk : PW S y Q pc2 ls (Iq (mem o 12) :: st) mem) : PW S y Q pc ls (Aq o :: st) mem := pw_getf (T := TX4) (C := RX4) (N := 18) (ci := 4) (k := 12) (v := Iq (mem o 12)) hd (by rw [hy]; exact in_gt 668 (by decide +kernel) rfl) rfl inX4 (by decide) ho (fun _ => rfl) (fun h => okM_i h (fun q => by have := ho; rw [q.1] at this; cases this)) kk
theorem gf_RX4_202 {S : Sx} {y : MD} {Q : Option PV → Zm → Prop} {pc pc2 : Nat} {ls : List (Option PV)} {st : List PV} {mem : Zm} {o : Nat} (hy : y.1.cls = RX4) (hd : Dn y pc (.getfield 202) 3 pc2) (ho : shp o = (0, 4)) (kk : PW S y Q pc2 ls (Iq (mem o 7) :: st) mem) : PW S y Q pc ls (Aq o :: st) mem := pw_getf (T := TX4) (C := RX4) (N := 18) (ci := 4) (k := 7) (v := Iq (mem o 7)) hd (by rw [hy]; exact in_gt 663 (by decide +kernel) rfl) rfl inX4 (by decide) ho (fun _ => rfl) (fun h => okM_i h (fun q => by have := ho; rw [q.1] at this; cases this)) kk
theorem gf_RX4_205 {S : Sx} {y : MD} {Q : Option PV → Zm → Prop} {pc pc2 : Nat} {ls : List (Option PV)} {st : List PV} {mem : Zm} {o : Nat} (hy : y.1.cls = RX4) (hd : Dn y pc (.getfield 205) 3 pc2) (ho : shp o = (0, 4)) (kk : PW S y Q pc2 ls (Iq (mem o 15) :: st) mem) : PW S y Q pc ls (Aq o :: st) mem := pw_getf (T := TX4) (C := RX4) (N := 18) (ci := 4) (k := 15) (v := Iq (mem o 15)) hd (by rw [hy]; exact in_gt 671 (by decide +kernel) rfl) rfl inX4 (by decide) ho (fun _ => rfl) (fun h => okM_i h (fun q => by have := ho; rw [q.1] at this; cases this)) kk
theorem gf_RX4_208 {S : Sx} {y : MD} {Q : Option PV → Zm → Prop} {pc pc2 : Nat} {ls : List (Option PV)} {st : List PV} {mem : Zm} {o : Nat} (hy : y.1.cls = RX4) (hd : Dn y pc (.getfield 208) 3 pc2) (ho : shp o = (0, 4)) (kk : PW S y Q pc2 ls (Iq (mem o 14) :: st) mem) : PW S y Q pc ls (Aq o :: st) mem := pw_getf (T := TX4) (C := RX4) (N := 18) (ci := 4) (k := 14) (v := Iq (mem o 14)) hd (by rw [hy]; exact in_gt 670 (by decide +kernel) rfl) rfl inX4 (by decide) ho (fun _ => rfl) (fun h => okM_i h (fun q => by have := ho; rw [q.1] at this; cases this)) kk
theorem gf_RX4_220 {S : Sx} {y : MD} {Q : Option PV → Zm → Prop} {pc pc2 : Nat} {ls : List (Option PV)} {st : List PV} {mem : Zm} {o : Nat} (hy : y.1.cls = RX4) (hd : Dn y pc (.getfield 220) 3 pc2) (ho : shp o = (0, 4)) (kk : PW S y Q pc2 ls (Iq (mem o 13) :: st) mem) : PW S y Q pc ls (Aq o :: st) mem := pw_getf (T := TX4) (C := RX4) (N := 18) (ci := 4) (k := 13) (v := Iq (mem o 13)) hd (by rw [hy]; exact in_gt 669 (by decide +kernel) rfl) rfl inX4 (by decide) ho (fun _ => rfl) (fun h => okM_i h (fun q => by have := ho; rw [q.1] at this; cases this)) kk
theorem gf_RX4_223 {S : Sx} {y : MD} {Q : Option PV → Zm → Prop} {pc pc2 : Nat} {ls : List (Option PV)} {st : List PV} {mem : Zm} {o : Nat} (hy : y.1.cls = RX4) (hd : Dn y pc (.getfield 223) 3 pc2) (ho : shp o = (0, 4)) (kk : PW S y Q pc2 ls (Iq (mem o 16) :: st) mem) : PW S y Q pc ls (Aq o :: st) mem := pw_getf (T := TX4) (C := RX4) (N := 18) (ci := 4) (k := 16) (v := Iq (mem o 16)) hd (by rw [hy]; exact in_gt 672 (by decide +kernel) rfl) rfl inX4 (by decide) ho (fun _ => rfl) (fun h => okM_i h (fun q => by have := ho; rw [q.1] at this; cases this)) kk
theorem gf_RX4_226 {S : Sx} {y : MD} {Q : Option PV → Zm → Prop} {pc pc2 : Nat} {ls : List (Option PV)} {st : List PV} {mem : Zm} {o : Nat} (hy : y.1.cls = RX4) (hd : Dn y pc (.getfield 226) 3 pc2) (ho : shp o = (0, 4)) (kk : PW S y Q pc2 ls (Iq (mem o 17) :: st) mem) : PW S y Q pc ls (Aq o :: st) mem := pw_getf (T := TX4) (C := RX4) (N := 18) (ci := 4) (k := 17) (v := Iq (mem o 17)) hd (by rw [hy]; exact in_gt 673 (by decide +kernel) rfl) rfl inX4 (by decide) ho (fun _ => rfl) (fun h => okM_i h (fun q => by have := ho; rw [q.1] at this; cases this)) kk
theorem gf_RX4_282 {S : Sx} {y : MD} {Q : Option PV → Zm → Prop} {pc pc2 : Nat} {ls : List (Option PV)} {st : List PV} {mem : Zm} {o : Nat} (hy : y.1.cls = RX4) (hd : Dn y pc (.getfield 282) 3 pc2) (ho : shp o = (0, 4)) (kk : PW S y Q pc2 ls (Iq (mem o 4) :: st) mem) : PW S y Q pc ls (Aq o :: st) mem := pw_getf (T := TX4) (C := RX4) (N := 18) (ci := 4) (k := 4) (v := Iq (mem o 4)) hd (by rw [hy]; exact in_gt 660 (by decide +kernel) rfl) rfl inX4 (by decide) ho (fun _ => rfl) (fun h => okM_i h (fun q => by have := ho; rw [q.1] at this; cases this)) kk
theorem pf_RX4_184 {S : Sx} {y : MD} {Q : Option PV → Zm → Prop} {pc pc2 : Nat} {ls : List (Option PV)} {st : List PV} {mem : Zm} {o : Nat} {x : Int} (hy : y.1.cls = RX4) (hd : Dn y pc (.putfield 184) 3 pc2) (ho : shp o = (0, 4)) (kk : PW S y Q pc2 ls st (mup mem o 11 x)) : PW S y Q pc ls (Iq x :: Aq o :: st) mem := pw_putI (T := TX4) (C := RX4) (N := 18) (ci := 4) (k := 11) (ty := .int) (ty0 := tyX4) hd (by rw [hy]; exact in_gt 667 (by decide +kernel) rfl) rfl inX4 tyX4_ok nmX4 (by decide) rfl (by decide +kernel) rfl rfl ho (fun _ => Nat.le_of_ble_eq_true rfl) (fun _ => rfl) (fun q => by have := ho; rw [q.1] at this; cases this) kk
theorem pf_RX4_188 {S : Sx} {y : MD} {Q : Option PV → Zm → Prop} {pc pc2 : Nat} {ls : List (Option PV)} {st : List PV} {mem : Zm} {o : Nat} {x : Int} (hy : y.1.cls = RX4) (hd : Dn y pc (.putfield 188) 3 pc2) (ho : shp o = (0, 4)) (kk : PW S y Q pc2 ls st (mup mem o 12 x)) : PW S y Q pc ls (Iq x :: Aq o :: st) mem := pw_putI (T := TX4) (C := RX4) (N := 18) (ci := 4) (k := 12) (ty := .int) (ty0 := tyX4) hd (by rw [hy]; exact in_gt 668 (by decide +kernel) rfl) rfl inX4 tyX4_ok nmX4 (by decide) rfl (by decide +kernel) rfl rfl ho (fun _ => Nat.le_of_ble_eq_true rfl) (fun _ => rfl) (fun q => by have := ho; rw [q.1] at this; cases this) kk
theorem pf_RX4_202 {S : Sx} {y : MD} {Q : Option PV → Zm → Prop} {pc pc2 : Nat} {ls : List (Option PV)} {st : List PV} {mem : Zm} {o : Nat} {x : Int} (hy : y.1.cls = RX4) (hd : Dn y pc (.putfield 202) 3 pc2) (ho : shp o = (0, 4)) (kk : PW S y Q pc2 ls st (mup mem o 7 x)) : PW S y Q pc ls (Iq x :: Aq o :: st) mem := pw_putI (T := TX4) (C := RX4) (N := 18) (ci := 4) (k := 7) (ty := .int) (ty0 := tyX4) hd (by rw [hy]; exact in_gt 663 (by decide +kernel) rfl) rfl inX4 tyX4_ok nmX4 (by decide) rfl (by decide +kernel) rfl rfl ho (fun _ => Nat.le_of_ble_eq_true rfl) (fun _ => rfl) (fun q => by have := ho; rw [q.1] at this; cases this) kk
theorem pf_RX4_205 {S : Sx} {y : MD} {Q : Option PV → Zm → Prop} {pc pc2 : Nat} {ls : List (Option PV)} {st : List PV} {mem : Zm} {o : Nat} {x : Int} (hy : y.1.cls = RX4) (hd : Dn y pc (.putfield 205) 3 pc2) (ho : shp o = (0, 4)) (kk : PW S y Q pc2 ls st (mup mem o 15 x)) : PW S y Q pc ls (Iq x :: Aq o :: st) mem := pw_putI (T := TX4) (C := RX4) (N := 18) (ci := 4) (k := 15) (ty := .int) (ty0 := tyX4) hd (by rw [hy]; exact in_gt 671 (by decide +kernel) rfl) rfl inX4 tyX4_ok nmX4 (by decide) rfl (by decide +kernel) rfl rfl ho (fun _ => Nat.le_of_ble_eq_true rfl) (fun _ => rfl) (fun q => by have := ho; rw [q.1] at this; cases this) kk
theorem pf_RX4_208 {S : Sx} {y : MD} {Q : Option PV → Zm → Prop} {pc pc2 : Nat} {ls : List (Option PV)} {st : List PV} {mem : Zm} {o : Nat} {x : Int} (hy : y.1.cls = RX4) (hd : Dn y pc (.putfield 208) 3 pc2) (ho : shp o = (0, 4)) (kk : PW S y Q pc2 ls st (mup mem o 14 x)) : PW S y Q pc ls (Iq x :: Aq o :: st) mem := pw_putI (T := TX4) (C := RX4) (N := 18) (ci := 4) (k := 14) (ty := .int) (ty0 := tyX4) hd (by rw [hy]; exact in_gt 670 (by decide +kernel) rfl) rfl inX4 tyX4_ok nmX4 (by decide) rfl (by decide +kernel) rfl rfl ho (fun _ => Nat.le_of_ble_eq_true rfl) (fun _ => rfl) (fun q => by have := ho; rw [q.1] at this; cases this) kk
theorem pf_RX4_220 {S : Sx} {y : MD} {Q : Option PV → Zm → Prop} {pc pc2 : Nat} {ls : List (Option PV)} {st : List PV} {mem : Zm} {o : Nat} {x : Int} (hy : y.1.cls = RX4) (hd : Dn y pc (.putfield 220) 3 pc2) (ho : shp o = (0, 4)) (kk : PW S y Q pc2 ls st (mup mem o 13 x)) : PW S y Q pc ls (Iq x :: Aq o :: st) mem := pw_putI (T := TX4) (C := RX4) (N := 18) (ci := 4) (k := 13) (ty := .int) (ty0 := tyX4) hd (by rw [hy]; exact in_gt 669 (by decide +kernel) rfl) rfl inX4 tyX4_ok nmX4 (by decide) rfl (by decide +kernel) rfl rfl ho (fun _ => Nat.le_of_ble_eq_true rfl) (fun _ => rfl) (fun q => by have := ho; rw [q.1] at this; cases this) kk
theorem pf_RX4_223 {S : Sx} {y : MD} {Q : Option PV → Zm → Prop} {pc pc2 : Nat} {ls : List (Option PV)} {st : List PV} {mem : Zm} {o : Nat} {x : Int} (hy : y.1.cls = RX4) (hd : Dn y pc (.putfield 223) 3 pc2) (ho : shp o = (0, 4)) (kk : PW S y Q pc2 ls st (mup mem o 16 x)) : PW S y Q pc ls (Iq x :: Aq o :: st) mem := pw_putI (T := TX4) (C := RX4) (N := 18) (ci := 4) (k := 16) (ty := .int) (ty0 := tyX4) hd (by rw [hy]; exact in_gt 672 (by decide +kernel) rfl) rfl inX4 tyX4_ok nmX4 (by decide) rfl (by decide +kernel) rfl rfl ho (fun _ => Nat.le_of_ble_eq_true rfl) (fun _ => rfl) (fun q => by have := ho; rw [q.1] at this; cases this) kk
theorem pf_RX4_226 {S : Sx} {y : MD} {Q : Option PV → Zm → Prop} {pc pc2 : Nat} {ls : List (Option PV)} {st : List PV} {mem : Zm} {o : Nat} {x : Int} (hy : y.1.cls = RX4) (hd : Dn y pc (.putfield 226) 3 pc2) (ho : shp o = (0, 4)) (kk : PW S y Q pc2 ls st (mup mem o 17 x)) : PW S y Q pc ls (Iq x :: Aq o :: st) mem := pw_putI (T := TX4) (C := RX4) (N := 18) (ci := 4) (k := 17) (ty := .int) (ty0 := tyX4) hd (by rw [hy]; exact in_gt 673 (by decide +kernel) rfl) rfl inX4 tyX4_ok nmX4 (by decide) rfl (by decide +kernel) rfl rfl ho (fun _ => Nat.le_of_ble_eq_true rfl) (fun _ => rfl) (fun q => by have := ho; rw [q.1] at this; cases this) kk
theorem pf_RX4_282 {S : Sx} {y : MD} {Q : Option PV → Zm → Prop} {pc pc2 : Nat} {ls : List (Option PV)} {st : List PV} {mem : Zm} {o : Nat} {x : Int} (hy : y.1.cls = RX4) (hd : Dn y pc (.putfield 282) 3 pc2) (ho : shp o = (0, 4)) (hz : x = 0 ∨ x = 1) (kk : PW S y Q pc2 ls st (mup mem o 4 x)) : PW S y Q pc ls (Iq x :: Aq o :: st) mem := pw_putI (T := TX4) (C := RX4) (N := 18) (ci := 4) (k := 4) (ty := .boolean) (ty0 := tyX4) hd (by rw [hy]; exact in_gt 660 (by decide +kernel) rfl) rfl inX4 tyX4_ok nmX4 (by decide) rfl (by decide +kernel) (by rcases hz with rfl | rfl <;> rfl) (by rcases hz with rfl | rfl <;> rfl) ho (fun _ => Nat.le_of_ble_eq_true rfl) (fun _ => rfl) (fun q => by have := ho; rw [q.1] at this; cases this) kk
theorem lk_RL_13 : LkV RL 13 mX3_right 2 := ⟨in_gt 194 (by decide +kernel) rfl, in_gt 195 (by decide +kernel) rfl, in_gt 196 (by decide +kernel) rfl, in_gt 55 (by decide +kernel) rfl, in_gt 197 (by decide +kernel) rfl, by decide +kernel, by decide +kernel, by decide +kernel⟩
theorem lk_RL_17 : LkV RL 17 mX4_right 2 := ⟨in_gt 711 (by decide +kernel) rfl, in_gt 712 (by decide +kernel) rfl, in_gt 713 (by decide +kernel) rfl, in_gt 60 (by decide +kernel) rfl, in_gt 714 (by decide +kernel) rfl, by decide +kernel, by decide +kernel, by decide +kernel⟩
theorem lk_RL_18 : LkV RL 18 mX3_isRight 1 := ⟨in_gt 206 (by decide +kernel) rfl, in_gt 207 (by decide +kernel) rfl, in_gt 208 (by decide +kernel) rfl, in_gt 55 (by decide +kernel) rfl, in_gt 209 (by decide +kernel) rfl, by decide +kernel, by decide +kernel, by decide +kernel⟩
theorem lk_RL_22 : LkV RL 22 mX4_isRight 1 := ⟨in_gt 731 (by decide +kernel) rfl, in_gt 732 (by decide +kernel) rfl, in_gt 733 (by decide +kernel) rfl, in_gt 60 (by decide +kernel) rfl, in_gt 734 (by decide +kernel) rfl, by decide +kernel, by decide +kernel, by decide +kernel⟩
theorem lk_RL_23 : LkV RL 23 mX3_limit 1 := ⟨in_gt 210 (by decide +kernel) rfl, in_gt 211 (by decide +kernel) rfl, in_gt 212 (by decide +kernel) rfl, in_gt 55 (by decide +kernel) rfl, in_gt 213 (by decide +kernel) rfl, by decide +kernel, by decide +kernel, by decide +kernel⟩
theorem lk_RL_26 : LkV RL 26 mX4_limit 1 := ⟨in_gt 735 (by decide +kernel) rfl, in_gt 736 (by decide +kernel) rfl, in_gt 737 (by decide +kernel) rfl, in_gt 60 (by decide +kernel) rfl, in_gt 738 (by decide +kernel) rfl, by decide +kernel, by decide +kernel, by decide +kernel⟩
theorem lk_RL_27 : LkV RL 27 mX3_child 2 := ⟨in_gt 214 (by decide +kernel) rfl, in_gt 215 (by decide +kernel) rfl, in_gt 216 (by decide +kernel) rfl, in_gt 55 (by decide +kernel) rfl, in_gt 217 (by decide +kernel) rfl, by decide +kernel, by decide +kernel, by decide +kernel⟩
theorem lk_RL_30 : LkV RL 30 mX4_child 2 := ⟨in_gt 740 (by decide +kernel) rfl, in_gt 741 (by decide +kernel) rfl, in_gt 742 (by decide +kernel) rfl, in_gt 60 (by decide +kernel) rfl, in_gt 743 (by decide +kernel) rfl, by decide +kernel, by decide +kernel, by decide +kernel⟩
theorem lk_RL_31 : LkV RL 31 mX3_of 2 := ⟨in_gt 227 (by decide +kernel) rfl, in_gt 228 (by decide +kernel) rfl, in_gt 229 (by decide +kernel) rfl, in_gt 55 (by decide +kernel) rfl, in_gt 230 (by decide +kernel) rfl, by decide +kernel, by decide +kernel, by decide +kernel⟩
theorem lk_RL_34 : LkV RL 34 mX4_of 2 := ⟨in_gt 754 (by decide +kernel) rfl, in_gt 755 (by decide +kernel) rfl, in_gt 756 (by decide +kernel) rfl, in_gt 60 (by decide +kernel) rfl, in_gt 757 (by decide +kernel) rfl, by decide +kernel, by decide +kernel, by decide +kernel⟩
theorem lk_RL_35 : LkV RL 35 mX3_change 3 := ⟨in_gt 258 (by decide +kernel) rfl, in_gt 259 (by decide +kernel) rfl, in_gt 260 (by decide +kernel) rfl, in_gt 55 (by decide +kernel) rfl, in_gt 261 (by decide +kernel) rfl, by decide +kernel, by decide +kernel, by decide +kernel⟩
theorem lk_RL_39 : LkV RL 39 mX4_change 3 := ⟨in_gt 778 (by decide +kernel) rfl, in_gt 779 (by decide +kernel) rfl, in_gt 780 (by decide +kernel) rfl, in_gt 60 (by decide +kernel) rfl, in_gt 781 (by decide +kernel) rfl, by decide +kernel, by decide +kernel, by decide +kernel⟩
theorem lk_RL_40 : LkV RL 40 mX3_answer 2 := ⟨in_gt 267 (by decide +kernel) rfl, in_gt 268 (by decide +kernel) rfl, in_gt 269 (by decide +kernel) rfl, in_gt 55 (by decide +kernel) rfl, in_gt 270 (by decide +kernel) rfl, by decide +kernel, by decide +kernel, by decide +kernel⟩
theorem lk_RL_43 : LkV RL 43 mX4_answer 2 := ⟨in_gt 788 (by decide +kernel) rfl, in_gt 789 (by decide +kernel) rfl, in_gt 790 (by decide +kernel) rfl, in_gt 60 (by decide +kernel) rfl, in_gt 791 (by decide +kernel) rfl, by decide +kernel, by decide +kernel, by decide +kernel⟩
theorem lk_RL_44 : LkV RL 44 mX3_slips 3 := ⟨in_gt 272 (by decide +kernel) rfl, in_gt 273 (by decide +kernel) rfl, in_gt 274 (by decide +kernel) rfl, in_gt 55 (by decide +kernel) rfl, in_gt 275 (by decide +kernel) rfl, by decide +kernel, by decide +kernel, by decide +kernel⟩
theorem lk_RL_47 : LkV RL 47 mX4_slips 3 := ⟨in_gt 792 (by decide +kernel) rfl, in_gt 793 (by decide +kernel) rfl, in_gt 794 (by decide +kernel) rfl, in_gt 60 (by decide +kernel) rfl, in_gt 795 (by decide +kernel) rfl, by decide +kernel, by decide +kernel, by decide +kernel⟩
theorem lk_RL_48 : LkV RL 48 mX3_alike 2 := ⟨in_gt 286 (by decide +kernel) rfl, in_gt 287 (by decide +kernel) rfl, in_gt 288 (by decide +kernel) rfl, in_gt 55 (by decide +kernel) rfl, in_gt 289 (by decide +kernel) rfl, by decide +kernel, by decide +kernel, by decide +kernel⟩
theorem lk_RL_51 : LkV RL 51 mX4_alike 2 := ⟨in_gt 804 (by decide +kernel) rfl, in_gt 805 (by decide +kernel) rfl, in_gt 806 (by decide +kernel) rfl, in_gt 60 (by decide +kernel) rfl, in_gt 807 (by decide +kernel) rfl, by decide +kernel, by decide +kernel, by decide +kernel⟩
theorem lk_RL_52 : LkV RL 52 mX3_go 1 := ⟨in_gt 302 (by decide +kernel) rfl, in_gt 303 (by decide +kernel) rfl, in_gt 304 (by decide +kernel) rfl, in_gt 55 (by decide +kernel) rfl, in_gt 305 (by decide +kernel) rfl, by decide +kernel, by decide +kernel, by decide +kernel⟩
theorem lk_RL_55 : LkV RL 55 mX4_go 1 := ⟨in_gt 812 (by decide +kernel) rfl, in_gt 813 (by decide +kernel) rfl, in_gt 814 (by decide +kernel) rfl, in_gt 60 (by decide +kernel) rfl, in_gt 815 (by decide +kernel) rfl, by decide +kernel, by decide +kernel, by decide +kernel⟩
theorem lk_RL_56 : LkV RL 56 mX3_now 1 := ⟨in_gt 354 (by decide +kernel) rfl, in_gt 355 (by decide +kernel) rfl, in_gt 356 (by decide +kernel) rfl, in_gt 55 (by decide +kernel) rfl, in_gt 357 (by decide +kernel) rfl, by decide +kernel, by decide +kernel, by decide +kernel⟩
theorem lk_RL_59 : LkV RL 59 mX4_now 1 := ⟨in_gt 849 (by decide +kernel) rfl, in_gt 850 (by decide +kernel) rfl, in_gt 851 (by decide +kernel) rfl, in_gt 60 (by decide +kernel) rfl, in_gt 852 (by decide +kernel) rfl, by decide +kernel, by decide +kernel, by decide +kernel⟩
theorem lk_RL_60 : LkV RL 60 mX3_chain 1 := ⟨in_gt 370 (by decide +kernel) rfl, in_gt 371 (by decide +kernel) rfl, in_gt 372 (by decide +kernel) rfl, in_gt 55 (by decide +kernel) rfl, in_gt 373 (by decide +kernel) rfl, by decide +kernel, by decide +kernel, by decide +kernel⟩
theorem lk_RL_63 : LkV RL 63 mX4_chain 1 := ⟨in_gt 868 (by decide +kernel) rfl, in_gt 869 (by decide +kernel) rfl, in_gt 870 (by decide +kernel) rfl, in_gt 60 (by decide +kernel) rfl, in_gt 871 (by decide +kernel) rfl, by decide +kernel, by decide +kernel, by decide +kernel⟩
theorem lk_RL_64 : LkV RL 64 mX3_ahead 3 := ⟨in_gt 378 (by decide +kernel) rfl, in_gt 379 (by decide +kernel) rfl, in_gt 380 (by decide +kernel) rfl, in_gt 55 (by decide +kernel) rfl, in_gt 381 (by decide +kernel) rfl, by decide +kernel, by decide +kernel, by decide +kernel⟩
theorem lk_RL_67 : LkV RL 67 mX4_ahead 3 := ⟨in_gt 872 (by decide +kernel) rfl, in_gt 873 (by decide +kernel) rfl, in_gt 874 (by decide +kernel) rfl, in_gt 60 (by decide +kernel) rfl, in_gt 875 (by decide +kernel) rfl, by decide +kernel, by decide +kernel, by decide +kernel⟩
theorem lk_RL_68 : LkV RL 68 mX3_writes 3 := ⟨in_gt 389 (by decide +kernel) rfl, in_gt 390 (by decide +kernel) rfl, in_gt 391 (by decide +kernel) rfl, in_gt 55 (by decide +kernel) rfl, in_gt 392 (by decide +kernel) rfl, by decide +kernel, by decide +kernel, by decide +kernel⟩
theorem lk_RL_71 : LkV RL 71 mX4_writes 3 := ⟨in_gt 885 (by decide +kernel) rfl, in_gt 886 (by decide +kernel) rfl, in_gt 887 (by decide +kernel) rfl, in_gt 60 (by decide +kernel) rfl, in_gt 888 (by decide +kernel) rfl, by decide +kernel, by decide +kernel, by decide +kernel⟩
theorem lk_RL_72 : LkV RL 72 mX3_caught 1 := ⟨in_gt 393 (by decide +kernel) rfl, in_gt 394 (by decide +kernel) rfl, in_gt 395 (by decide +kernel) rfl, in_gt 55 (by decide +kernel) rfl, in_gt 396 (by decide +kernel) rfl, by decide +kernel, by decide +kernel, by decide +kernel⟩
theorem lk_RL_75 : LkV RL 75 mX4_caught 1 := ⟨in_gt 889 (by decide +kernel) rfl, in_gt 890 (by decide +kernel) rfl, in_gt 891 (by decide +kernel) rfl, in_gt 60 (by decide +kernel) rfl, in_gt 892 (by decide +kernel) rfl, by decide +kernel, by decide +kernel, by decide +kernel⟩
theorem lk_RL_76 : LkV RL 76 mX3_when 2 := ⟨in_gt 402 (by decide +kernel) rfl, in_gt 403 (by decide +kernel) rfl, in_gt 404 (by decide +kernel) rfl, in_gt 55 (by decide +kernel) rfl, in_gt 405 (by decide +kernel) rfl, by decide +kernel, by decide +kernel, by decide +kernel⟩
theorem lk_RL_79 : LkV RL 79 mX4_when 2 := ⟨in_gt 894 (by decide +kernel) rfl, in_gt 895 (by decide +kernel) rfl, in_gt 896 (by decide +kernel) rfl, in_gt 60 (by decide +kernel) rfl, in_gt 897 (by decide +kernel) rfl, by decide +kernel, by decide +kernel, by decide +kernel⟩
theorem lk_RL_80 : LkV RL 80 mX3_copyFrom 2 := ⟨in_gt 406 (by decide +kernel) rfl, in_gt 407 (by decide +kernel) rfl, in_gt 408 (by decide +kernel) rfl, in_gt 55 (by decide +kernel) rfl, in_gt 409 (by decide +kernel) rfl, by decide +kernel, by decide +kernel, by decide +kernel⟩
theorem lk_RL_83 : LkV RL 83 mX4_copyFrom 2 := ⟨in_gt 898 (by decide +kernel) rfl, in_gt 899 (by decide +kernel) rfl, in_gt 900 (by decide +kernel) rfl, in_gt 60 (by decide +kernel) rfl, in_gt 901 (by decide +kernel) rfl, by decide +kernel, by decide +kernel, by decide +kernel⟩
theorem lk_RL_84 : LkV RL 84 mX3_kindFor 2 := ⟨in_gt 414 (by decide +kernel) rfl, in_gt 415 (by decide +kernel) rfl, in_gt 416 (by decide +kernel) rfl, in_gt 55 (by decide +kernel) rfl, in_gt 417 (by decide +kernel) rfl, by decide +kernel, by decide +kernel, by decide +kernel⟩
theorem lk_RL_87 : LkV RL 87 mX4_kindFor 2 := ⟨in_gt 907 (by decide +kernel) rfl, in_gt 908 (by decide +kernel) rfl, in_gt 909 (by decide +kernel) rfl, in_gt 60 (by decide +kernel) rfl, in_gt 910 (by decide +kernel) rfl, by decide +kernel, by decide +kernel, by decide +kernel⟩
theorem lk_RL_88 : LkV RL 88 mX3_learn 2 := ⟨in_gt 418 (by decide +kernel) rfl, in_gt 419 (by decide +kernel) rfl, in_gt 420 (by decide +kernel) rfl, in_gt 55 (by decide +kernel) rfl, in_gt 421 (by decide +kernel) rfl, by decide +kernel, by decide +kernel, by decide +kernel⟩
theorem lk_RL_91 : LkV RL 91 mX4_learn 2 := ⟨in_gt 911 (by decide +kernel) rfl, in_gt 912 (by decide +kernel) rfl, in_gt 913 (by decide +kernel) rfl, in_gt 60 (by decide +kernel) rfl, in_gt 914 (by decide +kernel) rfl, by decide +kernel, by decide +kernel, by decide +kernel⟩
theorem lk_RL_92 : LkV RL 92 mX3_limitFor 1 := ⟨in_gt 422 (by decide +kernel) rfl, in_gt 423 (by decide +kernel) rfl, in_gt 424 (by decide +kernel) rfl, in_gt 55 (by decide +kernel) rfl, in_gt 425 (by decide +kernel) rfl, by decide +kernel, by decide +kernel, by decide +kernel⟩
theorem lk_RL_95 : LkV RL 95 mX4_limitFor 1 := ⟨in_gt 915 (by decide +kernel) rfl, in_gt 916 (by decide +kernel) rfl, in_gt 917 (by decide +kernel) rfl, in_gt 60 (by decide +kernel) rfl, in_gt 918 (by decide +kernel) rfl, by decide +kernel, by decide +kernel, by decide +kernel⟩
theorem lk_RL_96 : LkV RL 96 mX3_forbid 1 := ⟨in_gt 430 (by decide +kernel) rfl, in_gt 431 (by decide +kernel) rfl, in_gt 432 (by decide +kernel) rfl, in_gt 55 (by decide +kernel) rfl, in_gt 433 (by decide +kernel) rfl, by decide +kernel, by decide +kernel, by decide +kernel⟩
theorem lk_RL_99 : LkV RL 99 mX4_forbid 1 := ⟨in_gt 927 (by decide +kernel) rfl, in_gt 928 (by decide +kernel) rfl, in_gt 929 (by decide +kernel) rfl, in_gt 60 (by decide +kernel) rfl, in_gt 930 (by decide +kernel) rfl, by decide +kernel, by decide +kernel, by decide +kernel⟩
theorem lk_RL_100 : LkV RL 100 mX3_biscuitsFor 2 := ⟨in_gt 439 (by decide +kernel) rfl, in_gt 440 (by decide +kernel) rfl, in_gt 441 (by decide +kernel) rfl, in_gt 55 (by decide +kernel) rfl, in_gt 442 (by decide +kernel) rfl, by decide +kernel, by decide +kernel, by decide +kernel⟩
theorem lk_RL_103 : LkV RL 103 mX4_biscuitsFor 2 := ⟨in_gt 932 (by decide +kernel) rfl, in_gt 933 (by decide +kernel) rfl, in_gt 934 (by decide +kernel) rfl, in_gt 60 (by decide +kernel) rfl, in_gt 935 (by decide +kernel) rfl, by decide +kernel, by decide +kernel, by decide +kernel⟩
theorem lk_RL_104 : LkV RL 104 mX3_sources 2 := ⟨in_gt 443 (by decide +kernel) rfl, in_gt 444 (by decide +kernel) rfl, in_gt 445 (by decide +kernel) rfl, in_gt 55 (by decide +kernel) rfl, in_gt 446 (by decide +kernel) rfl, by decide +kernel, by decide +kernel, by decide +kernel⟩
theorem lk_RL_107 : LkV RL 107 mX4_sources 2 := ⟨in_gt 936 (by decide +kernel) rfl, in_gt 937 (by decide +kernel) rfl, in_gt 938 (by decide +kernel) rfl, in_gt 60 (by decide +kernel) rfl, in_gt 939 (by decide +kernel) rfl, by decide +kernel, by decide +kernel, by decide +kernel⟩
theorem lk_RL_108 : LkV RL 108 mX3_fits 2 := ⟨in_gt 468 (by decide +kernel) rfl, in_gt 469 (by decide +kernel) rfl, in_gt 470 (by decide +kernel) rfl, in_gt 55 (by decide +kernel) rfl, in_gt 471 (by decide +kernel) rfl, by decide +kernel, by decide +kernel, by decide +kernel⟩
theorem lk_RL_111 : LkV RL 111 mX4_fits 2 := ⟨in_gt 956 (by decide +kernel) rfl, in_gt 957 (by decide +kernel) rfl, in_gt 958 (by decide +kernel) rfl, in_gt 60 (by decide +kernel) rfl, in_gt 959 (by decide +kernel) rfl, by decide +kernel, by decide +kernel, by decide +kernel⟩
theorem lk_RL_112 : LkV RL 112 mX3_knew 2 := ⟨in_gt 484 (by decide +kernel) rfl, in_gt 485 (by decide +kernel) rfl, in_gt 486 (by decide +kernel) rfl, in_gt 55 (by decide +kernel) rfl, in_gt 487 (by decide +kernel) rfl, by decide +kernel, by decide +kernel, by decide +kernel⟩
theorem lk_RL_115 : LkV RL 115 mX4_knew 2 := ⟨in_gt 964 (by decide +kernel) rfl, in_gt 965 (by decide +kernel) rfl, in_gt 966 (by decide +kernel) rfl, in_gt 60 (by decide +kernel) rfl, in_gt 967 (by decide +kernel) rfl, by decide +kernel, by decide +kernel, by decide +kernel⟩
theorem lk_RL_116 : LkV RL 116 mX3_kinds 2 := ⟨in_gt 488 (by decide +kernel) rfl, in_gt 489 (by decide +kernel) rfl, in_gt 490 (by decide +kernel) rfl, in_gt 55 (by decide +kernel) rfl, in_gt 491 (by decide +kernel) rfl, by decide +kernel, by decide +kernel, by decide +kernel⟩
theorem lk_RL_119 : LkV RL 119 mX4_kinds 2 := ⟨in_gt 968 (by decide +kernel) rfl, in_gt 969 (by decide +kernel) rfl, in_gt 970 (by decide +kernel) rfl, in_gt 60 (by decide +kernel) rfl, in_gt 971 (by decide +kernel) rfl, by decide +kernel, by decide +kernel, by decide +kernel⟩
theorem lk_RL_120 : LkV RL 120 mX3_seats 1 := ⟨in_gt 492 (by decide +kernel) rfl, in_gt 493 (by decide +kernel) rfl, in_gt 494 (by decide +kernel) rfl, in_gt 55 (by decide +kernel) rfl, in_gt 495 (by decide +kernel) rfl, by decide +kernel, by decide +kernel, by decide +kernel⟩
theorem lk_RL_123 : LkV RL 123 mX4_seats 1 := ⟨in_gt 972 (by decide +kernel) rfl, in_gt 973 (by decide +kernel) rfl, in_gt 974 (by decide +kernel) rfl, in_gt 60 (by decide +kernel) rfl, in_gt 975 (by decide +kernel) rfl, by decide +kernel, by decide +kernel, by decide +kernel⟩
theorem lk_RL_124 : LkV RL 124 mX3_odds 3 := ⟨in_gt 501 (by decide +kernel) rfl, in_gt 502 (by decide +kernel) rfl, in_gt 503 (by decide +kernel) rfl, in_gt 55 (by decide +kernel) rfl, in_gt 504 (by decide +kernel) rfl, by decide +kernel, by decide +kernel, by decide +kernel⟩
theorem lk_RL_128 : LkV RL 128 mX4_odds 3 := ⟨in_gt 981 (by decide +kernel) rfl, in_gt 982 (by decide +kernel) rfl, in_gt 983 (by decide +kernel) rfl, in_gt 60 (by decide +kernel) rfl, in_gt 984 (by decide +kernel) rfl, by decide +kernel, by decide +kernel, by decide +kernel⟩
theorem lk_RL_129 : LkV RL 129 mX3_seed 1 := ⟨in_gt 508 (by decide +kernel) rfl, in_gt 509 (by decide +kernel) rfl, in_gt 510 (by decide +kernel) rfl, in_gt 55 (by decide +kernel) rfl, in_gt 511 (by decide +kernel) rfl, by decide +kernel, by decide +kernel, by decide +kernel⟩
theorem lk_RL_132 : LkV RL 132 mX4_seed 1 := ⟨in_gt 986 (by decide +kernel) rfl, in_gt 987 (by decide +kernel) rfl, in_gt 988 (by decide +kernel) rfl, in_gt 60 (by decide +kernel) rfl, in_gt 989 (by decide +kernel) rfl, by decide +kernel, by decide +kernel, by decide +kernel⟩
theorem lk_RL_133 : LkV RL 133 mX3_feed 2 := ⟨in_gt 512 (by decide +kernel) rfl, in_gt 513 (by decide +kernel) rfl, in_gt 514 (by decide +kernel) rfl, in_gt 55 (by decide +kernel) rfl, in_gt 515 (by decide +kernel) rfl, by decide +kernel, by decide +kernel, by decide +kernel⟩
theorem lk_RL_136 : LkV RL 136 mX4_feed 2 := ⟨in_gt 990 (by decide +kernel) rfl, in_gt 991 (by decide +kernel) rfl, in_gt 992 (by decide +kernel) rfl, in_gt 60 (by decide +kernel) rfl, in_gt 993 (by decide +kernel) rfl, by decide +kernel, by decide +kernel, by decide +kernel⟩
theorem lk_RL_137 : LkV RL 137 mX3_wipe 0 := ⟨in_gt 520 (by decide +kernel) rfl, in_gt 521 (by decide +kernel) rfl, in_gt 522 (by decide +kernel) rfl, in_gt 55 (by decide +kernel) rfl, in_gt 523 (by decide +kernel) rfl, by decide +kernel, by decide +kernel, by decide +kernel⟩
theorem lk_RL_141 : LkV RL 141 mX4_wipe 0 := ⟨in_gt 995 (by decide +kernel) rfl, in_gt 996 (by decide +kernel) rfl, in_gt 997 (by decide +kernel) rfl, in_gt 60 (by decide +kernel) rfl, in_gt 998 (by decide +kernel) rfl, by decide +kernel, by decide +kernel, by decide +kernel⟩
theorem lk_RL_142 : LkV RL 142 mX3_text 0 := ⟨in_gt 524 (by decide +kernel) rfl, in_gt 525 (by decide +kernel) rfl, in_gt 526 (by decide +kernel) rfl, in_gt 55 (by decide +kernel) rfl, in_gt 527 (by decide +kernel) rfl, by decide +kernel, by decide +kernel, by decide +kernel⟩
theorem lk_RL_145 : LkV RL 145 mX4_text 0 := ⟨in_gt 999 (by decide +kernel) rfl, in_gt 1000 (by decide +kernel) rfl, in_gt 1001 (by decide +kernel) rfl, in_gt 60 (by decide +kernel) rfl, in_gt 1002 (by decide +kernel) rfl, by decide +kernel, by decide +kernel, by decide +kernel⟩
theorem lk_RL_146 : LkV RL 146 mX3_hold 2 := ⟨in_gt 577 (by decide +kernel) rfl, in_gt 578 (by decide +kernel) rfl, in_gt 579 (by decide +kernel) rfl, in_gt 55 (by decide +kernel) rfl, in_gt 580 (by decide +kernel) rfl, by decide +kernel, by decide +kernel, by decide +kernel⟩
theorem lk_RL_149 : LkV RL 149 mX4_hold 2 := ⟨in_gt 1065 (by decide +kernel) rfl, in_gt 1066 (by decide +kernel) rfl, in_gt 1067 (by decide +kernel) rfl, in_gt 60 (by decide +kernel) rfl, in_gt 1068 (by decide +kernel) rfl, by decide +kernel, by decide +kernel, by decide +kernel⟩
theorem lk_RL_150 : LkV RL 150 mX3_as 2 := ⟨in_gt 581 (by decide +kernel) rfl, in_gt 582 (by decide +kernel) rfl, in_gt 583 (by decide +kernel) rfl, in_gt 55 (by decide +kernel) rfl, in_gt 584 (by decide +kernel) rfl, by decide +kernel, by decide +kernel, by decide +kernel⟩
theorem lk_RL_153 : LkV RL 153 mX4_as 2 := ⟨in_gt 1069 (by decide +kernel) rfl, in_gt 1070 (by decide +kernel) rfl, in_gt 1071 (by decide +kernel) rfl, in_gt 60 (by decide +kernel) rfl, in_gt 1072 (by decide +kernel) rfl, by decide +kernel, by decide +kernel, by decide +kernel⟩
theorem lk_RL_154 : LkV RL 154 mX3_sheet 3 := ⟨in_gt 591 (by decide +kernel) rfl, in_gt 592 (by decide +kernel) rfl, in_gt 593 (by decide +kernel) rfl, in_gt 55 (by decide +kernel) rfl, in_gt 594 (by decide +kernel) rfl, by decide +kernel, by decide +kernel, by decide +kernel⟩
theorem lk_RL_157 : LkV RL 157 mX4_sheet 3 := ⟨in_gt 1077 (by decide +kernel) rfl, in_gt 1078 (by decide +kernel) rfl, in_gt 1079 (by decide +kernel) rfl, in_gt 60 (by decide +kernel) rfl, in_gt 1080 (by decide +kernel) rfl, by decide +kernel, by decide +kernel, by decide +kernel⟩
theorem lk_RL_158 : LkV RL 158 mX3_write 3 := ⟨in_gt 601 (by decide +kernel) rfl, in_gt 602 (by decide +kernel) rfl, in_gt 603 (by decide +kernel) rfl, in_gt 55 (by decide +kernel) rfl, in_gt 604 (by decide +kernel) rfl, by decide +kernel, by decide +kernel, by decide +kernel⟩
theorem lk_RL_161 : LkV RL 161 mX4_write 3 := ⟨in_gt 1082 (by decide +kernel) rfl, in_gt 1083 (by decide +kernel) rfl, in_gt 1084 (by decide +kernel) rfl, in_gt 60 (by decide +kernel) rfl, in_gt 1085 (by decide +kernel) rfl, by decide +kernel, by decide +kernel, by decide +kernel⟩
theorem lk_RL_162 : LkV RL 162 mX3_copy 5 := ⟨in_gt 609 (by decide +kernel) rfl, in_gt 610 (by decide +kernel) rfl, in_gt 611 (by decide +kernel) rfl, in_gt 55 (by decide +kernel) rfl, in_gt 612 (by decide +kernel) rfl, by decide +kernel, by decide +kernel, by decide +kernel⟩
theorem lk_RL_166 : LkV RL 166 mX4_copy 5 := ⟨in_gt 1086 (by decide +kernel) rfl, in_gt 1087 (by decide +kernel) rfl, in_gt 1088 (by decide +kernel) rfl, in_gt 60 (by decide +kernel) rfl, in_gt 1089 (by decide +kernel) rfl, by decide +kernel, by decide +kernel, by decide +kernel⟩
theorem lk_RL_167 : LkV RL 167 mX3_load 1 := ⟨in_gt 618 (by decide +kernel) rfl, in_gt 619 (by decide +kernel) rfl, in_gt 620 (by decide +kernel) rfl, in_gt 55 (by decide +kernel) rfl, in_gt 621 (by decide +kernel) rfl, by decide +kernel, by decide +kernel, by decide +kernel⟩
theorem lk_RL_170 : LkV RL 170 mX4_load 1 := ⟨in_gt 1090 (by decide +kernel) rfl, in_gt 1091 (by decide +kernel) rfl, in_gt 1092 (by decide +kernel) rfl, in_gt 60 (by decide +kernel) rfl, in_gt 1093 (by decide +kernel) rfl, by decide +kernel, by decide +kernel, by decide +kernel⟩
theorem lk_RL_171 : LkV RL 171 mX3_judge 1 := ⟨in_gt 622 (by decide +kernel) rfl, in_gt 623 (by decide +kernel) rfl, in_gt 624 (by decide +kernel) rfl, in_gt 55 (by decide +kernel) rfl, in_gt 625 (by decide +kernel) rfl, by decide +kernel, by decide +kernel, by decide +kernel⟩
theorem lk_RL_174 : LkV RL 174 mX4_judge 1 := ⟨in_gt 1094 (by decide +kernel) rfl, in_gt 1095 (by decide +kernel) rfl, in_gt 1096 (by decide +kernel) rfl, in_gt 60 (by decide +kernel) rfl, in_gt 1097 (by decide +kernel) rfl, by decide +kernel, by decide +kernel, by decide +kernel⟩
theorem lk_RL_175 : LkV RL 175 mX3_image 0 := ⟨in_gt 626 (by decide +kernel) rfl, in_gt 627 (by decide +kernel) rfl, in_gt 628 (by decide +kernel) rfl, in_gt 55 (by decide +kernel) rfl, in_gt 629 (by decide +kernel) rfl, by decide +kernel, by decide +kernel, by decide +kernel⟩
theorem lk_RL_178 : LkV RL 178 mX4_image 0 := ⟨in_gt 1098 (by decide +kernel) rfl, in_gt 1099 (by decide +kernel) rfl, in_gt 1100 (by decide +kernel) rfl, in_gt 60 (by decide +kernel) rfl, in_gt 1101 (by decide +kernel) rfl, by decide +kernel, by decide +kernel, by decide +kernel⟩
theorem lk_RL_179 : LkV RL 179 mX3_undo 0 := ⟨in_gt 630 (by decide +kernel) rfl, in_gt 631 (by decide +kernel) rfl, in_gt 632 (by decide +kernel) rfl, in_gt 55 (by decide +kernel) rfl, in_gt 633 (by decide +kernel) rfl, by decide +kernel, by decide +kernel, by decide +kernel⟩
theorem lk_RL_182 : LkV RL 182 mX4_undo 0 := ⟨in_gt 1102 (by decide +kernel) rfl, in_gt 1103 (by decide +kernel) rfl, in_gt 1104 (by decide +kernel) rfl, in_gt 60 (by decide +kernel) rfl, in_gt 1105 (by decide +kernel) rfl, by decide +kernel, by decide +kernel, by decide +kernel⟩
theorem lk_RL_183 : LkV RL 183 mX3_tear 0 := ⟨in_gt 634 (by decide +kernel) rfl, in_gt 635 (by decide +kernel) rfl, in_gt 636 (by decide +kernel) rfl, in_gt 55 (by decide +kernel) rfl, in_gt 637 (by decide +kernel) rfl, by decide +kernel, by decide +kernel, by decide +kernel⟩
theorem lk_RL_186 : LkV RL 186 mX4_tear 0 := ⟨in_gt 1106 (by decide +kernel) rfl, in_gt 1107 (by decide +kernel) rfl, in_gt 1108 (by decide +kernel) rfl, in_gt 60 (by decide +kernel) rfl, in_gt 1109 (by decide +kernel) rfl, by decide +kernel, by decide +kernel, by decide +kernel⟩
theorem lk_RL_187 : LkV RL 187 mX3_count 1 := ⟨in_gt 638 (by decide +kernel) rfl, in_gt 639 (by decide +kernel) rfl, in_gt 640 (by decide +kernel) rfl, in_gt 55 (by decide +kernel) rfl, in_gt 641 (by decide +kernel) rfl, by decide +kernel, by decide +kernel, by decide +kernel⟩
theorem lk_RL_190 : LkV RL 190 mX4_count 1 := ⟨in_gt 1110 (by decide +kernel) rfl, in_gt 1111 (by decide +kernel) rfl, in_gt 1112 (by decide +kernel) rfl, in_gt 60 (by decide +kernel) rfl, in_gt 1113 (by decide +kernel) rfl, by decide +kernel, by decide +kernel, by decide +kernel⟩
theorem lk_RL_191 : LkV RL 191 mX3_status 1 := ⟨in_gt 646 (by decide +kernel) rfl, in_gt 647 (by decide +kernel) rfl, in_gt 648 (by decide +kernel) rfl, in_gt 55 (by decide +kernel) rfl, in_gt 649 (by decide +kernel) rfl, by decide +kernel, by decide +kernel, by decide +kernel⟩
theorem lk_RL_194 : LkV RL 194 mX4_status 1 := ⟨in_gt 1114 (by decide +kernel) rfl, in_gt 1115 (by decide +kernel) rfl, in_gt 1116 (by decide +kernel) rfl, in_gt 60 (by decide +kernel) rfl, in_gt 1117 (by decide +kernel) rfl, by decide +kernel, by decide +kernel, by decide +kernel⟩
theorem lc_RX0_49 : Cond.methodLink RX0 49 arraycopyName ∈ gtbl := in_gt 386 (by decide +kernel) rfl
theorem lk_RX0_66 : LkS RX0 66 mX0_exchanged 2 := ⟨in_gt 280 (by decide +kernel) rfl, in_gt 281 (by decide +kernel) rfl, in_gt 56 (by decide +kernel) rfl, in_gt 282 (by decide +kernel) rfl, by decide +kernel, by decide +kernel, by decide +kernel⟩
theorem lk_RX0_69 : LkS RX0 69 mX0_onesForSevens 1 := ⟨in_gt 283 (by decide +kernel) rfl, in_gt 284 (by decide +kernel) rfl, in_gt 56 (by decide +kernel) rfl, in_gt 285 (by decide +kernel) rfl, by decide +kernel, by decide +kernel, by decide +kernel⟩
theorem lk_RX0_107 : LkS RX0 107 mJ9_min_7cf53 2 := ⟨in_gt 328 (by decide +kernel) rfl, in_gt 329 (by decide +kernel) rfl, in_gt 61 (by decide +kernel) rfl, in_gt 330 (by decide +kernel) rfl, by decide +kernel, by decide +kernel, by decide +kernel⟩
theorem lk_RX0_117 : LkS RX0 117 mJ6_bitCount_0f7a4 1 := ⟨in_gt 339 (by decide +kernel) rfl, in_gt 340 (by decide +kernel) rfl, in_gt 62 (by decide +kernel) rfl, in_gt 341 (by decide +kernel) rfl, by decide +kernel, by decide +kernel, by decide +kernel⟩
theorem lk_RX0_55 : LkV RX0 55 mX0_setFact 3 := ⟨in_gt 223 (by decide +kernel) rfl, in_gt 224 (by decide +kernel) rfl, in_gt 225 (by decide +kernel) rfl, in_gt 56 (by decide +kernel) rfl, in_gt 226 (by decide +kernel) rfl, by decide +kernel, by decide +kernel, by decide +kernel⟩
theorem lk_RX0_59 : LkV RX0 59 mX0_fact 2 := ⟨in_gt 241 (by decide +kernel) rfl, in_gt 242 (by decide +kernel) rfl, in_gt 243 (by decide +kernel) rfl, in_gt 56 (by decide +kernel) rfl, in_gt 244 (by decide +kernel) rfl, by decide +kernel, by decide +kernel, by decide +kernel⟩
theorem lk_RX0_73 : LkV RX0 73 mX0_writeAnswers 1 := ⟨in_gt 312 (by decide +kernel) rfl, in_gt 313 (by decide +kernel) rfl, in_gt 314 (by decide +kernel) rfl, in_gt 56 (by decide +kernel) rfl, in_gt 315 (by decide +kernel) rfl, by decide +kernel, by decide +kernel, by decide +kernel⟩
theorem lk_RX0_77 : LkV RX0 77 mX0_markAnswers 0 := ⟨in_gt 331 (by decide +kernel) rfl, in_gt 332 (by decide +kernel) rfl, in_gt 333 (by decide +kernel) rfl, in_gt 56 (by decide +kernel) rfl, in_gt 334 (by decide +kernel) rfl, by decide +kernel, by decide +kernel, by decide +kernel⟩
theorem lk_RX0_80 : LkV RX0 80 mX0_turnDay 0 := ⟨in_gt 345 (by decide +kernel) rfl, in_gt 346 (by decide +kernel) rfl, in_gt 347 (by decide +kernel) rfl, in_gt 56 (by decide +kernel) rfl, in_gt 348 (by decide +kernel) rfl, by decide +kernel, by decide +kernel, by decide +kernel⟩
theorem lk_RX0_83 : LkV RX0 83 mX0_sourceToday 1 := ⟨in_gt 316 (by decide +kernel) rfl, in_gt 317 (by decide +kernel) rfl, in_gt 318 (by decide +kernel) rfl, in_gt 56 (by decide +kernel) rfl, in_gt 319 (by decide +kernel) rfl, by decide +kernel, by decide +kernel, by decide +kernel⟩
theorem lk_RX0_86 : LkV RX0 86 mX0_answerOf 2 := ⟨in_gt 253 (by decide +kernel) rfl, in_gt 254 (by decide +kernel) rfl, in_gt 255 (by decide +kernel) rfl, in_gt 56 (by decide +kernel) rfl, in_gt 256 (by decide +kernel) rfl, by decide +kernel, by decide +kernel, by decide +kernel⟩
theorem lk_RX0_89 : LkV RX0 89 mX0_slipOf 3 := ⟨in_gt 323 (by decide +kernel) rfl, in_gt 277 (by decide +kernel) rfl, in_gt 278 (by decide +kernel) rfl, in_gt 56 (by decide +kernel) rfl, in_gt 279 (by decide +kernel) rfl, by decide +kernel, by decide +kernel, by decide +kernel⟩
theorem lk_RX0_93 : LkV RX0 93 mX0_payFor 2 := ⟨in_gt 324 (by decide +kernel) rfl, in_gt 325 (by decide +kernel) rfl, in_gt 326 (by decide +kernel) rfl, in_gt 56 (by decide +kernel) rfl, in_gt 327 (by decide +kernel) rfl, by decide +kernel, by decide +kernel, by decide +kernel⟩
theorem lk_RX0_97 : LkV RX0 97 mX0_has 1 := ⟨in_gt 320 (by decide +kernel) rfl, in_gt 232 (by decide +kernel) rfl, in_gt 233 (by decide +kernel) rfl, in_gt 56 (by decide +kernel) rfl, in_gt 234 (by decide +kernel) rfl, by decide +kernel, by decide +kernel, by decide +kernel⟩
theorem lk_RX0_101 : LkV RX0 101 mX0_isLending 1 := ⟨in_gt 321 (by decide +kernel) rfl, in_gt 246 (by decide +kernel) rfl, in_gt 247 (by decide +kernel) rfl, in_gt 56 (by decide +kernel) rfl, in_gt 248 (by decide +kernel) rfl, by decide +kernel, by decide +kernel, by decide +kernel⟩
theorem lk_RX0_104 : LkV RX0 104 mX0_price 1 := ⟨in_gt 322 (by decide +kernel) rfl, in_gt 236 (by decide +kernel) rfl, in_gt 237 (by decide +kernel) rfl, in_gt 56 (by decide +kernel) rfl, in_gt 238 (by decide +kernel) rfl, by decide +kernel, by decide +kernel, by decide +kernel⟩
theorem lk_RX0_112 : LkV RX0 112 mX0_childrenAlike 0 := ⟨in_gt 335 (by decide +kernel) rfl, in_gt 336 (by decide +kernel) rfl, in_gt 337 (by decide +kernel) rfl, in_gt 56 (by decide +kernel) rfl, in_gt 338 (by decide +kernel) rfl, by decide +kernel, by decide +kernel, by decide +kernel⟩
theorem lk_RX0_122 : LkV RX0 122 mX0_sameAmong 3 := ⟨in_gt 298 (by decide +kernel) rfl, in_gt 299 (by decide +kernel) rfl, in_gt 300 (by decide +kernel) rfl, in_gt 56 (by decide +kernel) rfl, in_gt 301 (by decide +kernel) rfl, by decide +kernel, by decide +kernel, by decide +kernel⟩
theorem lk_RX0_125 : LkV RX0 125 mX0_wrongSums 1 := ⟨in_gt 294 (by decide +kernel) rfl, in_gt 295 (by decide +kernel) rfl, in_gt 296 (by decide +kernel) rfl, in_gt 56 (by decide +kernel) rfl, in_gt 297 (by decide +kernel) rfl, by decide +kernel, by decide +kernel, by decide +kernel⟩
theorem lk_RX1_22 : LkS RX1 22 mJ7_fill_53178 2 := ⟨in_gt 600 (by decide +kernel) rfl, in_gt 79 (by decide +kernel) rfl, in_gt 57 (by decide +kernel) rfl, in_gt 80 (by decide +kernel) rfl, by decide +kernel, by decide +kernel, by decide +kernel⟩
theorem lk_RX2_35 : LkV RX2 35 mX2_nextToken 0 := ⟨in_gt 532 (by decide +kernel) rfl, in_gt 533 (by decide +kernel) rfl, in_gt 534 (by decide +kernel) rfl, in_gt 58 (by decide +kernel) rfl, in_gt 535 (by decide +kernel) rfl, by decide +kernel, by decide +kernel, by decide +kernel⟩
theorem lk_RX2_38 : LkV RX2 38 mX2_readItem 1 := ⟨in_gt 544 (by decide +kernel) rfl, in_gt 545 (by decide +kernel) rfl, in_gt 546 (by decide +kernel) rfl, in_gt 58 (by decide +kernel) rfl, in_gt 547 (by decide +kernel) rfl, by decide +kernel, by decide +kernel, by decide +kernel⟩
theorem lk_RX2_44 : LkV RX2 44 mX2_readRight 1 := ⟨in_gt 549 (by decide +kernel) rfl, in_gt 550 (by decide +kernel) rfl, in_gt 551 (by decide +kernel) rfl, in_gt 58 (by decide +kernel) rfl, in_gt 552 (by decide +kernel) rfl, by decide +kernel, by decide +kernel, by decide +kernel⟩
theorem lk_RX2_49 : LkV RX2 49 mX2_readLimit 1 := ⟨in_gt 558 (by decide +kernel) rfl, in_gt 559 (by decide +kernel) rfl, in_gt 560 (by decide +kernel) rfl, in_gt 58 (by decide +kernel) rfl, in_gt 561 (by decide +kernel) rfl, by decide +kernel, by decide +kernel, by decide +kernel⟩
theorem lk_RX2_56 : LkV RX2 56 mX2_readChild 2 := ⟨in_gt 564 (by decide +kernel) rfl, in_gt 565 (by decide +kernel) rfl, in_gt 566 (by decide +kernel) rfl, in_gt 58 (by decide +kernel) rfl, in_gt 567 (by decide +kernel) rfl, by decide +kernel, by decide +kernel, by decide +kernel⟩
theorem lk_RX2_60 : LkV RX2 60 mX2_isNumber 2 := ⟨in_gt 553 (by decide +kernel) rfl, in_gt 554 (by decide +kernel) rfl, in_gt 555 (by decide +kernel) rfl, in_gt 58 (by decide +kernel) rfl, in_gt 556 (by decide +kernel) rfl, by decide +kernel, by decide +kernel, by decide +kernel⟩
theorem lk_RX2_76 : LkV RX2 76 mX0_addChild 2 := ⟨in_gt 568 (by decide +kernel) rfl, in_gt 220 (by decide +kernel) rfl, in_gt 221 (by decide +kernel) rfl, in_gt 56 (by decide +kernel) rfl, in_gt 222 (by decide +kernel) rfl, by decide +kernel, by decide +kernel, by decide +kernel⟩
theorem lk_RX2_82 : LkV RX2 82 mX2_readPerhaps 5 := ⟨in_gt 570 (by decide +kernel) rfl, in_gt 571 (by decide +kernel) rfl, in_gt 572 (by decide +kernel) rfl, in_gt 58 (by decide +kernel) rfl, in_gt 573 (by decide +kernel) rfl, by decide +kernel, by decide +kernel, by decide +kernel⟩
theorem lk_RX2_90 : LkV RX2 90 mX0_setFact 3 := ⟨in_gt 574 (by decide +kernel) rfl, in_gt 224 (by decide +kernel) rfl, in_gt 225 (by decide +kernel) rfl, in_gt 56 (by decide +kernel) rfl, in_gt 226 (by decide +kernel) rfl, by decide +kernel, by decide +kernel, by decide +kernel⟩
theorem lk_RX2_94 : LkV RX2 94 mX2_takeWord 0 := ⟨in_gt 536 (by decide +kernel) rfl, in_gt 537 (by decide +kernel) rfl, in_gt 538 (by decide +kernel) rfl, in_gt 58 (by decide +kernel) rfl, in_gt 539 (by decide +kernel) rfl, by decide +kernel, by decide +kernel, by decide +kernel⟩
theorem lk_RX2_97 : LkV RX2 97 mX2_takeNumber 0 := ⟨in_gt 540 (by decide +kernel) rfl, in_gt 541 (by decide +kernel) rfl, in_gt 542 (by decide +kernel) rfl, in_gt 58 (by decide +kernel) rfl, in_gt 543 (by decide +kernel) rfl, by decide +kernel, by decide +kernel, by decide +kernel⟩
theorem lk_RX3_44 : LkS RX3 44 mX3_within 3 := ⟨in_gt 198 (by decide +kernel) rfl, in_gt 199 (by decide +kernel) rfl, in_gt 55 (by decide +kernel) rfl, in_gt 200 (by decide +kernel) rfl, by decide +kernel, by decide +kernel, by decide +kernel⟩
theorem lk_RX3_141 : LkS RX3 141 mJ6_bitCount_0f7a4 1 := ⟨in_gt 434 (by decide +kernel) rfl, in_gt 340 (by decide +kernel) rfl, in_gt 62 (by decide +kernel) rfl, in_gt 341 (by decide +kernel) rfl, by decide +kernel, by decide +kernel, by decide +kernel⟩
theorem lk_RX3_170 : LkS RX3 170 mX3_power 2 := ⟨in_gt 505 (by decide +kernel) rfl, in_gt 506 (by decide +kernel) rfl, in_gt 55 (by decide +kernel) rfl, in_gt 507 (by decide +kernel) rfl, by decide +kernel, by decide +kernel, by decide +kernel⟩
theorem lk_RX3_191 : LkS RX3 191 mX3_isUnder 2 := ⟨in_gt 585 (by decide +kernel) rfl, in_gt 586 (by decide +kernel) rfl, in_gt 55 (by decide +kernel) rfl, in_gt 587 (by decide +kernel) rfl, by decide +kernel, by decide +kernel, by decide +kernel⟩
theorem lc_RX3_221 : Cond.methodLink RX3 221 arraycopyName ∈ gtbl := in_gt 617 (by decide +kernel) rfl
theorem lk_RX3_49 : LkV RX3 49 mX3_finding 1 := ⟨in_gt 202 (by decide +kernel) rfl, in_gt 204 (by decide +kernel) rfl, in_gt 0 (by decide +kernel) rfl, in_gt 55 (by decide +kernel) rfl, in_gt 205 (by decide +kernel) rfl, by decide +kernel, by decide +kernel, by decide +kernel⟩
theorem lk_RX3_64 : LkV RX3 64 mX0_addChild 2 := ⟨in_gt 219 (by decide +kernel) rfl, in_gt 220 (by decide +kernel) rfl, in_gt 221 (by decide +kernel) rfl, in_gt 56 (by decide +kernel) rfl, in_gt 222 (by decide +kernel) rfl, by decide +kernel, by decide +kernel, by decide +kernel⟩
theorem lk_RX3_68 : LkV RX3 68 mX0_has 1 := ⟨in_gt 231 (by decide +kernel) rfl, in_gt 232 (by decide +kernel) rfl, in_gt 233 (by decide +kernel) rfl, in_gt 56 (by decide +kernel) rfl, in_gt 234 (by decide +kernel) rfl, by decide +kernel, by decide +kernel, by decide +kernel⟩
theorem lk_RX3_72 : LkV RX3 72 mX0_price 1 := ⟨in_gt 235 (by decide +kernel) rfl, in_gt 236 (by decide +kernel) rfl, in_gt 237 (by decide +kernel) rfl, in_gt 56 (by decide +kernel) rfl, in_gt 238 (by decide +kernel) rfl, by decide +kernel, by decide +kernel, by decide +kernel⟩
theorem lk_RX3_75 : LkV RX3 75 mX0_isLending 1 := ⟨in_gt 245 (by decide +kernel) rfl, in_gt 246 (by decide +kernel) rfl, in_gt 247 (by decide +kernel) rfl, in_gt 56 (by decide +kernel) rfl, in_gt 248 (by decide +kernel) rfl, by decide +kernel, by decide +kernel, by decide +kernel⟩
theorem lk_RX3_78 : LkV RX3 78 mX0_answeredSums 1 := ⟨in_gt 249 (by decide +kernel) rfl, in_gt 250 (by decide +kernel) rfl, in_gt 251 (by decide +kernel) rfl, in_gt 56 (by decide +kernel) rfl, in_gt 252 (by decide +kernel) rfl, by decide +kernel, by decide +kernel, by decide +kernel⟩
theorem lk_RX3_81 : LkV RX3 81 mX0_fact 2 := ⟨in_gt 257 (by decide +kernel) rfl, in_gt 242 (by decide +kernel) rfl, in_gt 243 (by decide +kernel) rfl, in_gt 56 (by decide +kernel) rfl, in_gt 244 (by decide +kernel) rfl, by decide +kernel, by decide +kernel, by decide +kernel⟩
theorem lk_RX3_84 : LkV RX3 84 mX3_canBecome 3 := ⟨in_gt 262 (by decide +kernel) rfl, in_gt 264 (by decide +kernel) rfl, in_gt 1 (by decide +kernel) rfl, in_gt 55 (by decide +kernel) rfl, in_gt 265 (by decide +kernel) rfl, by decide +kernel, by decide +kernel, by decide +kernel⟩
theorem lk_RX3_87 : LkV RX3 87 mX0_setFact 3 := ⟨in_gt 266 (by decide +kernel) rfl, in_gt 224 (by decide +kernel) rfl, in_gt 225 (by decide +kernel) rfl, in_gt 56 (by decide +kernel) rfl, in_gt 226 (by decide +kernel) rfl, by decide +kernel, by decide +kernel, by decide +kernel⟩
theorem lk_RX3_91 : LkV RX3 91 mX0_answerOf 2 := ⟨in_gt 271 (by decide +kernel) rfl, in_gt 254 (by decide +kernel) rfl, in_gt 255 (by decide +kernel) rfl, in_gt 56 (by decide +kernel) rfl, in_gt 256 (by decide +kernel) rfl, by decide +kernel, by decide +kernel, by decide +kernel⟩
theorem lk_RX3_94 : LkV RX3 94 mX0_slipOf 3 := ⟨in_gt 276 (by decide +kernel) rfl, in_gt 277 (by decide +kernel) rfl, in_gt 278 (by decide +kernel) rfl, in_gt 56 (by decide +kernel) rfl, in_gt 279 (by decide +kernel) rfl, by decide +kernel, by decide +kernel, by decide +kernel⟩
theorem lk_RX3_98 : LkV RX3 98 mX0_alikeSums 2 := ⟨in_gt 290 (by decide +kernel) rfl, in_gt 291 (by decide +kernel) rfl, in_gt 292 (by decide +kernel) rfl, in_gt 56 (by decide +kernel) rfl, in_gt 293 (by decide +kernel) rfl, by decide +kernel, by decide +kernel, by decide +kernel⟩
theorem lk_RX3_106 : LkV RX3 106 mX0_passDays 1 := ⟨in_gt 308 (by decide +kernel) rfl, in_gt 309 (by decide +kernel) rfl, in_gt 310 (by decide +kernel) rfl, in_gt 56 (by decide +kernel) rfl, in_gt 311 (by decide +kernel) rfl, by decide +kernel, by decide +kernel, by decide +kernel⟩
theorem lk_RX3_110 : LkV RX3 110 mX0_total 1 := ⟨in_gt 350 (by decide +kernel) rfl, in_gt 351 (by decide +kernel) rfl, in_gt 352 (by decide +kernel) rfl, in_gt 56 (by decide +kernel) rfl, in_gt 353 (by decide +kernel) rfl, by decide +kernel, by decide +kernel, by decide +kernel⟩
theorem lk_RX3_113 : LkV RX3 113 mX0_copiedChildren 0 := ⟨in_gt 358 (by decide +kernel) rfl, in_gt 359 (by decide +kernel) rfl, in_gt 360 (by decide +kernel) rfl, in_gt 56 (by decide +kernel) rfl, in_gt 361 (by decide +kernel) rfl, by decide +kernel, by decide +kernel, by decide +kernel⟩
theorem lk_RX3_117 : LkV RX3 117 mX0_bestChildren 0 := ⟨in_gt 362 (by decide +kernel) rfl, in_gt 363 (by decide +kernel) rfl, in_gt 364 (by decide +kernel) rfl, in_gt 56 (by decide +kernel) rfl, in_gt 365 (by decide +kernel) rfl, by decide +kernel, by decide +kernel, by decide +kernel⟩
theorem lk_RX3_120 : LkV RX3 120 mX0_unknownSums 0 := ⟨in_gt 366 (by decide +kernel) rfl, in_gt 367 (by decide +kernel) rfl, in_gt 368 (by decide +kernel) rfl, in_gt 56 (by decide +kernel) rfl, in_gt 369 (by decide +kernel) rfl, by decide +kernel, by decide +kernel, by decide +kernel⟩
theorem lk_RX3_123 : LkV RX3 123 mX0_chainLength 1 := ⟨in_gt 374 (by decide +kernel) rfl, in_gt 375 (by decide +kernel) rfl, in_gt 376 (by decide +kernel) rfl, in_gt 56 (by decide +kernel) rfl, in_gt 377 (by decide +kernel) rfl, by decide +kernel, by decide +kernel, by decide +kernel⟩
theorem lk_RX3_126 : LkV RX3 126 mX0_become 1 := ⟨in_gt 382 (by decide +kernel) rfl, in_gt 383 (by decide +kernel) rfl, in_gt 384 (by decide +kernel) rfl, in_gt 56 (by decide +kernel) rfl, in_gt 385 (by decide +kernel) rfl, by decide +kernel, by decide +kernel, by decide +kernel⟩
theorem lk_RX3_130 : LkV RX3 130 mX3_daysUntil 3 := ⟨in_gt 397 (by decide +kernel) rfl, in_gt 399 (by decide +kernel) rfl, in_gt 2 (by decide +kernel) rfl, in_gt 55 (by decide +kernel) rfl, in_gt 400 (by decide +kernel) rfl, by decide +kernel, by decide +kernel, by decide +kernel⟩
theorem lk_RX3_134 : LkV RX3 134 mX3_marksWith 4 := ⟨in_gt 410 (by decide +kernel) rfl, in_gt 412 (by decide +kernel) rfl, in_gt 3 (by decide +kernel) rfl, in_gt 55 (by decide +kernel) rfl, in_gt 413 (by decide +kernel) rfl, by decide +kernel, by decide +kernel, by decide +kernel⟩
theorem lk_RX3_138 : LkV RX3 138 mX3_nobodyIsCaughtInTrial 1 := ⟨in_gt 426 (by decide +kernel) rfl, in_gt 428 (by decide +kernel) rfl, in_gt 4 (by decide +kernel) rfl, in_gt 55 (by decide +kernel) rfl, in_gt 429 (by decide +kernel) rfl, by decide +kernel, by decide +kernel, by decide +kernel⟩
theorem lk_RX3_146 : LkV RX3 146 mX3_tryWithoutCopiesFrom 1 := ⟨in_gt 435 (by decide +kernel) rfl, in_gt 437 (by decide +kernel) rfl, in_gt 5 (by decide +kernel) rfl, in_gt 55 (by decide +kernel) rfl, in_gt 438 (by decide +kernel) rfl, by decide +kernel, by decide +kernel, by decide +kernel⟩
theorem lk_RX3_149 : LkV RX3 149 mX3_sheetAndChildCheck 2 := ⟨in_gt 447 (by decide +kernel) rfl, in_gt 449 (by decide +kernel) rfl, in_gt 6 (by decide +kernel) rfl, in_gt 55 (by decide +kernel) rfl, in_gt 450 (by decide +kernel) rfl, by decide +kernel, by decide +kernel, by decide +kernel⟩
theorem lk_RX3_152 : LkV RX3 152 mX3_writesAsAsked 4 := ⟨in_gt 460 (by decide +kernel) rfl, in_gt 462 (by decide +kernel) rfl, in_gt 8 (by decide +kernel) rfl, in_gt 55 (by decide +kernel) rfl, in_gt 463 (by decide +kernel) rfl, by decide +kernel, by decide +kernel, by decide +kernel⟩
theorem lk_RX3_156 : LkV RX3 156 mX3_tryDayKnowingNothing 1 := ⟨in_gt 472 (by decide +kernel) rfl, in_gt 474 (by decide +kernel) rfl, in_gt 9 (by decide +kernel) rfl, in_gt 55 (by decide +kernel) rfl, in_gt 475 (by decide +kernel) rfl, by decide +kernel, by decide +kernel, by decide +kernel⟩
theorem lk_RX3_159 : LkV RX3 159 mX3_fitsUnknown 3 := ⟨in_gt 476 (by decide +kernel) rfl, in_gt 478 (by decide +kernel) rfl, in_gt 10 (by decide +kernel) rfl, in_gt 55 (by decide +kernel) rfl, in_gt 479 (by decide +kernel) rfl, by decide +kernel, by decide +kernel, by decide +kernel⟩
theorem lk_RX3_163 : LkV RX3 163 mX3_fitsKnown 2 := ⟨in_gt 480 (by decide +kernel) rfl, in_gt 482 (by decide +kernel) rfl, in_gt 11 (by decide +kernel) rfl, in_gt 55 (by decide +kernel) rfl, in_gt 483 (by decide +kernel) rfl, by decide +kernel, by decide +kernel, by decide +kernel⟩
theorem lk_RX3_167 : LkV RX3 167 mX0_draw 0 := ⟨in_gt 496 (by decide +kernel) rfl, in_gt 497 (by decide +kernel) rfl, in_gt 498 (by decide +kernel) rfl, in_gt 56 (by decide +kernel) rfl, in_gt 499 (by decide +kernel) rfl, by decide +kernel, by decide +kernel, by decide +kernel⟩
theorem lk_RX3_180 : LkV RX3 180 mX2_append 1 := ⟨in_gt 516 (by decide +kernel) rfl, in_gt 517 (by decide +kernel) rfl, in_gt 518 (by decide +kernel) rfl, in_gt 58 (by decide +kernel) rfl, in_gt 519 (by decide +kernel) rfl, by decide +kernel, by decide +kernel, by decide +kernel⟩
theorem lk_RX3_183 : LkV RX3 183 mX2_readInto 1 := ⟨in_gt 528 (by decide +kernel) rfl, in_gt 529 (by decide +kernel) rfl, in_gt 530 (by decide +kernel) rfl, in_gt 58 (by decide +kernel) rfl, in_gt 531 (by decide +kernel) rfl, by decide +kernel, by decide +kernel, by decide +kernel⟩
theorem lk_RX3_197 : LkV RX3 197 mX1_renew 2 := ⟨in_gt 596 (by decide +kernel) rfl, in_gt 597 (by decide +kernel) rfl, in_gt 598 (by decide +kernel) rfl, in_gt 59 (by decide +kernel) rfl, in_gt 599 (by decide +kernel) rfl, by decide +kernel, by decide +kernel, by decide +kernel⟩
theorem lk_RX3_202 : LkV RX3 202 mX3_sheetCheck 1 := ⟨in_gt 451 (by decide +kernel) rfl, in_gt 453 (by decide +kernel) rfl, in_gt 7 (by decide +kernel) rfl, in_gt 55 (by decide +kernel) rfl, in_gt 454 (by decide +kernel) rfl, by decide +kernel, by decide +kernel, by decide +kernel⟩
theorem lk_RX3_205 : LkV RX3 205 mX1_put 2 := ⟨in_gt 605 (by decide +kernel) rfl, in_gt 606 (by decide +kernel) rfl, in_gt 607 (by decide +kernel) rfl, in_gt 59 (by decide +kernel) rfl, in_gt 608 (by decide +kernel) rfl, by decide +kernel, by decide +kernel, by decide +kernel⟩
theorem lk_RX3_208 : LkV RX3 208 mX1_isMissing 0 := ⟨in_gt 455 (by decide +kernel) rfl, in_gt 456 (by decide +kernel) rfl, in_gt 457 (by decide +kernel) rfl, in_gt 59 (by decide +kernel) rfl, in_gt 458 (by decide +kernel) rfl, by decide +kernel, by decide +kernel, by decide +kernel⟩
theorem lk_RX3_215 : LkV RX3 215 mX1_hasPart 2 := ⟨in_gt 613 (by decide +kernel) rfl, in_gt 614 (by decide +kernel) rfl, in_gt 615 (by decide +kernel) rfl, in_gt 59 (by decide +kernel) rfl, in_gt 616 (by decide +kernel) rfl, by decide +kernel, by decide +kernel, by decide +kernel⟩
theorem lk_RX3_227 : LkV RX3 227 mX0_takenSpots 0 := ⟨in_gt 642 (by decide +kernel) rfl, in_gt 643 (by decide +kernel) rfl, in_gt 644 (by decide +kernel) rfl, in_gt 56 (by decide +kernel) rfl, in_gt 645 (by decide +kernel) rfl, by decide +kernel, by decide +kernel, by decide +kernel⟩
theorem lk_RX3_230 : LkV RX3 230 mX1_allows 2 := ⟨in_gt 464 (by decide +kernel) rfl, in_gt 465 (by decide +kernel) rfl, in_gt 466 (by decide +kernel) rfl, in_gt 59 (by decide +kernel) rfl, in_gt 467 (by decide +kernel) rfl, by decide +kernel, by decide +kernel, by decide +kernel⟩
theorem lk_RX4_43 : LkS RX4 43 mX4_isSum 1 := ⟨in_gt 715 (by decide +kernel) rfl, in_gt 716 (by decide +kernel) rfl, in_gt 60 (by decide +kernel) rfl, in_gt 717 (by decide +kernel) rfl, by decide +kernel, by decide +kernel, by decide +kernel⟩
theorem lk_RX4_49 : LkS RX4 49 mX4_isIn 3 := ⟨in_gt 719 (by decide +kernel) rfl, in_gt 720 (by decide +kernel) rfl, in_gt 60 (by decide +kernel) rfl, in_gt 721 (by decide +kernel) rfl, by decide +kernel, by decide +kernel, by decide +kernel⟩
theorem lk_RX4_59 : LkS RX4 59 mX4_at 2 := ⟨in_gt 751 (by decide +kernel) rfl, in_gt 752 (by decide +kernel) rfl, in_gt 60 (by decide +kernel) rfl, in_gt 753 (by decide +kernel) rfl, by decide +kernel, by decide +kernel, by decide +kernel⟩
theorem lk_RX4_74 : LkS RX4 74 mX4_oneForSeven 1 := ⟨in_gt 801 (by decide +kernel) rfl, in_gt 802 (by decide +kernel) rfl, in_gt 60 (by decide +kernel) rfl, in_gt 803 (by decide +kernel) rfl, by decide +kernel, by decide +kernel, by decide +kernel⟩
theorem lk_RX4_82 : LkS RX4 82 mX4_pays 1 := ⟨in_gt 767 (by decide +kernel) rfl, in_gt 768 (by decide +kernel) rfl, in_gt 60 (by decide +kernel) rfl, in_gt 769 (by decide +kernel) rfl, by decide +kernel, by decide +kernel, by decide +kernel⟩
theorem lk_RX4_108 : LkS RX4 108 mX4_least 2 := ⟨in_gt 831 (by decide +kernel) rfl, in_gt 832 (by decide +kernel) rfl, in_gt 60 (by decide +kernel) rfl, in_gt 833 (by decide +kernel) rfl, by decide +kernel, by decide +kernel, by decide +kernel⟩
theorem lk_RX4_111 : LkS RX4 111 mX4_many 1 := ⟨in_gt 842 (by decide +kernel) rfl, in_gt 843 (by decide +kernel) rfl, in_gt 60 (by decide +kernel) rfl, in_gt 844 (by decide +kernel) rfl, by decide +kernel, by decide +kernel, by decide +kernel⟩
theorem lk_RX4_137 : LkS RX4 137 mX4_greatest 2 := ⟨in_gt 861 (by decide +kernel) rfl, in_gt 862 (by decide +kernel) rfl, in_gt 60 (by decide +kernel) rfl, in_gt 863 (by decide +kernel) rfl, by decide +kernel, by decide +kernel, by decide +kernel⟩
theorem lk_RX4_150 : LkS RX4 150 mX4_copyRow 2 := ⟨in_gt 882 (by decide +kernel) rfl, in_gt 883 (by decide +kernel) rfl, in_gt 60 (by decide +kernel) rfl, in_gt 884 (by decide +kernel) rfl, by decide +kernel, by decide +kernel, by decide +kernel⟩
theorem lk_RX4_214 : LkS RX4 214 mX4_isLetter 1 := ⟨in_gt 1011 (by decide +kernel) rfl, in_gt 1012 (by decide +kernel) rfl, in_gt 60 (by decide +kernel) rfl, in_gt 1013 (by decide +kernel) rfl, by decide +kernel, by decide +kernel, by decide +kernel⟩
theorem lk_RX4_217 : LkS RX4 217 mX4_isDigit 1 := ⟨in_gt 1014 (by decide +kernel) rfl, in_gt 1015 (by decide +kernel) rfl, in_gt 60 (by decide +kernel) rfl, in_gt 1016 (by decide +kernel) rfl, by decide +kernel, by decide +kernel, by decide +kernel⟩
theorem lk_RX4_274 : LkS RX4 274 mX4_isUnder 2 := ⟨in_gt 1073 (by decide +kernel) rfl, in_gt 1074 (by decide +kernel) rfl, in_gt 60 (by decide +kernel) rfl, in_gt 1075 (by decide +kernel) rfl, by decide +kernel, by decide +kernel, by decide +kernel⟩
theorem lk_RX4_278 : LkS RX4 278 mX4_isSheet 1 := ⟨in_gt 948 (by decide +kernel) rfl, in_gt 949 (by decide +kernel) rfl, in_gt 60 (by decide +kernel) rfl, in_gt 950 (by decide +kernel) rfl, by decide +kernel, by decide +kernel, by decide +kernel⟩
theorem lk_RX4_39 : LkV RX4 39 mX4_finds 1 := ⟨in_gt 727 (by decide +kernel) rfl, in_gt 729 (by decide +kernel) rfl, in_gt 13 (by decide +kernel) rfl, in_gt 60 (by decide +kernel) rfl, in_gt 730 (by decide +kernel) rfl, by decide +kernel, by decide +kernel, by decide +kernel⟩
theorem lk_RX4_53 : LkV RX4 53 mX4_becomes 2 := ⟨in_gt 722 (by decide +kernel) rfl, in_gt 724 (by decide +kernel) rfl, in_gt 12 (by decide +kernel) rfl, in_gt 60 (by decide +kernel) rfl, in_gt 725 (by decide +kernel) rfl, by decide +kernel, by decide +kernel, by decide +kernel⟩
theorem lk_RX4_67 : LkV RX4 67 mX4_comes 2 := ⟨in_gt 747 (by decide +kernel) rfl, in_gt 749 (by decide +kernel) rfl, in_gt 14 (by decide +kernel) rfl, in_gt 60 (by decide +kernel) rfl, in_gt 750 (by decide +kernel) rfl, by decide +kernel, by decide +kernel, by decide +kernel⟩
theorem lk_RX4_71 : LkV RX4 71 mX4_its 2 := ⟨in_gt 763 (by decide +kernel) rfl, in_gt 765 (by decide +kernel) rfl, in_gt 16 (by decide +kernel) rfl, in_gt 60 (by decide +kernel) rfl, in_gt 766 (by decide +kernel) rfl, by decide +kernel, by decide +kernel, by decide +kernel⟩
theorem lk_RX4_77 : LkV RX4 77 mX4_isChild 1 := ⟨in_gt 758 (by decide +kernel) rfl, in_gt 760 (by decide +kernel) rfl, in_gt 15 (by decide +kernel) rfl, in_gt 60 (by decide +kernel) rfl, in_gt 761 (by decide +kernel) rfl, by decide +kernel, by decide +kernel, by decide +kernel⟩
theorem lk_RX4_85 : LkV RX4 85 mX4_lends 1 := ⟨in_gt 770 (by decide +kernel) rfl, in_gt 772 (by decide +kernel) rfl, in_gt 17 (by decide +kernel) rfl, in_gt 60 (by decide +kernel) rfl, in_gt 773 (by decide +kernel) rfl, by decide +kernel, by decide +kernel, by decide +kernel⟩
theorem lk_RX4_88 : LkV RX4 88 mX4_answered 1 := ⟨in_gt 774 (by decide +kernel) rfl, in_gt 776 (by decide +kernel) rfl, in_gt 18 (by decide +kernel) rfl, in_gt 60 (by decide +kernel) rfl, in_gt 777 (by decide +kernel) rfl, by decide +kernel, by decide +kernel, by decide +kernel⟩
theorem lk_RX4_95 : LkV RX4 95 mX4_may 3 := ⟨in_gt 782 (by decide +kernel) rfl, in_gt 784 (by decide +kernel) rfl, in_gt 19 (by decide +kernel) rfl, in_gt 60 (by decide +kernel) rfl, in_gt 785 (by decide +kernel) rfl, by decide +kernel, by decide +kernel, by decide +kernel⟩
theorem lk_RX4_101 : LkV RX4 101 mX4_slipsOf 3 := ⟨in_gt 797 (by decide +kernel) rfl, in_gt 799 (by decide +kernel) rfl, in_gt 20 (by decide +kernel) rfl, in_gt 60 (by decide +kernel) rfl, in_gt 800 (by decide +kernel) rfl, by decide +kernel, by decide +kernel, by decide +kernel⟩
theorem lk_RX4_105 : LkV RX4 105 mX4_alikeOf 2 := ⟨in_gt 808 (by decide +kernel) rfl, in_gt 810 (by decide +kernel) rfl, in_gt 21 (by decide +kernel) rfl, in_gt 60 (by decide +kernel) rfl, in_gt 811 (by decide +kernel) rfl, by decide +kernel, by decide +kernel, by decide +kernel⟩
theorem lk_RX4_114 : LkV RX4 114 mX4_isFound 1 := ⟨in_gt 838 (by decide +kernel) rfl, in_gt 840 (by decide +kernel) rfl, in_gt 26 (by decide +kernel) rfl, in_gt 60 (by decide +kernel) rfl, in_gt 841 (by decide +kernel) rfl, by decide +kernel, by decide +kernel, by decide +kernel⟩
theorem lk_RX4_117 : LkV RX4 117 mX4_writesAll 1 := ⟨in_gt 827 (by decide +kernel) rfl, in_gt 829 (by decide +kernel) rfl, in_gt 24 (by decide +kernel) rfl, in_gt 60 (by decide +kernel) rfl, in_gt 830 (by decide +kernel) rfl, by decide +kernel, by decide +kernel, by decide +kernel⟩
theorem lk_RX4_121 : LkV RX4 121 mX4_marks 1 := ⟨in_gt 834 (by decide +kernel) rfl, in_gt 836 (by decide +kernel) rfl, in_gt 25 (by decide +kernel) rfl, in_gt 60 (by decide +kernel) rfl, in_gt 837 (by decide +kernel) rfl, by decide +kernel, by decide +kernel, by decide +kernel⟩
theorem lk_RX4_124 : LkV RX4 124 mX4_day 0 := ⟨in_gt 823 (by decide +kernel) rfl, in_gt 825 (by decide +kernel) rfl, in_gt 23 (by decide +kernel) rfl, in_gt 60 (by decide +kernel) rfl, in_gt 826 (by decide +kernel) rfl, by decide +kernel, by decide +kernel, by decide +kernel⟩
theorem lk_RX4_131 : LkV RX4 131 mX4_goes 1 := ⟨in_gt 819 (by decide +kernel) rfl, in_gt 821 (by decide +kernel) rfl, in_gt 22 (by decide +kernel) rfl, in_gt 60 (by decide +kernel) rfl, in_gt 822 (by decide +kernel) rfl, by decide +kernel, by decide +kernel, by decide +kernel⟩
theorem lk_RX4_134 : LkV RX4 134 mX4_sumOf 1 := ⟨in_gt 845 (by decide +kernel) rfl, in_gt 847 (by decide +kernel) rfl, in_gt 27 (by decide +kernel) rfl, in_gt 60 (by decide +kernel) rfl, in_gt 848 (by decide +kernel) rfl, by decide +kernel, by decide +kernel, by decide +kernel⟩
theorem lk_RX4_140 : LkV RX4 140 mX4_lenders 0 := ⟨in_gt 853 (by decide +kernel) rfl, in_gt 855 (by decide +kernel) rfl, in_gt 28 (by decide +kernel) rfl, in_gt 60 (by decide +kernel) rfl, in_gt 856 (by decide +kernel) rfl, by decide +kernel, by decide +kernel, by decide +kernel⟩
theorem lk_RX4_144 : LkV RX4 144 mX4_bests 0 := ⟨in_gt 857 (by decide +kernel) rfl, in_gt 859 (by decide +kernel) rfl, in_gt 29 (by decide +kernel) rfl, in_gt 60 (by decide +kernel) rfl, in_gt 860 (by decide +kernel) rfl, by decide +kernel, by decide +kernel, by decide +kernel⟩
theorem lk_RX4_147 : LkV RX4 147 mX4_unknown 0 := ⟨in_gt 864 (by decide +kernel) rfl, in_gt 866 (by decide +kernel) rfl, in_gt 30 (by decide +kernel) rfl, in_gt 60 (by decide +kernel) rfl, in_gt 867 (by decide +kernel) rfl, by decide +kernel, by decide +kernel, by decide +kernel⟩
theorem lk_RX4_158 : LkV RX4 158 mX4_thenAt 2 := ⟨in_gt 878 (by decide +kernel) rfl, in_gt 880 (by decide +kernel) rfl, in_gt 31 (by decide +kernel) rfl, in_gt 60 (by decide +kernel) rfl, in_gt 881 (by decide +kernel) rfl, by decide +kernel, by decide +kernel, by decide +kernel⟩
theorem lk_RX4_163 : LkV RX4 163 mX4_isAsked 2 := ⟨in_gt 902 (by decide +kernel) rfl, in_gt 904 (by decide +kernel) rfl, in_gt 32 (by decide +kernel) rfl, in_gt 60 (by decide +kernel) rfl, in_gt 905 (by decide +kernel) rfl, by decide +kernel, by decide +kernel, by decide +kernel⟩
theorem lk_RX4_167 : LkV RX4 167 mX4_caughtThen 1 := ⟨in_gt 919 (by decide +kernel) rfl, in_gt 921 (by decide +kernel) rfl, in_gt 33 (by decide +kernel) rfl, in_gt 60 (by decide +kernel) rfl, in_gt 922 (by decide +kernel) rfl, by decide +kernel, by decide +kernel, by decide +kernel⟩
theorem lk_RX4_170 : LkV RX4 170 mX4_orNone 1 := ⟨in_gt 923 (by decide +kernel) rfl, in_gt 925 (by decide +kernel) rfl, in_gt 34 (by decide +kernel) rfl, in_gt 60 (by decide +kernel) rfl, in_gt 926 (by decide +kernel) rfl, by decide +kernel, by decide +kernel, by decide +kernel⟩
theorem lk_RX4_175 : LkV RX4 175 mX4_wants 1 := ⟨in_gt 944 (by decide +kernel) rfl, in_gt 946 (by decide +kernel) rfl, in_gt 36 (by decide +kernel) rfl, in_gt 60 (by decide +kernel) rfl, in_gt 947 (by decide +kernel) rfl, by decide +kernel, by decide +kernel, by decide +kernel⟩
theorem lk_RX4_178 : LkV RX4 178 mX4_wantsFor 2 := ⟨in_gt 940 (by decide +kernel) rfl, in_gt 942 (by decide +kernel) rfl, in_gt 35 (by decide +kernel) rfl, in_gt 60 (by decide +kernel) rfl, in_gt 943 (by decide +kernel) rfl, by decide +kernel, by decide +kernel, by decide +kernel⟩
theorem lk_RX4_181 : LkV RX4 181 mX4_isTold 2 := ⟨in_gt 952 (by decide +kernel) rfl, in_gt 954 (by decide +kernel) rfl, in_gt 37 (by decide +kernel) rfl, in_gt 60 (by decide +kernel) rfl, in_gt 955 (by decide +kernel) rfl, by decide +kernel, by decide +kernel, by decide +kernel⟩
theorem lk_RX4_191 : LkV RX4 191 mX4_findsFits 2 := ⟨in_gt 960 (by decide +kernel) rfl, in_gt 962 (by decide +kernel) rfl, in_gt 38 (by decide +kernel) rfl, in_gt 60 (by decide +kernel) rfl, in_gt 963 (by decide +kernel) rfl, by decide +kernel, by decide +kernel, by decide +kernel⟩
theorem lk_RX4_195 : LkV RX4 195 mX4_draw 0 := ⟨in_gt 976 (by decide +kernel) rfl, in_gt 978 (by decide +kernel) rfl, in_gt 39 (by decide +kernel) rfl, in_gt 60 (by decide +kernel) rfl, in_gt 979 (by decide +kernel) rfl, by decide +kernel, by decide +kernel, by decide +kernel⟩
theorem lk_RX4_211 : LkV RX4 211 mX4_byteAt 1 := ⟨in_gt 1007 (by decide +kernel) rfl, in_gt 1009 (by decide +kernel) rfl, in_gt 41 (by decide +kernel) rfl, in_gt 60 (by decide +kernel) rfl, in_gt 1010 (by decide +kernel) rfl, by decide +kernel, by decide +kernel, by decide +kernel⟩
theorem lk_RX4_229 : LkV RX4 229 mX4_isWord 1 := ⟨in_gt 1029 (by decide +kernel) rfl, in_gt 1031 (by decide +kernel) rfl, in_gt 45 (by decide +kernel) rfl, in_gt 60 (by decide +kernel) rfl, in_gt 1032 (by decide +kernel) rfl, by decide +kernel, by decide +kernel, by decide +kernel⟩
theorem lk_RX4_232 : LkV RX4 232 mX4_has3 4 := ⟨in_gt 1033 (by decide +kernel) rfl, in_gt 1035 (by decide +kernel) rfl, in_gt 46 (by decide +kernel) rfl, in_gt 60 (by decide +kernel) rfl, in_gt 1036 (by decide +kernel) rfl, by decide +kernel, by decide +kernel, by decide +kernel⟩
theorem lk_RX4_236 : LkV RX4 236 mX4_fails 0 := ⟨in_gt 1049 (by decide +kernel) rfl, in_gt 1051 (by decide +kernel) rfl, in_gt 50 (by decide +kernel) rfl, in_gt 60 (by decide +kernel) rfl, in_gt 1052 (by decide +kernel) rfl, by decide +kernel, by decide +kernel, by decide +kernel⟩
theorem lk_RX4_240 : LkV RX4 240 mX4_isFive 5 := ⟨in_gt 1025 (by decide +kernel) rfl, in_gt 1027 (by decide +kernel) rfl, in_gt 44 (by decide +kernel) rfl, in_gt 60 (by decide +kernel) rfl, in_gt 1028 (by decide +kernel) rfl, by decide +kernel, by decide +kernel, by decide +kernel⟩
theorem lk_RX4_244 : LkV RX4 244 mX4_isSix 6 := ⟨in_gt 1037 (by decide +kernel) rfl, in_gt 1039 (by decide +kernel) rfl, in_gt 47 (by decide +kernel) rfl, in_gt 60 (by decide +kernel) rfl, in_gt 1040 (by decide +kernel) rfl, by decide +kernel, by decide +kernel, by decide +kernel⟩
theorem lk_RX4_248 : LkV RX4 248 mX4_isFour 4 := ⟨in_gt 1041 (by decide +kernel) rfl, in_gt 1043 (by decide +kernel) rfl, in_gt 48 (by decide +kernel) rfl, in_gt 60 (by decide +kernel) rfl, in_gt 1044 (by decide +kernel) rfl, by decide +kernel, by decide +kernel, by decide +kernel⟩
theorem lk_RX4_251 : LkV RX4 251 mX4_nextToken 0 := ⟨in_gt 1003 (by decide +kernel) rfl, in_gt 1005 (by decide +kernel) rfl, in_gt 40 (by decide +kernel) rfl, in_gt 60 (by decide +kernel) rfl, in_gt 1006 (by decide +kernel) rfl, by decide +kernel, by decide +kernel, by decide +kernel⟩
theorem lk_RX4_254 : LkV RX4 254 mX4_isNumber 2 := ⟨in_gt 1057 (by decide +kernel) rfl, in_gt 1059 (by decide +kernel) rfl, in_gt 52 (by decide +kernel) rfl, in_gt 60 (by decide +kernel) rfl, in_gt 1060 (by decide +kernel) rfl, by decide +kernel, by decide +kernel, by decide +kernel⟩
theorem lk_RX4_257 : LkV RX4 257 mX4_perhaps 4 := ⟨in_gt 1053 (by decide +kernel) rfl, in_gt 1055 (by decide +kernel) rfl, in_gt 51 (by decide +kernel) rfl, in_gt 60 (by decide +kernel) rfl, in_gt 1056 (by decide +kernel) rfl, by decide +kernel, by decide +kernel, by decide +kernel⟩
theorem lk_RX4_261 : LkV RX4 261 mX4_kindHere 0 := ⟨in_gt 1021 (by decide +kernel) rfl, in_gt 1023 (by decide +kernel) rfl, in_gt 43 (by decide +kernel) rfl, in_gt 60 (by decide +kernel) rfl, in_gt 1024 (by decide +kernel) rfl, by decide +kernel, by decide +kernel, by decide +kernel⟩
theorem lk_RX4_264 : LkV RX4 264 mX4_childHere 1 := ⟨in_gt 1045 (by decide +kernel) rfl, in_gt 1047 (by decide +kernel) rfl, in_gt 49 (by decide +kernel) rfl, in_gt 60 (by decide +kernel) rfl, in_gt 1048 (by decide +kernel) rfl, by decide +kernel, by decide +kernel, by decide +kernel⟩
theorem lk_RX4_267 : LkV RX4 267 mX4_rightHere 0 := ⟨in_gt 1061 (by decide +kernel) rfl, in_gt 1063 (by decide +kernel) rfl, in_gt 53 (by decide +kernel) rfl, in_gt 60 (by decide +kernel) rfl, in_gt 1064 (by decide +kernel) rfl, by decide +kernel, by decide +kernel, by decide +kernel⟩
theorem lk_RX4_270 : LkV RX4 270 mX4_itemHere 0 := ⟨in_gt 1017 (by decide +kernel) rfl, in_gt 1019 (by decide +kernel) rfl, in_gt 42 (by decide +kernel) rfl, in_gt 60 (by decide +kernel) rfl, in_gt 1020 (by decide +kernel) rfl, by decide +kernel, by decide +kernel, by decide +kernel⟩
theorem lc_nat : Cond.native arraycopyName ∈ gtbl := in_gt 388 (by decide +kernel) rfl
theorem lc_stt : Cond.static arraycopyName ∈ gtbl := in_gt 387 (by decide +kernel) rfl
theorem lc_ini : Cond.initialized "java/lang/System" ∈ gtbl := in_gt 63 (by decide +kernel) rfl
theorem kc_RJ6_265 : Cond.constant RJ6 265 (Int32.ofInt (1431655765)) ∈ gtbl := in_gt 342 (by decide +kernel) rfl
theorem kc_RJ6_266 : Cond.constant RJ6 266 (Int32.ofInt (858993459)) ∈ gtbl := in_gt 343 (by decide +kernel) rfl
theorem kc_RJ6_267 : Cond.constant RJ6 267 (Int32.ofInt (252645135)) ∈ gtbl := in_gt 344 (by decide +kernel) rfl
theorem kc_RX0_116 : Cond.constant RX0 116 (Int32.ofInt (99999)) ∈ gtbl := in_gt 349 (by decide +kernel) rfl
theorem kc_RX0_128 : Cond.constant RX0 128 (Int32.ofInt (1103515245)) ∈ gtbl := in_gt 500 (by decide +kernel) rfl
theorem kc_RX2_42 : Cond.constantLong RX2 42 (Int64.ofInt (491394656372)) ∈ gtbl := in_gt 548 (by decide +kernel) rfl
theorem kc_RX2_47 : Cond.constantLong RX2 47 (Int64.ofInt (465625246068)) ∈ gtbl := in_gt 557 (by decide +kernel) rfl
theorem kc_RX2_80 : Cond.constantLong RX2 80 (Int64.ofInt (461414299507)) ∈ gtbl := in_gt 569 (by decide +kernel) rfl
theorem kc_RX2_86 : Cond.constantLong RX2 86 (Int64.ofInt (1718775661)) ∈ gtbl := in_gt 575 (by decide +kernel) rfl
theorem kc_RX2_88 : Cond.constantLong RX2 88 (Int64.ofInt (7091325959280358515)) ∈ gtbl := in_gt 576 (by decide +kernel) rfl
theorem kc_RX3_48 : Cond.constant RX3 48 (Int32.ofInt (-1000001)) ∈ gtbl := in_gt 201 (by decide +kernel) rfl
theorem kc_RX3_63 : Cond.constant RX3 63 (Int32.ofInt (-1000002)) ∈ gtbl := in_gt 218 (by decide +kernel) rfl
theorem kc_RX3_104 : Cond.constant RX3 104 (Int32.ofInt (99999)) ∈ gtbl := in_gt 306 (by decide +kernel) rfl
theorem kc_RX3_105 : Cond.constant RX3 105 (Int32.ofInt (-1000005)) ∈ gtbl := in_gt 307 (by decide +kernel) rfl
theorem kc_RX3_133 : Cond.constant RX3 133 (Int32.ofInt (-1000004)) ∈ gtbl := in_gt 401 (by decide +kernel) rfl
theorem kc_RX3_190 : Cond.constant RX3 190 (Int32.ofInt (-1000006)) ∈ gtbl := in_gt 459 (by decide +kernel) rfl
theorem kc_RX3_195 : Cond.constant RX3 195 (Int32.ofInt (-1000003)) ∈ gtbl := in_gt 590 (by decide +kernel) rfl
theorem kc_RX3_196 : Cond.constant RX3 196 (Int32.ofInt (-1000007)) ∈ gtbl := in_gt 595 (by decide +kernel) rfl
theorem kc_RX4_37 : Cond.constant RX4 37 (Int32.ofInt (-1000001)) ∈ gtbl := in_gt 726 (by decide +kernel) rfl
theorem kc_RX4_38 : Cond.constant RX4 38 (Int32.ofInt (-1000004)) ∈ gtbl := in_gt 893 (by decide +kernel) rfl
theorem kc_RX4_66 : Cond.constant RX4 66 (Int32.ofInt (-1000002)) ∈ gtbl := in_gt 746 (by decide +kernel) rfl
theorem kc_RX4_129 : Cond.constant RX4 129 (Int32.ofInt (99999)) ∈ gtbl := in_gt 817 (by decide +kernel) rfl
theorem kc_RX4_130 : Cond.constant RX4 130 (Int32.ofInt (-1000005)) ∈ gtbl := in_gt 818 (by decide +kernel) rfl
theorem kc_RX4_194 : Cond.constant RX4 194 (Int32.ofInt (1103515245)) ∈ gtbl := in_gt 980 (by decide +kernel) rfl
theorem kc_RX4_273 : Cond.constant RX4 273 (Int32.ofInt (-1000006)) ∈ gtbl := in_gt 951 (by decide +kernel) rfl
theorem kc_RX4_277 : Cond.constant RX4 277 (Int32.ofInt (-1000003)) ∈ gtbl := in_gt 1076 (by decide +kernel) rfl
theorem kc_RX4_281 : Cond.constant RX4 281 (Int32.ofInt (-1000007)) ∈ gtbl := in_gt 1081 (by decide +kernel) rfl
theorem kc_RX4_47 : Cond.constantLong RX4 47 (Int64.ofInt (99)) ∈ gtbl := in_gt 718 (by decide +kernel) rfl
theorem kc_RX4_57 : Cond.constantLong RX4 57 (Int64.ofInt (9)) ∈ gtbl := in_gt 739 (by decide +kernel) rfl
theorem kc_RX4_62 : Cond.constantLong RX4 62 (Int64.ofInt (6)) ∈ gtbl := in_gt 744 (by decide +kernel) rfl
theorem kc_RX4_64 : Cond.constantLong RX4 64 (Int64.ofInt (255)) ∈ gtbl := in_gt 745 (by decide +kernel) rfl
theorem kc_RX4_80 : Cond.constantLong RX4 80 (Int64.ofInt (8)) ∈ gtbl := in_gt 762 (by decide +kernel) rfl
theorem kc_RX4_91 : Cond.constantLong RX4 91 (Int64.ofInt (999)) ∈ gtbl := in_gt 786 (by decide +kernel) rfl
theorem kc_RX4_93 : Cond.constantLong RX4 93 (Int64.ofInt (9999)) ∈ gtbl := in_gt 787 (by decide +kernel) rfl
theorem kc_RX4_99 : Cond.constantLong RX4 99 (Int64.ofInt (-1)) ∈ gtbl := in_gt 796 (by decide +kernel) rfl
theorem kc_RX4_127 : Cond.constantLong RX4 127 (Int64.ofInt (60)) ∈ gtbl := in_gt 816 (by decide +kernel) rfl
theorem kc_RX4_154 : Cond.constantLong RX4 154 (Int64.ofInt (3)) ∈ gtbl := in_gt 876 (by decide +kernel) rfl
theorem kc_RX4_156 : Cond.constantLong RX4 156 (Int64.ofInt (5)) ∈ gtbl := in_gt 877 (by decide +kernel) rfl
theorem kc_RX4_161 : Cond.constantLong RX4 161 (Int64.ofInt (20)) ∈ gtbl := in_gt 906 (by decide +kernel) rfl
theorem kc_RX4_173 : Cond.constantLong RX4 173 (Int64.ofInt (12)) ∈ gtbl := in_gt 931 (by decide +kernel) rfl
theorem kc_RX4_198 : Cond.constantLong RX4 198 (Int64.ofInt (2)) ∈ gtbl := in_gt 985 (by decide +kernel) rfl
theorem kc_RX4_200 : Cond.constantLong RX4 200 (Int64.ofInt (4)) ∈ gtbl := in_gt 994 (by decide +kernel) rfl
theorem lf_RX2_52 : Cond.fieldLink RX2 52 RX2 "KIND_WORDS" "[J" ∈ gtbl := in_gt 562 (by decide +kernel) rfl
theorem lf_RX3_233 : Cond.fieldLink RX3 233 RX3 "UNDER" "[I" ∈ gtbl := in_gt 588 (by decide +kernel) rfl
section PC1
variable {S : Sx} {y : MD} {Q : Option PV → Zm → Prop} {pc pc2 tgt : Nat} {ls ls2 : List (Option PV)} {st stk : List PV} {mem mem1 : Zm}
theorem pw_cV {z : MD} {idx n o ci : Nat} {av : List PV} {q : vw_C} {v : Option PV} (hd : Dn y pc (.invokevirtual idx) 3 pc2) (hk : LkV y.1.cls idx z n) (hn : av.length = n) (hfr : z.2.2.2.2.1 + 1 ≤ y.2.2.2.2.1) (hlo : 8 + (z.2.2.1 + 11) + z.2.2.2.2.2 ≤ y.2.2.2.2.2)
    (ho : shp o = (0, ci)) (hq : vwCl[ci]? = some q) (hC : q.1 = z.1.cls) (hc8 : catS st ≤ 8) (hst : stk = av.reverse ++ Aq o :: st) (hc : Ct1 S z (Aq o :: av) mem v mem1) (k : PW S y Q pc2 ls (v.toList ++ st) mem1) : PW S y Q pc ls stk mem :=
  pw_callV hd hk hn hfr hlo ho hq hC hc8 hst hc (fun r m h => by obtain ⟨rfl, rfl⟩ := h; exact k)
theorem pw_cS {z : MD} {idx n : Nat} {av : List PV} {v : Option PV} (hd : Dn y pc (.invokestatic idx) 3 pc2) (hk : LkS y.1.cls idx z n) (hn : av.length = n) (hfr : z.2.2.2.2.1 + 1 ≤ y.2.2.2.2.1) (hlo : 8 + (z.2.2.1 + 11) + z.2.2.2.2.2 ≤ y.2.2.2.2.2)
    (hc8 : catS st ≤ 8) (hst : stk = av.reverse ++ st) (hc : Ct1 S z av mem v mem1) (k : PW S y Q pc2 ls (v.toList ++ st) mem1) : PW S y Q pc ls stk mem :=
  pw_callS hd hk hn hfr hlo hc8 hst hc (fun r m h => by obtain ⟨rfl, rfl⟩ := h; exact k)
end PC1
end

section
-- ===== PART A: goes FIRST, ahead of the names: the tables' words, and 'selects' of the private methods out of them =====
/-- a private method of a class that the tables say can be made, by its rows of tables_1 -/
def lw_okq (q : MethodName × Nat) : Prop := (q.1.cls ≠ "java/lang/invoke/MethodHandle" ∧ q.1.cls ≠ "java/lang/invoke/VarHandle") ∧ Cond.instantiable q.1.cls q.2 ∈ tables_1 ∧ Cond.privateMethod q.1 ∈ tables_1 ∧ Cond.instanceMethod q.1 ∈ tables_1
theorem lw_p0 : lw_okq (⟨"NestFinder$Graph", "putArcBehind", "(II)V"⟩, 4) := ⟨⟨by decide +kernel, by decide +kernel⟩, List.mem_of_getElem? (i := 38) (by decide +kernel), List.mem_of_getElem? (i := 252) (by decide +kernel), List.mem_of_getElem? (i := 253) (by decide +kernel)⟩
theorem lw_p1 : lw_okq (⟨"NestFinder", "aboutLoops", "(I)I"⟩, 8) := ⟨⟨by decide +kernel, by decide +kernel⟩, List.mem_of_getElem? (i := 15) (by decide +kernel), List.mem_of_getElem? (i := 283) (by decide +kernel), List.mem_of_getElem? (i := 284) (by decide +kernel)⟩
theorem lw_p2 : lw_okq (⟨"NestFinder$Survey", "clear", "()V"⟩, 11) := ⟨⟨by decide +kernel, by decide +kernel⟩, List.mem_of_getElem? (i := 67) (by decide +kernel), List.mem_of_getElem? (i := 291) (by decide +kernel), List.mem_of_getElem? (i := 292) (by decide +kernel)⟩
theorem lw_p3 : lw_okq (⟨"NestFinder$Survey", "visit", "(LNestFinder$Graph;II)I"⟩, 11) := ⟨⟨by decide +kernel, by decide +kernel⟩, List.mem_of_getElem? (i := 67) (by decide +kernel), List.mem_of_getElem? (i := 298) (by decide +kernel), List.mem_of_getElem? (i := 299) (by decide +kernel)⟩
theorem lw_p4 : lw_okq (⟨"NestFinder$Survey", "sortArcs", "(LNestFinder$Graph;I)V"⟩, 11) := ⟨⟨by decide +kernel, by decide +kernel⟩, List.mem_of_getElem? (i := 67) (by decide +kernel), List.mem_of_getElem? (i := 310) (by decide +kernel), List.mem_of_getElem? (i := 311) (by decide +kernel)⟩
theorem lw_p5 : lw_okq (⟨"NestFinder$Survey", "gather", "(I)V"⟩, 11) := ⟨⟨by decide +kernel, by decide +kernel⟩, List.mem_of_getElem? (i := 67) (by decide +kernel), List.mem_of_getElem? (i := 314) (by decide +kernel), List.mem_of_getElem? (i := 315) (by decide +kernel)⟩
theorem lw_p6 : lw_okq (⟨"NestFinder$Survey", "leadersOf", "(I)I"⟩, 11) := ⟨⟨by decide +kernel, by decide +kernel⟩, List.mem_of_getElem? (i := 67) (by decide +kernel), List.mem_of_getElem? (i := 318) (by decide +kernel), List.mem_of_getElem? (i := 319) (by decide +kernel)⟩
theorem lw_p7 : lw_okq (⟨"NestFinder$Survey", "leaderOf", "(I)I"⟩, 11) := ⟨⟨by decide +kernel, by decide +kernel⟩, List.mem_of_getElem? (i := 67) (by decide +kernel), List.mem_of_getElem? (i := 322) (by decide +kernel), List.mem_of_getElem? (i := 323) (by decide +kernel)⟩
theorem lw_p8 : lw_okq (⟨"NestFinder$Survey", "reachedWithout", "(I)I"⟩, 11) := ⟨⟨by decide +kernel, by decide +kernel⟩, List.mem_of_getElem? (i := 67) (by decide +kernel), List.mem_of_getElem? (i := 355) (by decide +kernel), List.mem_of_getElem? (i := 356) (by decide +kernel)⟩
theorem lw_p9 : lw_okq (⟨"NestFinder", "settle", "(I)I"⟩, 8) := ⟨⟨by decide +kernel, by decide +kernel⟩, List.mem_of_getElem? (i := 15) (by decide +kernel), List.mem_of_getElem? (i := 396) (by decide +kernel), List.mem_of_getElem? (i := 397) (by decide +kernel)⟩
theorem lw_p10 : lw_okq (⟨"NestFinder$Graph", "goesTo", "(II)Z"⟩, 4) := ⟨⟨by decide +kernel, by decide +kernel⟩, List.mem_of_getElem? (i := 38) (by decide +kernel), List.mem_of_getElem? (i := 431) (by decide +kernel), List.mem_of_getElem? (i := 432) (by decide +kernel)⟩
theorem lw_p11 : lw_okq (⟨"NestFinder$Graph", "turnArcs", "(III)V"⟩, 4) := ⟨⟨by decide +kernel, by decide +kernel⟩, List.mem_of_getElem? (i := 38) (by decide +kernel), List.mem_of_getElem? (i := 436) (by decide +kernel), List.mem_of_getElem? (i := 437) (by decide +kernel)⟩
theorem lw_p12 : lw_okq (⟨"NestFinder", "mendTrial", "()I"⟩, 8) := ⟨⟨by decide +kernel, by decide +kernel⟩, List.mem_of_getElem? (i := 15) (by decide +kernel), List.mem_of_getElem? (i := 448) (by decide +kernel), List.mem_of_getElem? (i := 449) (by decide +kernel)⟩
theorem lw_p13 : lw_okq (⟨"NestFinder", "mendOnce", "()Z"⟩, 8) := ⟨⟨by decide +kernel, by decide +kernel⟩, List.mem_of_getElem? (i := 15) (by decide +kernel), List.mem_of_getElem? (i := 452) (by decide +kernel), List.mem_of_getElem? (i := 453) (by decide +kernel)⟩
theorem lw_p14 : lw_okq (⟨"NestFinder", "leastTarget", "(II)I"⟩, 8) := ⟨⟨by decide +kernel, by decide +kernel⟩, List.mem_of_getElem? (i := 15) (by decide +kernel), List.mem_of_getElem? (i := 456) (by decide +kernel), List.mem_of_getElem? (i := 457) (by decide +kernel)⟩
theorem lw_p15 : lw_okq (⟨"NestFinder", "leastSource", "(II)I"⟩, 8) := ⟨⟨by decide +kernel, by decide +kernel⟩, List.mem_of_getElem? (i := 15) (by decide +kernel), List.mem_of_getElem? (i := 464) (by decide +kernel), List.mem_of_getElem? (i := 465) (by decide +kernel)⟩
def lw_privs_1 : List (MethodName × Nat) := [(⟨"NestFinder$Graph", "putArcBehind", "(II)V"⟩, 4), (⟨"NestFinder", "aboutLoops", "(I)I"⟩, 8), (⟨"NestFinder$Survey", "clear", "()V"⟩, 11), (⟨"NestFinder$Survey", "visit", "(LNestFinder$Graph;II)I"⟩, 11), (⟨"NestFinder$Survey", "sortArcs", "(LNestFinder$Graph;I)V"⟩, 11), (⟨"NestFinder$Survey", "gather", "(I)V"⟩, 11), (⟨"NestFinder$Survey", "leadersOf", "(I)I"⟩, 11), (⟨"NestFinder$Survey", "leaderOf", "(I)I"⟩, 11), (⟨"NestFinder$Survey", "reachedWithout", "(I)I"⟩, 11), (⟨"NestFinder", "settle", "(I)I"⟩, 8), (⟨"NestFinder$Graph", "goesTo", "(II)Z"⟩, 4), (⟨"NestFinder$Graph", "turnArcs", "(III)V"⟩, 4), (⟨"NestFinder", "mendTrial", "()I"⟩, 8), (⟨"NestFinder", "mendOnce", "()Z"⟩, 8), (⟨"NestFinder", "leastTarget", "(II)I"⟩, 8), (⟨"NestFinder", "leastSource", "(II)I"⟩, 8)]
theorem lw_r1 : ∀ q ∈ lw_privs_1, lw_okq q := List.forall_mem_cons.mpr ⟨lw_p0, List.forall_mem_cons.mpr ⟨lw_p1, List.forall_mem_cons.mpr ⟨lw_p2, List.forall_mem_cons.mpr ⟨lw_p3, List.forall_mem_cons.mpr ⟨lw_p4, List.forall_mem_cons.mpr ⟨lw_p5, List.forall_mem_cons.mpr ⟨lw_p6, List.forall_mem_cons.mpr ⟨lw_p7, List.forall_mem_cons.mpr ⟨lw_p8, List.forall_mem_cons.mpr ⟨lw_p9, List.forall_mem_cons.mpr ⟨lw_p10, List.forall_mem_cons.mpr ⟨lw_p11, List.forall_mem_cons.mpr ⟨lw_p12, List.forall_mem_cons.mpr ⟨lw_p13, List.forall_mem_cons.mpr ⟨lw_p14, List.forall_mem_cons.mpr ⟨lw_p15, fun _ h => absurd h List.not_mem_nil⟩⟩⟩⟩⟩⟩⟩⟩⟩⟩⟩⟩⟩⟩⟩⟩
theorem lw_p16 : lw_okq (⟨"NestFinder", "holds", "(III)Z"⟩, 8) := ⟨⟨by decide +kernel, by decide +kernel⟩, List.mem_of_getElem? (i := 15) (by decide +kernel), List.mem_of_getElem? (i := 506) (by decide +kernel), List.mem_of_getElem? (i := 507) (by decide +kernel)⟩
theorem lw_p17 : lw_okq (⟨"NestFinder", "isSaidOfBlock", "(III)Z"⟩, 8) := ⟨⟨by decide +kernel, by decide +kernel⟩, List.mem_of_getElem? (i := 15) (by decide +kernel), List.mem_of_getElem? (i := 510) (by decide +kernel), List.mem_of_getElem? (i := 511) (by decide +kernel)⟩
theorem lw_p18 : lw_okq (⟨"NestFinder", "loopsWithArcs", "(II)I"⟩, 8) := ⟨⟨by decide +kernel, by decide +kernel⟩, List.mem_of_getElem? (i := 15) (by decide +kernel), List.mem_of_getElem? (i := 527) (by decide +kernel), List.mem_of_getElem? (i := 528) (by decide +kernel)⟩
theorem lw_p19 : lw_okq (⟨"NestFinder", "surveyWithArcs", "(II)V"⟩, 8) := ⟨⟨by decide +kernel, by decide +kernel⟩, List.mem_of_getElem? (i := 15) (by decide +kernel), List.mem_of_getElem? (i := 531) (by decide +kernel), List.mem_of_getElem? (i := 532) (by decide +kernel)⟩
theorem lw_p20 : lw_okq (⟨"NestFinder", "agreesWithSights", "(I)Z"⟩, 8) := ⟨⟨by decide +kernel, by decide +kernel⟩, List.mem_of_getElem? (i := 15) (by decide +kernel), List.mem_of_getElem? (i := 568) (by decide +kernel), List.mem_of_getElem? (i := 569) (by decide +kernel)⟩
theorem lw_p21 : lw_okq (⟨"NestFinder", "changeByDraw", "(I)V"⟩, 8) := ⟨⟨by decide +kernel, by decide +kernel⟩, List.mem_of_getElem? (i := 15) (by decide +kernel), List.mem_of_getElem? (i := 593) (by decide +kernel), List.mem_of_getElem? (i := 594) (by decide +kernel)⟩
theorem lw_p22 : lw_okq (⟨"NestFinderModel", "readGraph", "()I"⟩, 28) := ⟨⟨by decide +kernel, by decide +kernel⟩, List.mem_of_getElem? (i := 615) (by decide +kernel), List.mem_of_getElem? (i := 722) (by decide +kernel), List.mem_of_getElem? (i := 723) (by decide +kernel)⟩
theorem lw_p23 : lw_okq (⟨"NestFinderModel", "letterAt", "(I)I"⟩, 28) := ⟨⟨by decide +kernel, by decide +kernel⟩, List.mem_of_getElem? (i := 615) (by decide +kernel), List.mem_of_getElem? (i := 726) (by decide +kernel), List.mem_of_getElem? (i := 727) (by decide +kernel)⟩
theorem lw_p24 : lw_okq (⟨"NestFinderModel", "readBlock", "(II)Z"⟩, 28) := ⟨⟨by decide +kernel, by decide +kernel⟩, List.mem_of_getElem? (i := 615) (by decide +kernel), List.mem_of_getElem? (i := 731) (by decide +kernel), List.mem_of_getElem? (i := 732) (by decide +kernel)⟩
theorem lw_p25 : lw_okq (⟨"NestFinderModel", "find", "([I)V"⟩, 28) := ⟨⟨by decide +kernel, by decide +kernel⟩, List.mem_of_getElem? (i := 615) (by decide +kernel), List.mem_of_getElem? (i := 745) (by decide +kernel), List.mem_of_getElem? (i := 746) (by decide +kernel)⟩
theorem lw_p26 : lw_okq (⟨"NestFinderModel", "walk", "([I)V"⟩, 28) := ⟨⟨by decide +kernel, by decide +kernel⟩, List.mem_of_getElem? (i := 615) (by decide +kernel), List.mem_of_getElem? (i := 749) (by decide +kernel), List.mem_of_getElem? (i := 750) (by decide +kernel)⟩
theorem lw_p27 : lw_okq (⟨"NestFinderModel", "comeTo", "(II)V"⟩, 28) := ⟨⟨by decide +kernel, by decide +kernel⟩, List.mem_of_getElem? (i := 615) (by decide +kernel), List.mem_of_getElem? (i := 753) (by decide +kernel), List.mem_of_getElem? (i := 754) (by decide +kernel)⟩
theorem lw_p28 : lw_okq (⟨"NestFinderModel", "layEntries", "([I)V"⟩, 28) := ⟨⟨by decide +kernel, by decide +kernel⟩, List.mem_of_getElem? (i := 615) (by decide +kernel), List.mem_of_getElem? (i := 757) (by decide +kernel), List.mem_of_getElem? (i := 758) (by decide +kernel)⟩
theorem lw_p29 : lw_okq (⟨"NestFinderModel", "isAbove", "(II)Z"⟩, 28) := ⟨⟨by decide +kernel, by decide +kernel⟩, List.mem_of_getElem? (i := 615) (by decide +kernel), List.mem_of_getElem? (i := 764) (by decide +kernel), List.mem_of_getElem? (i := 765) (by decide +kernel)⟩
theorem lw_p30 : lw_okq (⟨"NestFinderModel", "bodyOf", "([II)I"⟩, 28) := ⟨⟨by decide +kernel, by decide +kernel⟩, List.mem_of_getElem? (i := 615) (by decide +kernel), List.mem_of_getElem? (i := 768) (by decide +kernel), List.mem_of_getElem? (i := 769) (by decide +kernel)⟩
theorem lw_p31 : lw_okq (⟨"NestFinderModel", "backs", "([II)I"⟩, 28) := ⟨⟨by decide +kernel, by decide +kernel⟩, List.mem_of_getElem? (i := 615) (by decide +kernel), List.mem_of_getElem? (i := 772) (by decide +kernel), List.mem_of_getElem? (i := 773) (by decide +kernel)⟩
def lw_privs_2 : List (MethodName × Nat) := [(⟨"NestFinder", "holds", "(III)Z"⟩, 8), (⟨"NestFinder", "isSaidOfBlock", "(III)Z"⟩, 8), (⟨"NestFinder", "loopsWithArcs", "(II)I"⟩, 8), (⟨"NestFinder", "surveyWithArcs", "(II)V"⟩, 8), (⟨"NestFinder", "agreesWithSights", "(I)Z"⟩, 8), (⟨"NestFinder", "changeByDraw", "(I)V"⟩, 8), (⟨"NestFinderModel", "readGraph", "()I"⟩, 28), (⟨"NestFinderModel", "letterAt", "(I)I"⟩, 28), (⟨"NestFinderModel", "readBlock", "(II)Z"⟩, 28), (⟨"NestFinderModel", "find", "([I)V"⟩, 28), (⟨"NestFinderModel", "walk", "([I)V"⟩, 28), (⟨"NestFinderModel", "comeTo", "(II)V"⟩, 28), (⟨"NestFinderModel", "layEntries", "([I)V"⟩, 28), (⟨"NestFinderModel", "isAbove", "(II)Z"⟩, 28), (⟨"NestFinderModel", "bodyOf", "([II)I"⟩, 28), (⟨"NestFinderModel", "backs", "([II)I"⟩, 28)]
theorem lw_r2 : ∀ q ∈ lw_privs_2, lw_okq q := List.forall_mem_cons.mpr ⟨lw_p16, List.forall_mem_cons.mpr ⟨lw_p17, List.forall_mem_cons.mpr ⟨lw_p18, List.forall_mem_cons.mpr ⟨lw_p19, List.forall_mem_cons.mpr ⟨lw_p20, List.forall_mem_cons.mpr ⟨lw_p21, List.forall_mem_cons.mpr ⟨lw_p22, List.forall_mem_cons.mpr ⟨lw_p23, List.forall_mem_cons.mpr ⟨lw_p24, List.forall_mem_cons.mpr ⟨lw_p25, List.forall_mem_cons.mpr ⟨lw_p26, List.forall_mem_cons.mpr ⟨lw_p27, List.forall_mem_cons.mpr ⟨lw_p28, List.forall_mem_cons.mpr ⟨lw_p29, List.forall_mem_cons.mpr ⟨lw_p30, List.forall_mem_cons.mpr ⟨lw_p31, fun _ h => absurd h List.not_mem_nil⟩⟩⟩⟩⟩⟩⟩⟩⟩⟩⟩⟩⟩⟩⟩⟩
theorem lw_p32 : lw_okq (⟨"NestFinderModel", "leader", "(I)I"⟩, 28) := ⟨⟨by decide +kernel, by decide +kernel⟩, List.mem_of_getElem? (i := 615) (by decide +kernel), List.mem_of_getElem? (i := 779) (by decide +kernel), List.mem_of_getElem? (i := 780) (by decide +kernel)⟩
theorem lw_p33 : lw_okq (⟨"NestFinderModel", "drawnBy", "(II)I"⟩, 28) := ⟨⟨by decide +kernel, by decide +kernel⟩, List.mem_of_getElem? (i := 615) (by decide +kernel), List.mem_of_getElem? (i := 783) (by decide +kernel), List.mem_of_getElem? (i := 784) (by decide +kernel)⟩
theorem lw_p34 : lw_okq (⟨"NestFinderModel", "kinds", "(I)I"⟩, 28) := ⟨⟨by decide +kernel, by decide +kernel⟩, List.mem_of_getElem? (i := 615) (by decide +kernel), List.mem_of_getElem? (i := 790) (by decide +kernel), List.mem_of_getElem? (i := 791) (by decide +kernel)⟩
theorem lw_p35 : lw_okq (⟨"NestFinderModel", "deepest", "()I"⟩, 28) := ⟨⟨by decide +kernel, by decide +kernel⟩, List.mem_of_getElem? (i := 615) (by decide +kernel), List.mem_of_getElem? (i := 794) (by decide +kernel), List.mem_of_getElem? (i := 795) (by decide +kernel)⟩
theorem lw_p36 : lw_okq (⟨"NestFinderModel", "depth", "(I)I"⟩, 28) := ⟨⟨by decide +kernel, by decide +kernel⟩, List.mem_of_getElem? (i := 615) (by decide +kernel), List.mem_of_getElem? (i := 798) (by decide +kernel), List.mem_of_getElem? (i := 799) (by decide +kernel)⟩
theorem lw_p37 : lw_okq (⟨"NestFinderModel", "isTame", "([I)Z"⟩, 28) := ⟨⟨by decide +kernel, by decide +kernel⟩, List.mem_of_getElem? (i := 615) (by decide +kernel), List.mem_of_getElem? (i := 802) (by decide +kernel), List.mem_of_getElem? (i := 803) (by decide +kernel)⟩
theorem lw_p38 : lw_okq (⟨"NestFinderModel", "backArcs", "([I)I"⟩, 28) := ⟨⟨by decide +kernel, by decide +kernel⟩, List.mem_of_getElem? (i := 615) (by decide +kernel), List.mem_of_getElem? (i := 812) (by decide +kernel), List.mem_of_getElem? (i := 813) (by decide +kernel)⟩
theorem lw_p39 : lw_okq (⟨"NestFinderModel", "noBlock", "(I)Z"⟩, 28) := ⟨⟨by decide +kernel, by decide +kernel⟩, List.mem_of_getElem? (i := 615) (by decide +kernel), List.mem_of_getElem? (i := 820) (by decide +kernel), List.mem_of_getElem? (i := 821) (by decide +kernel)⟩
theorem lw_p40 : lw_okq (⟨"NestFinderModel", "noArc", "(II)Z"⟩, 28) := ⟨⟨by decide +kernel, by decide +kernel⟩, List.mem_of_getElem? (i := 615) (by decide +kernel), List.mem_of_getElem? (i := 828) (by decide +kernel), List.mem_of_getElem? (i := 829) (by decide +kernel)⟩
theorem lw_p41 : lw_okq (⟨"NestFinderModel", "aboveSet", "(I)I"⟩, 28) := ⟨⟨by decide +kernel, by decide +kernel⟩, List.mem_of_getElem? (i := 615) (by decide +kernel), List.mem_of_getElem? (i := 837) (by decide +kernel), List.mem_of_getElem? (i := 838) (by decide +kernel)⟩
theorem lw_p42 : lw_okq (⟨"NestFinderModel", "nest", "(I)I"⟩, 28) := ⟨⟨by decide +kernel, by decide +kernel⟩, List.mem_of_getElem? (i := 615) (by decide +kernel), List.mem_of_getElem? (i := 841) (by decide +kernel), List.mem_of_getElem? (i := 842) (by decide +kernel)⟩
theorem lw_p43 : lw_okq (⟨"NestFinderModel", "note", "()V"⟩, 28) := ⟨⟨by decide +kernel, by decide +kernel⟩, List.mem_of_getElem? (i := 615) (by decide +kernel), List.mem_of_getElem? (i := 849) (by decide +kernel), List.mem_of_getElem? (i := 850) (by decide +kernel)⟩
theorem lw_p44 : lw_okq (⟨"NestFinderModel", "worst", "()I"⟩, 28) := ⟨⟨by decide +kernel, by decide +kernel⟩, List.mem_of_getElem? (i := 615) (by decide +kernel), List.mem_of_getElem? (i := 874) (by decide +kernel), List.mem_of_getElem? (i := 875) (by decide +kernel)⟩
theorem lw_p45 : lw_okq (⟨"NestFinderModel", "goMend", "([I)I"⟩, 28) := ⟨⟨by decide +kernel, by decide +kernel⟩, List.mem_of_getElem? (i := 615) (by decide +kernel), List.mem_of_getElem? (i := 878) (by decide +kernel), List.mem_of_getElem? (i := 879) (by decide +kernel)⟩
theorem lw_p46 : lw_okq (⟨"NestFinderModel", "mends", "([I)Z"⟩, 28) := ⟨⟨by decide +kernel, by decide +kernel⟩, List.mem_of_getElem? (i := 615) (by decide +kernel), List.mem_of_getElem? (i := 882) (by decide +kernel), List.mem_of_getElem? (i := 883) (by decide +kernel)⟩
theorem lw_p47 : lw_okq (⟨"NestFinderModel", "comes", "([III)I"⟩, 28) := ⟨⟨by decide +kernel, by decide +kernel⟩, List.mem_of_getElem? (i := 615) (by decide +kernel), List.mem_of_getElem? (i := 886) (by decide +kernel), List.mem_of_getElem? (i := 887) (by decide +kernel)⟩
def lw_privs_3 : List (MethodName × Nat) := [(⟨"NestFinderModel", "leader", "(I)I"⟩, 28), (⟨"NestFinderModel", "drawnBy", "(II)I"⟩, 28), (⟨"NestFinderModel", "kinds", "(I)I"⟩, 28), (⟨"NestFinderModel", "deepest", "()I"⟩, 28), (⟨"NestFinderModel", "depth", "(I)I"⟩, 28), (⟨"NestFinderModel", "isTame", "([I)Z"⟩, 28), (⟨"NestFinderModel", "backArcs", "([I)I"⟩, 28), (⟨"NestFinderModel", "noBlock", "(I)Z"⟩, 28), (⟨"NestFinderModel", "noArc", "(II)Z"⟩, 28), (⟨"NestFinderModel", "aboveSet", "(I)I"⟩, 28), (⟨"NestFinderModel", "nest", "(I)I"⟩, 28), (⟨"NestFinderModel", "note", "()V"⟩, 28), (⟨"NestFinderModel", "worst", "()I"⟩, 28), (⟨"NestFinderModel", "goMend", "([I)I"⟩, 28), (⟨"NestFinderModel", "mends", "([I)Z"⟩, 28), (⟨"NestFinderModel", "comes", "([III)I"⟩, 28)]
theorem lw_r3 : ∀ q ∈ lw_privs_3, lw_okq q := List.forall_mem_cons.mpr ⟨lw_p32, List.forall_mem_cons.mpr ⟨lw_p33, List.forall_mem_cons.mpr ⟨lw_p34, List.forall_mem_cons.mpr ⟨lw_p35, List.forall_mem_cons.mpr ⟨lw_p36, List.forall_mem_cons.mpr ⟨lw_p37, List.forall_mem_cons.mpr ⟨lw_p38, List.forall_mem_cons.mpr ⟨lw_p39, List.forall_mem_cons.mpr ⟨lw_p40, List.forall_mem_cons.mpr ⟨lw_p41, List.forall_mem_cons.mpr ⟨lw_p42, List.forall_mem_cons.mpr ⟨lw_p43, List.forall_mem_cons.mpr ⟨lw_p44, List.forall_mem_cons.mpr ⟨lw_p45, List.forall_mem_cons.mpr ⟨lw_p46, List.forall_mem_cons.mpr ⟨lw_p47, fun _ h => absurd h List.not_mem_nil⟩⟩⟩⟩⟩⟩⟩⟩⟩⟩⟩⟩⟩⟩⟩⟩
theorem lw_p48 : lw_okq (⟨"NestFinderModel", "runs", "(II)I"⟩, 28) := ⟨⟨by decide +kernel, by decide +kernel⟩, List.mem_of_getElem? (i := 615) (by decide +kernel), List.mem_of_getElem? (i := 904) (by decide +kernel), List.mem_of_getElem? (i := 905) (by decide +kernel)⟩
theorem lw_p49 : lw_okq (⟨"NestFinderModel", "step", "(II)I"⟩, 28) := ⟨⟨by decide +kernel, by decide +kernel⟩, List.mem_of_getElem? (i := 615) (by decide +kernel), List.mem_of_getElem? (i := 908) (by decide +kernel), List.mem_of_getElem? (i := 909) (by decide +kernel)⟩
theorem lw_p50 : lw_okq (⟨"NestFinderModel", "begin", "()V"⟩, 28) := ⟨⟨by decide +kernel, by decide +kernel⟩, List.mem_of_getElem? (i := 615) (by decide +kernel), List.mem_of_getElem? (i := 917) (by decide +kernel), List.mem_of_getElem? (i := 918) (by decide +kernel)⟩
theorem lw_p51 : lw_okq (⟨"NestFinderModel", "does", "(I)Z"⟩, 28) := ⟨⟨by decide +kernel, by decide +kernel⟩, List.mem_of_getElem? (i := 615) (by decide +kernel), List.mem_of_getElem? (i := 930) (by decide +kernel), List.mem_of_getElem? (i := 931) (by decide +kernel)⟩
theorem lw_p52 : lw_okq (⟨"NestFinderModel", "adds", "(II)Z"⟩, 28) := ⟨⟨by decide +kernel, by decide +kernel⟩, List.mem_of_getElem? (i := 615) (by decide +kernel), List.mem_of_getElem? (i := 934) (by decide +kernel), List.mem_of_getElem? (i := 935) (by decide +kernel)⟩
theorem lw_p53 : lw_okq (⟨"NestFinderModel", "cuts", "(II)Z"⟩, 28) := ⟨⟨by decide +kernel, by decide +kernel⟩, List.mem_of_getElem? (i := 615) (by decide +kernel), List.mem_of_getElem? (i := 938) (by decide +kernel), List.mem_of_getElem? (i := 939) (by decide +kernel)⟩
theorem lw_p54 : lw_okq (⟨"NestFinderModel", "splits", "(II)Z"⟩, 28) := ⟨⟨by decide +kernel, by decide +kernel⟩, List.mem_of_getElem? (i := 615) (by decide +kernel), List.mem_of_getElem? (i := 942) (by decide +kernel), List.mem_of_getElem? (i := 943) (by decide +kernel)⟩
theorem lw_p55 : lw_okq (⟨"NestFinderModel", "isSo", "(III)Z"⟩, 28) := ⟨⟨by decide +kernel, by decide +kernel⟩, List.mem_of_getElem? (i := 615) (by decide +kernel), List.mem_of_getElem? (i := 946) (by decide +kernel), List.mem_of_getElem? (i := 947) (by decide +kernel)⟩
theorem lw_p56 : lw_okq (⟨"NestFinderModel", "keepArcs", "(II)V"⟩, 28) := ⟨⟨by decide +kernel, by decide +kernel⟩, List.mem_of_getElem? (i := 615) (by decide +kernel), List.mem_of_getElem? (i := 954) (by decide +kernel), List.mem_of_getElem? (i := 955) (by decide +kernel)⟩
theorem lw_p57 : lw_okq (⟨"NestFinderModel", "actBehind", "(II)I"⟩, 28) := ⟨⟨by decide +kernel, by decide +kernel⟩, List.mem_of_getElem? (i := 615) (by decide +kernel), List.mem_of_getElem? (i := 982) (by decide +kernel), List.mem_of_getElem? (i := 983) (by decide +kernel)⟩
def lw_privs_4 : List (MethodName × Nat) := [(⟨"NestFinderModel", "runs", "(II)I"⟩, 28), (⟨"NestFinderModel", "step", "(II)I"⟩, 28), (⟨"NestFinderModel", "begin", "()V"⟩, 28), (⟨"NestFinderModel", "does", "(I)Z"⟩, 28), (⟨"NestFinderModel", "adds", "(II)Z"⟩, 28), (⟨"NestFinderModel", "cuts", "(II)Z"⟩, 28), (⟨"NestFinderModel", "splits", "(II)Z"⟩, 28), (⟨"NestFinderModel", "isSo", "(III)Z"⟩, 28), (⟨"NestFinderModel", "keepArcs", "(II)V"⟩, 28), (⟨"NestFinderModel", "actBehind", "(II)I"⟩, 28)]
theorem lw_r4 : ∀ q ∈ lw_privs_4, lw_okq q := List.forall_mem_cons.mpr ⟨lw_p48, List.forall_mem_cons.mpr ⟨lw_p49, List.forall_mem_cons.mpr ⟨lw_p50, List.forall_mem_cons.mpr ⟨lw_p51, List.forall_mem_cons.mpr ⟨lw_p52, List.forall_mem_cons.mpr ⟨lw_p53, List.forall_mem_cons.mpr ⟨lw_p54, List.forall_mem_cons.mpr ⟨lw_p55, List.forall_mem_cons.mpr ⟨lw_p56, List.forall_mem_cons.mpr ⟨lw_p57, fun _ h => absurd h List.not_mem_nil⟩⟩⟩⟩⟩⟩⟩⟩⟩⟩
def lw_privs : List (MethodName × Nat) := lw_privs_1 ++ (lw_privs_2 ++ (lw_privs_3 ++ (lw_privs_4)))
def lw_tbl : List Cond := k2_sels lw_privs ++ tables_1
theorem lw_privs_ok : ∀ q ∈ lw_privs, lw_okq q := by
  show ∀ q ∈ lw_privs_1 ++ (lw_privs_2 ++ (lw_privs_3 ++ (lw_privs_4))), lw_okq q
  exact List.forall_mem_append.mpr ⟨lw_r1, List.forall_mem_append.mpr ⟨lw_r2, List.forall_mem_append.mpr ⟨lw_r3, lw_r4⟩⟩⟩
end
section
/-! ===== BEGIN printed: names, fields, word lists, decode rows ===== -/
def RX0 : String := "NestFinder$Graph"
def TX0 : u_T := fun k => match k with
  | 0 => ("NestFinder$Graph", "acts", "[I", true)
  | 1 => ("NestFinder$Graph", "counts", "[I", true)
  | 2 => ("NestFinder$Graph", "arcs", "[I", true)
  | _ => ("NestFinder$Graph", "size", "I", false)
def tyX0 : Nat → FieldType := fun k => match k with
  | 0 => .array .int
  | 1 => .array .int
  | 2 => .array .int
  | _ => .int
abbrev wsX00 : List Cond := u_ws RX0 TX0 4
theorem nmX0 : ∀ a, a < 4 → ∀ b, b < 4 → a ≠ b → (TX0 a).2.1 ≠ (TX0 b).2.1 := by decide +kernel
theorem tyX0_ok : ∀ k, k < 4 → parseFieldDescriptor (TX0 k).2.2.1 = some (tyX0 k) := by decide +kernel
abbrev cX0_init : ByteArray := prog_2_method_1_code
def yX0_init : MethodName := ⟨RX0, "<init>", "()V"⟩
abbrev cX0_copyFrom : ByteArray := prog_2_method_2_code
def yX0_copyFrom : MethodName := ⟨RX0, "copyFrom", "(LNestFinder$Graph;)V"⟩
abbrev cX0_hasBlock : ByteArray := prog_2_method_3_code
def yX0_hasBlock : MethodName := ⟨RX0, "hasBlock", "(I)Z"⟩
abbrev cX0_hasArc : ByteArray := prog_2_method_4_code
def yX0_hasArc : MethodName := ⟨RX0, "hasArc", "(II)Z"⟩
abbrev cX0_target : ByteArray := prog_2_method_5_code
def yX0_target : MethodName := ⟨RX0, "target", "(II)I"⟩
abbrev cX0_countArcs : ByteArray := prog_2_method_6_code
def yX0_countArcs : MethodName := ⟨RX0, "countArcs", "()I"⟩
abbrev cX0_follow : ByteArray := prog_2_method_7_code
def yX0_follow : MethodName := ⟨RX0, "follow", "(II)I"⟩
abbrev cX0_appendBlock : ByteArray := prog_2_method_8_code
def yX0_appendBlock : MethodName := ⟨RX0, "appendBlock", "(I)Z"⟩
abbrev cX0_appendArcToLast : ByteArray := prog_2_method_9_code
def yX0_appendArcToLast : MethodName := ⟨RX0, "appendArcToLast", "(I)Z"⟩
abbrev cX0_putArcBehind : ByteArray := prog_2_method_10_code
def yX0_putArcBehind : MethodName := ⟨RX0, "putArcBehind", "(II)V"⟩
abbrev cX0_appendArc : ByteArray := prog_2_method_11_code
def yX0_appendArc : MethodName := ⟨RX0, "appendArc", "(II)I"⟩
abbrev cX0_dropArc : ByteArray := prog_2_method_12_code
def yX0_dropArc : MethodName := ⟨RX0, "dropArc", "(II)I"⟩
abbrev cX0_keepArcs : ByteArray := prog_2_method_13_code
def yX0_keepArcs : MethodName := ⟨RX0, "keepArcs", "(II)V"⟩
abbrev cX0_copyBlockFor : ByteArray := prog_2_method_14_code
def yX0_copyBlockFor : MethodName := ⟨RX0, "copyBlockFor", "(II)I"⟩
abbrev cX0_goesTo : ByteArray := prog_2_method_15_code
def yX0_goesTo : MethodName := ⟨RX0, "goesTo", "(II)Z"⟩
abbrev cX0_turnArcs : ByteArray := prog_2_method_16_code
def yX0_turnArcs : MethodName := ⟨RX0, "turnArcs", "(III)V"⟩
def RX1 : String := "NestFinder$History"
def TX1 : u_T := fun k => match k with
  | 0 => ("NestFinder$History", "before", "LNestFinder$Shelf;", true)
  | 1 => ("NestFinder$History", "first", "I", false)
  | _ => ("NestFinder$History", "count", "I", false)
def tyX1 : Nat → FieldType := fun k => match k with
  | 0 => .object "NestFinder$Shelf"
  | 1 => .int
  | _ => .int
abbrev wsX10 : List Cond := u_ws RX1 TX1 3
theorem nmX1 : ∀ a, a < 3 → ∀ b, b < 3 → a ≠ b → (TX1 a).2.1 ≠ (TX1 b).2.1 := by decide +kernel
theorem tyX1_ok : ∀ k, k < 3 → parseFieldDescriptor (TX1 k).2.2.1 = some (tyX1 k) := by decide +kernel
abbrev cX1_init : ByteArray := prog_3_method_1_code
def yX1_init : MethodName := ⟨RX1, "<init>", "()V"⟩
abbrev cX1_forget : ByteArray := prog_3_method_2_code
def yX1_forget : MethodName := ⟨RX1, "forget", "()V"⟩
abbrev cX1_remember : ByteArray := prog_3_method_3_code
def yX1_remember : MethodName := ⟨RX1, "remember", "(LNestFinder$Graph;)V"⟩
abbrev cX1_bringLastBack : ByteArray := prog_3_method_4_code
def yX1_bringLastBack : MethodName := ⟨RX1, "bringLastBack", "(LNestFinder$Graph;)V"⟩
def RX2 : String := "NestFinder$Shelf"
def TX2 : u_T := fun k => match k with
  | 0 => ("NestFinder$Shelf", "sizes", "[I", true)
  | 1 => ("NestFinder$Shelf", "acts", "[I", true)
  | 2 => ("NestFinder$Shelf", "counts", "[I", true)
  | _ => ("NestFinder$Shelf", "arcs", "[I", true)
def tyX2 : Nat → FieldType := fun k => match k with
  | 0 => .array .int
  | 1 => .array .int
  | 2 => .array .int
  | _ => .array .int
abbrev wsX20 : List Cond := u_ws RX2 TX2 4
theorem nmX2 : ∀ a, a < 4 → ∀ b, b < 4 → a ≠ b → (TX2 a).2.1 ≠ (TX2 b).2.1 := by decide +kernel
theorem tyX2_ok : ∀ k, k < 4 → parseFieldDescriptor (TX2 k).2.2.1 = some (tyX2 k) := by decide +kernel
abbrev cX2_init : ByteArray := prog_4_method_1_code
def yX2_init : MethodName := ⟨RX2, "<init>", "(I)V"⟩
abbrev cX2_store : ByteArray := prog_4_method_2_code
def yX2_store : MethodName := ⟨RX2, "store", "(ILNestFinder$Graph;)V"⟩
abbrev cX2_bringBack : ByteArray := prog_4_method_3_code
def yX2_bringBack : MethodName := ⟨RX2, "bringBack", "(ILNestFinder$Graph;)V"⟩
def RX3 : String := "NestFinder$Sights"
def TX3 : u_T := fun k => match k with
  | 0 => ("NestFinder$Sights", "behind", "[I", true)
  | 1 => ("NestFinder$Sights", "letter", "[I", true)
  | 2 => ("NestFinder$Sights", "was", "[Z", true)
  | _ => ("NestFinder$Sights", "count", "I", false)
def tyX3 : Nat → FieldType := fun k => match k with
  | 0 => .array .int
  | 1 => .array .int
  | 2 => .array .boolean
  | _ => .int
abbrev wsX30 : List Cond := u_ws RX3 TX3 4
theorem nmX3 : ∀ a, a < 4 → ∀ b, b < 4 → a ≠ b → (TX3 a).2.1 ≠ (TX3 b).2.1 := by decide +kernel
theorem tyX3_ok : ∀ k, k < 4 → parseFieldDescriptor (TX3 k).2.2.1 = some (tyX3 k) := by decide +kernel
abbrev cX3_init : ByteArray := prog_5_method_1_code
def yX3_init : MethodName := ⟨RX3, "<init>", "()V"⟩
abbrev cX3_append : ByteArray := prog_5_method_2_code
def yX3_append : MethodName := ⟨RX3, "append", "(III)I"⟩
abbrev cX3_clear : ByteArray := prog_5_method_3_code
def yX3_clear : MethodName := ⟨RX3, "clear", "()I"⟩
abbrev cX3_agree : ByteArray := prog_5_method_4_code
def yX3_agree : MethodName := ⟨RX3, "agree", "(II)Z"⟩
def RX4 : String := "NestFinder$Slots"
def TX4 : u_T := fun k => match k with
  | 0 => ("NestFinder$Slots", "kept", "LNestFinder$Shelf;", true)
  | _ => ("NestFinder$Slots", "isFilled", "[Z", true)
def tyX4 : Nat → FieldType := fun k => match k with
  | 0 => .object "NestFinder$Shelf"
  | _ => .array .boolean
abbrev wsX40 : List Cond := u_ws RX4 TX4 2
theorem nmX4 : ∀ a, a < 2 → ∀ b, b < 2 → a ≠ b → (TX4 a).2.1 ≠ (TX4 b).2.1 := by decide +kernel
theorem tyX4_ok : ∀ k, k < 2 → parseFieldDescriptor (TX4 k).2.2.1 = some (tyX4 k) := by decide +kernel
abbrev cX4_init : ByteArray := prog_6_method_1_code
def yX4_init : MethodName := ⟨RX4, "<init>", "()V"⟩
abbrev cX4_forget : ByteArray := prog_6_method_2_code
def yX4_forget : MethodName := ⟨RX4, "forget", "()V"⟩
abbrev cX4_store : ByteArray := prog_6_method_3_code
def yX4_store : MethodName := ⟨RX4, "store", "(ILNestFinder$Graph;)V"⟩
abbrev cX4_bringBack : ByteArray := prog_6_method_4_code
def yX4_bringBack : MethodName := ⟨RX4, "bringBack", "(ILNestFinder$Graph;)V"⟩
def RX5 : String := "NestFinder$Survey"
def TX5 : u_T := fun k => match k with
  | 0 => ("NestFinder$Survey", "order", "[I", true)
  | 1 => ("NestFinder$Survey", "blockAt", "[I", true)
  | 2 => ("NestFinder$Survey", "beneath", "[I", true)
  | 3 => ("NestFinder$Survey", "targets", "[I", true)
  | 4 => ("NestFinder$Survey", "backers", "[I", true)
  | 5 => ("NestFinder$Survey", "entries", "[I", true)
  | 6 => ("NestFinder$Survey", "header", "[I", true)
  | 7 => ("NestFinder$Survey", "type", "[I", true)
  | 8 => ("NestFinder$Survey", "reached", "I", false)
  | 9 => ("NestFinder$Survey", "reachedMask", "I", false)
  | _ => ("NestFinder$Survey", "backwardArcs", "I", false)
def tyX5 : Nat → FieldType := fun k => match k with
  | 0 => .array .int
  | 1 => .array .int
  | 2 => .array .int
  | 3 => .array .int
  | 4 => .array .int
  | 5 => .array .int
  | 6 => .array .int
  | 7 => .array .int
  | 8 => .int
  | 9 => .int
  | _ => .int
abbrev wsX50 : List Cond := u_ws RX5 TX5 11
theorem nmX5 : ∀ a, a < 11 → ∀ b, b < 11 → a ≠ b → (TX5 a).2.1 ≠ (TX5 b).2.1 := by decide +kernel
theorem tyX5_ok : ∀ k, k < 11 → parseFieldDescriptor (TX5 k).2.2.1 = some (tyX5 k) := by decide +kernel
abbrev cX5_init : ByteArray := prog_7_method_1_code
def yX5_init : MethodName := ⟨RX5, "<init>", "()V"⟩
abbrev cX5_read : ByteArray := prog_7_method_2_code
def yX5_read : MethodName := ⟨RX5, "read", "(LNestFinder$Graph;)V"⟩
abbrev cX5_clear : ByteArray := prog_7_method_3_code
def yX5_clear : MethodName := ⟨RX5, "clear", "()V"⟩
abbrev cX5_visit : ByteArray := prog_7_method_4_code
def yX5_visit : MethodName := ⟨RX5, "visit", "(LNestFinder$Graph;II)I"⟩
abbrev cX5_sortArcs : ByteArray := prog_7_method_5_code
def yX5_sortArcs : MethodName := ⟨RX5, "sortArcs", "(LNestFinder$Graph;I)V"⟩
abbrev cX5_gather : ByteArray := prog_7_method_6_code
def yX5_gather : MethodName := ⟨RX5, "gather", "(I)V"⟩
abbrev cX5_leadersOf : ByteArray := prog_7_method_7_code
def yX5_leadersOf : MethodName := ⟨RX5, "leadersOf", "(I)I"⟩
abbrev cX5_leaderOf : ByteArray := prog_7_method_8_code
def yX5_leaderOf : MethodName := ⟨RX5, "leaderOf", "(I)I"⟩
abbrev cX5_hasOrder : ByteArray := prog_7_method_9_code
def yX5_hasOrder : MethodName := ⟨RX5, "hasOrder", "(I)Z"⟩
abbrev cX5_countLoops : ByteArray := prog_7_method_10_code
def yX5_countLoops : MethodName := ⟨RX5, "countLoops", "()I"⟩
abbrev cX5_countManyEntered : ByteArray := prog_7_method_11_code
def yX5_countManyEntered : MethodName := ⟨RX5, "countManyEntered", "()I"⟩
abbrev cX5_lastManyEntered : ByteArray := prog_7_method_12_code
def yX5_lastManyEntered : MethodName := ⟨RX5, "lastManyEntered", "()I"⟩
abbrev cX5_depthOf : ByteArray := prog_7_method_13_code
def yX5_depthOf : MethodName := ⟨RX5, "depthOf", "(I)I"⟩
abbrev cX5_greatestDepth : ByteArray := prog_7_method_14_code
def yX5_greatestDepth : MethodName := ⟨RX5, "greatestDepth", "()I"⟩
abbrev cX5_nestOf : ByteArray := prog_7_method_15_code
def yX5_nestOf : MethodName := ⟨RX5, "nestOf", "(I)I"⟩
abbrev cX5_isTame : ByteArray := prog_7_method_16_code
def yX5_isTame : MethodName := ⟨RX5, "isTame", "()Z"⟩
abbrev cX5_passedBy : ByteArray := prog_7_method_17_code
def yX5_passedBy : MethodName := ⟨RX5, "passedBy", "(I)I"⟩
abbrev cX5_reachedWithout : ByteArray := prog_7_method_18_code
def yX5_reachedWithout : MethodName := ⟨RX5, "reachedWithout", "(I)I"⟩
def RX6 : String := "NestFinder$Text"
def TX6 : u_T := fun k => match k with
  | 0 => ("NestFinder$Text", "letters", "[I", true)
  | _ => ("NestFinder$Text", "length", "I", false)
def tyX6 : Nat → FieldType := fun k => match k with
  | 0 => .array .int
  | _ => .int
abbrev wsX60 : List Cond := u_ws RX6 TX6 2
theorem nmX6 : ∀ a, a < 2 → ∀ b, b < 2 → a ≠ b → (TX6 a).2.1 ≠ (TX6 b).2.1 := by decide +kernel
theorem tyX6_ok : ∀ k, k < 2 → parseFieldDescriptor (TX6 k).2.2.1 = some (tyX6 k) := by decide +kernel
abbrev cX6_init : ByteArray := prog_8_method_1_code
def yX6_init : MethodName := ⟨RX6, "<init>", "()V"⟩
abbrev cX6_append : ByteArray := prog_8_method_2_code
def yX6_append : MethodName := ⟨RX6, "append", "(I)I"⟩
abbrev cX6_clear : ByteArray := prog_8_method_3_code
def yX6_clear : MethodName := ⟨RX6, "clear", "()I"⟩
abbrev cX6_readInto : ByteArray := prog_8_method_4_code
def yX6_readInto : MethodName := ⟨RX6, "readInto", "(LNestFinder$Graph;)I"⟩
abbrev cX6_readLetter : ByteArray := prog_8_method_5_code
def yX6_readLetter : MethodName := ⟨RX6, "readLetter", "(LNestFinder$Graph;II)Z"⟩
def RX7 : String := "NestFinder"
def TX7 : u_T := fun k => match k with
  | 0 => ("NestFinder", "text", "LNestFinder$Text;", true)
  | 1 => ("NestFinder", "now", "LNestFinder$Graph;", true)
  | 2 => ("NestFinder", "trial", "LNestFinder$Graph;", true)
  | 3 => ("NestFinder", "survey", "LNestFinder$Survey;", true)
  | 4 => ("NestFinder", "history", "LNestFinder$History;", true)
  | 5 => ("NestFinder", "slots", "LNestFinder$Slots;", true)
  | 6 => ("NestFinder", "sights", "LNestFinder$Sights;", true)
  | _ => ("NestFinder", "seedNow", "J", false)
def tyX7 : Nat → FieldType := fun k => match k with
  | 0 => .object "NestFinder$Text"
  | 1 => .object "NestFinder$Graph"
  | 2 => .object "NestFinder$Graph"
  | 3 => .object "NestFinder$Survey"
  | 4 => .object "NestFinder$History"
  | 5 => .object "NestFinder$Slots"
  | 6 => .object "NestFinder$Sights"
  | _ => .long
abbrev wsX70 : List Cond := u_ws RX7 TX7 8
theorem nmX7 : ∀ a, a < 8 → ∀ b, b < 8 → a ≠ b → (TX7 a).2.1 ≠ (TX7 b).2.1 := by decide +kernel
theorem tyX7_ok : ∀ k, k < 8 → parseFieldDescriptor (TX7 k).2.2.1 = some (tyX7 k) := by decide +kernel
abbrev cX7_init : ByteArray := prog_1_method_1_code
def yX7_init : MethodName := ⟨RX7, "<init>", "()V"⟩
abbrev cX7_write : ByteArray := prog_1_method_2_code
def yX7_write : MethodName := ⟨RX7, "write", "(I)I"⟩
abbrev cX7_wipe : ByteArray := prog_1_method_3_code
def yX7_wipe : MethodName := ⟨RX7, "wipe", "()I"⟩
abbrev cX7_fault : ByteArray := prog_1_method_4_code
def yX7_fault : MethodName := ⟨RX7, "fault", "()I"⟩
abbrev cX7_graph : ByteArray := prog_1_method_5_code
def yX7_graph : MethodName := ⟨RX7, "graph", "()I"⟩
abbrev cX7_about : ByteArray := prog_1_method_6_code
def yX7_about : MethodName := ⟨RX7, "about", "(I)I"⟩
abbrev cX7_aboutLoops : ByteArray := prog_1_method_7_code
def yX7_aboutLoops : MethodName := ⟨RX7, "aboutLoops", "(I)I"⟩
abbrev cX7_block : ByteArray := prog_1_method_8_code
def yX7_block : MethodName := ⟨RX7, "block", "(II)I"⟩
abbrev cX7_arc : ByteArray := prog_1_method_9_code
def yX7_arc : MethodName := ⟨RX7, "arc", "(II)I"⟩
abbrev cX7_sets : ByteArray := prog_1_method_10_code
def yX7_sets : MethodName := ⟨RX7, "sets", "(II)I"⟩
abbrev cX7_add : ByteArray := prog_1_method_11_code
def yX7_add : MethodName := ⟨RX7, "add", "(II)I"⟩
abbrev cX7_cut : ByteArray := prog_1_method_12_code
def yX7_cut : MethodName := ⟨RX7, "cut", "(II)I"⟩
abbrev cX7_split : ByteArray := prog_1_method_13_code
def yX7_split : MethodName := ⟨RX7, "split", "(II)I"⟩
abbrev cX7_mend : ByteArray := prog_1_method_14_code
def yX7_mend : MethodName := ⟨RX7, "mend", "()I"⟩
abbrev cX7_undo : ByteArray := prog_1_method_15_code
def yX7_undo : MethodName := ⟨RX7, "undo", "()I"⟩
abbrev cX7_settle : ByteArray := prog_1_method_16_code
def yX7_settle : MethodName := ⟨RX7, "settle", "(I)I"⟩
abbrev cX7_mendTrial : ByteArray := prog_1_method_17_code
def yX7_mendTrial : MethodName := ⟨RX7, "mendTrial", "()I"⟩
abbrev cX7_mendOnce : ByteArray := prog_1_method_18_code
def yX7_mendOnce : MethodName := ⟨RX7, "mendOnce", "()Z"⟩
abbrev cX7_leastTarget : ByteArray := prog_1_method_19_code
def yX7_leastTarget : MethodName := ⟨RX7, "leastTarget", "(II)I"⟩
abbrev cX7_leastSource : ByteArray := prog_1_method_20_code
def yX7_leastSource : MethodName := ⟨RX7, "leastSource", "(II)I"⟩
abbrev cX7_run : ByteArray := prog_1_method_21_code
def yX7_run : MethodName := ⟨RX7, "run", "(III)I"⟩
abbrev cX7_areChoices : ByteArray := prog_1_method_22_code
def yX7_areChoices : MethodName := ⟨RX7, "areChoices", "(II)Z"⟩
abbrev cX7_would : ByteArray := prog_1_method_23_code
def yX7_would : MethodName := ⟨RX7, "would", "(I)I"⟩
abbrev cX7_judge : ByteArray := prog_1_method_24_code
def yX7_judge : MethodName := ⟨RX7, "judge", "(IJ)I"⟩
abbrev cX7_holds : ByteArray := prog_1_method_25_code
def yX7_holds : MethodName := ⟨RX7, "holds", "(III)Z"⟩
abbrev cX7_isSaidOfBlock : ByteArray := prog_1_method_26_code
def yX7_isSaidOfBlock : MethodName := ⟨RX7, "isSaidOfBlock", "(III)Z"⟩
abbrev cX7_share : ByteArray := prog_1_method_27_code
def yX7_share : MethodName := ⟨RX7, "share", "(IIZ)I"⟩
abbrev cX7_loopsWithArcs : ByteArray := prog_1_method_28_code
def yX7_loopsWithArcs : MethodName := ⟨RX7, "loopsWithArcs", "(II)I"⟩
abbrev cX7_surveyWithArcs : ByteArray := prog_1_method_29_code
def yX7_surveyWithArcs : MethodName := ⟨RX7, "surveyWithArcs", "(II)V"⟩
abbrev cX7_see : ByteArray := prog_1_method_30_code
def yX7_see : MethodName := ⟨RX7, "see", "(III)I"⟩
abbrev cX7_unsee : ByteArray := prog_1_method_31_code
def yX7_unsee : MethodName := ⟨RX7, "unsee", "()I"⟩
abbrev cX7_rows : ByteArray := prog_1_method_32_code
def yX7_rows : MethodName := ⟨RX7, "rows", "(I)I"⟩
abbrev cX7_choicesOf : ByteArray := prog_1_method_33_code
def yX7_choicesOf : MethodName := ⟨RX7, "choicesOf", "(I)I"⟩
abbrev cX7_agreesWithSights : ByteArray := prog_1_method_34_code
def yX7_agreesWithSights : MethodName := ⟨RX7, "agreesWithSights", "(I)Z"⟩
abbrev cX7_torn : ByteArray := prog_1_method_35_code
def yX7_torn : MethodName := ⟨RX7, "torn", "(IIZ)I"⟩
abbrev cX7_seed : ByteArray := prog_1_method_36_code
def yX7_seed : MethodName := ⟨RX7, "seed", "(J)J"⟩
abbrev cX7_drawn : ByteArray := prog_1_method_37_code
def yX7_drawn : MethodName := ⟨RX7, "drawn", "(I)I"⟩
abbrev cX7_changeByDraw : ByteArray := prog_1_method_38_code
def yX7_changeByDraw : MethodName := ⟨RX7, "changeByDraw", "(I)V"⟩
abbrev cX7_keep : ByteArray := prog_1_method_39_code
def yX7_keep : MethodName := ⟨RX7, "keep", "(I)I"⟩
abbrev cX7_again : ByteArray := prog_1_method_40_code
def yX7_again : MethodName := ⟨RX7, "again", "(I)I"⟩
abbrev cX7_figure : ByteArray := prog_1_method_41_code
def yX7_figure : MethodName := ⟨RX7, "figure", "(JI)I"⟩
abbrev cX7_tens : ByteArray := prog_1_method_42_code
def yX7_tens : MethodName := ⟨RX7, "tens", "(I)J"⟩
abbrev cX7_power : ByteArray := prog_1_method_43_code
def yX7_power : MethodName := ⟨RX7, "power", "(II)I"⟩
abbrev cX7_factorial : ByteArray := prog_1_method_44_code
def yX7_factorial : MethodName := ⟨RX7, "factorial", "(I)I"⟩
abbrev cX7_inLeastTerms : ByteArray := prog_1_method_45_code
def yX7_inLeastTerms : MethodName := ⟨RX7, "inLeastTerms", "(IIZ)I"⟩
abbrev cX7_greatestDivisor : ByteArray := prog_1_method_46_code
def yX7_greatestDivisor : MethodName := ⟨RX7, "greatestDivisor", "(II)I"⟩
abbrev cX7_leastOf : ByteArray := prog_1_method_47_code
def yX7_leastOf : MethodName := ⟨RX7, "leastOf", "(I)I"⟩
def RX8 : String := "NestFinderModel"
def TX8 : u_T := fun k => match k with
  | 0 => ("NestFinderModel", "thrown", "I", false)
  | 1 => ("NestFinderModel", "text", "[I", true)
  | 2 => ("NestFinderModel", "textSize", "I", false)
  | 3 => ("NestFinderModel", "place", "I", false)
  | 4 => ("NestFinderModel", "readPage", "[I", true)
  | 5 => ("NestFinderModel", "page", "[I", true)
  | 6 => ("NestFinderModel", "trial", "[I", true)
  | 7 => ("NestFinderModel", "book", "[I", true)
  | 8 => ("NestFinderModel", "doings", "I", false)
  | 9 => ("NestFinderModel", "kept", "[I", true)
  | 10 => ("NestFinderModel", "isKept", "[Z", true)
  | 11 => ("NestFinderModel", "seen", "I", false)
  | 12 => ("NestFinderModel", "seenWhen", "[I", true)
  | 13 => ("NestFinderModel", "seenLetter", "[I", true)
  | 14 => ("NestFinderModel", "seenIs", "[I", true)
  | 15 => ("NestFinderModel", "seed", "J", false)
  | 16 => ("NestFinderModel", "orders", "I", false)
  | 17 => ("NestFinderModel", "order", "[I", true)
  | 18 => ("NestFinderModel", "last", "[I", true)
  | 19 => ("NestFinderModel", "stack", "[I", true)
  | 20 => ("NestFinderModel", "next", "[I", true)
  | 21 => ("NestFinderModel", "header", "[I", true)
  | 22 => ("NestFinderModel", "kind", "[I", true)
  | 23 => ("NestFinderModel", "entries", "[I", true)
  | 24 => ("NestFinderModel", "part", "[I", true)
  | 25 => ("NestFinderModel", "rowMany", "I", false)
  | 26 => ("NestFinderModel", "rowFirst", "I", false)
  | _ => ("NestFinderModel", "value", "[I", true)
def tyX8 : Nat → FieldType := fun k => match k with
  | 0 => .int
  | 1 => .array .int
  | 2 => .int
  | 3 => .int
  | 4 => .array .int
  | 5 => .array .int
  | 6 => .array .int
  | 7 => .array .int
  | 8 => .int
  | 9 => .array .int
  | 10 => .array .boolean
  | 11 => .int
  | 12 => .array .int
  | 13 => .array .int
  | 14 => .array .int
  | 15 => .long
  | 16 => .int
  | 17 => .array .int
  | 18 => .array .int
  | 19 => .array .int
  | 20 => .array .int
  | 21 => .array .int
  | 22 => .array .int
  | 23 => .array .int
  | 24 => .array .int
  | 25 => .int
  | 26 => .int
  | _ => .array .int
abbrev wsX80 : List Cond := u_ws RX8 TX8 28
theorem nmX8 : ∀ a, a < 28 → ∀ b, b < 28 → a ≠ b → (TX8 a).2.1 ≠ (TX8 b).2.1 := by decide +kernel
theorem tyX8_ok : ∀ k, k < 28 → parseFieldDescriptor (TX8 k).2.2.1 = some (tyX8 k) := by decide +kernel
abbrev cX8_init : ByteArray := prog_10_method_1_code
def yX8_init : MethodName := ⟨RX8, "<init>", "()V"⟩
abbrev cX8_in : ByteArray := prog_10_method_3_code
def yX8_in : MethodName := ⟨RX8, "in", "(JJJ)Z"⟩
abbrev cX8_has : ByteArray := prog_10_method_4_code
def yX8_has : MethodName := ⟨RX8, "has", "(II)Z"⟩
abbrev cX8_many : ByteArray := prog_10_method_5_code
def yX8_many : MethodName := ⟨RX8, "many", "(I)I"⟩
abbrev cX8_power : ByteArray := prog_10_method_6_code
def yX8_power : MethodName := ⟨RX8, "power", "(II)I"⟩
abbrev cX8_noBlock : ByteArray := prog_10_method_7_code
def yX8_noBlock : MethodName := ⟨RX8, "noBlock", "(I)Z"⟩
abbrev cX8_noArc : ByteArray := prog_10_method_8_code
def yX8_noArc : MethodName := ⟨RX8, "noArc", "(II)Z"⟩
abbrev cX8_write : ByteArray := prog_10_method_9_code
def yX8_write : MethodName := ⟨RX8, "write", "(I)I"⟩
abbrev cX8_wipe : ByteArray := prog_10_method_10_code
def yX8_wipe : MethodName := ⟨RX8, "wipe", "()I"⟩
abbrev cX8_letterAt : ByteArray := prog_10_method_11_code
def yX8_letterAt : MethodName := ⟨RX8, "letterAt", "(I)I"⟩
abbrev cX8_readBlock : ByteArray := prog_10_method_12_code
def yX8_readBlock : MethodName := ⟨RX8, "readBlock", "(II)Z"⟩
abbrev cX8_readGraph : ByteArray := prog_10_method_13_code
def yX8_readGraph : MethodName := ⟨RX8, "readGraph", "()I"⟩
abbrev cX8_fault : ByteArray := prog_10_method_14_code
def yX8_fault : MethodName := ⟨RX8, "fault", "()I"⟩
abbrev cX8_graph : ByteArray := prog_10_method_15_code
def yX8_graph : MethodName := ⟨RX8, "graph", "()I"⟩
abbrev cX8_goes : ByteArray := prog_10_method_16_code
def yX8_goes : MethodName := ⟨RX8, "goes", "([III)Z"⟩
abbrev cX8_comeTo : ByteArray := prog_10_method_17_code
def yX8_comeTo : MethodName := ⟨RX8, "comeTo", "(II)V"⟩
abbrev cX8_walk : ByteArray := prog_10_method_18_code
def yX8_walk : MethodName := ⟨RX8, "walk", "([I)V"⟩
abbrev cX8_isAbove : ByteArray := prog_10_method_19_code
def yX8_isAbove : MethodName := ⟨RX8, "isAbove", "(II)Z"⟩
abbrev cX8_leader : ByteArray := prog_10_method_20_code
def yX8_leader : MethodName := ⟨RX8, "leader", "(I)I"⟩
abbrev cX8_layEntries : ByteArray := prog_10_method_21_code
def yX8_layEntries : MethodName := ⟨RX8, "layEntries", "([I)V"⟩
abbrev cX8_backs : ByteArray := prog_10_method_22_code
def yX8_backs : MethodName := ⟨RX8, "backs", "([II)I"⟩
abbrev cX8_drawnBy : ByteArray := prog_10_method_23_code
def yX8_drawnBy : MethodName := ⟨RX8, "drawnBy", "(II)I"⟩
abbrev cX8_bodyOf : ByteArray := prog_10_method_24_code
def yX8_bodyOf : MethodName := ⟨RX8, "bodyOf", "([II)I"⟩
abbrev cX8_find : ByteArray := prog_10_method_25_code
def yX8_find : MethodName := ⟨RX8, "find", "([I)V"⟩
abbrev cX8_depth : ByteArray := prog_10_method_26_code
def yX8_depth : MethodName := ⟨RX8, "depth", "(I)I"⟩
abbrev cX8_nest : ByteArray := prog_10_method_27_code
def yX8_nest : MethodName := ⟨RX8, "nest", "(I)I"⟩
abbrev cX8_reached : ByteArray := prog_10_method_28_code
def yX8_reached : MethodName := ⟨RX8, "reached", "([II)I"⟩
abbrev cX8_passed : ByteArray := prog_10_method_29_code
def yX8_passed : MethodName := ⟨RX8, "passed", "([II)I"⟩
abbrev cX8_isTame : ByteArray := prog_10_method_30_code
def yX8_isTame : MethodName := ⟨RX8, "isTame", "([I)Z"⟩
abbrev cX8_arcs : ByteArray := prog_10_method_31_code
def yX8_arcs : MethodName := ⟨RX8, "arcs", "([I)I"⟩
abbrev cX8_kinds : ByteArray := prog_10_method_32_code
def yX8_kinds : MethodName := ⟨RX8, "kinds", "(I)I"⟩
abbrev cX8_deepest : ByteArray := prog_10_method_33_code
def yX8_deepest : MethodName := ⟨RX8, "deepest", "()I"⟩
abbrev cX8_backArcs : ByteArray := prog_10_method_34_code
def yX8_backArcs : MethodName := ⟨RX8, "backArcs", "([I)I"⟩
abbrev cX8_about : ByteArray := prog_10_method_35_code
def yX8_about : MethodName := ⟨RX8, "about", "(I)I"⟩
abbrev cX8_block : ByteArray := prog_10_method_36_code
def yX8_block : MethodName := ⟨RX8, "block", "(II)I"⟩
abbrev cX8_arc : ByteArray := prog_10_method_37_code
def yX8_arc : MethodName := ⟨RX8, "arc", "(II)I"⟩
abbrev cX8_aboveSet : ByteArray := prog_10_method_38_code
def yX8_aboveSet : MethodName := ⟨RX8, "aboveSet", "(I)I"⟩
abbrev cX8_sets : ByteArray := prog_10_method_39_code
def yX8_sets : MethodName := ⟨RX8, "sets", "(II)I"⟩
abbrev cX8_note : ByteArray := prog_10_method_40_code
def yX8_note : MethodName := ⟨RX8, "note", "()V"⟩
abbrev cX8_goAdd : ByteArray := prog_10_method_41_code
def yX8_goAdd : MethodName := ⟨RX8, "goAdd", "([III)V"⟩
abbrev cX8_goCut : ByteArray := prog_10_method_42_code
def yX8_goCut : MethodName := ⟨RX8, "goCut", "([III)I"⟩
abbrev cX8_goSplit : ByteArray := prog_10_method_43_code
def yX8_goSplit : MethodName := ⟨RX8, "goSplit", "([III)I"⟩
abbrev cX8_add : ByteArray := prog_10_method_44_code
def yX8_add : MethodName := ⟨RX8, "add", "(II)I"⟩
abbrev cX8_cut : ByteArray := prog_10_method_45_code
def yX8_cut : MethodName := ⟨RX8, "cut", "(II)I"⟩
abbrev cX8_split : ByteArray := prog_10_method_46_code
def yX8_split : MethodName := ⟨RX8, "split", "(II)I"⟩
abbrev cX8_worst : ByteArray := prog_10_method_47_code
def yX8_worst : MethodName := ⟨RX8, "worst", "()I"⟩
abbrev cX8_comes : ByteArray := prog_10_method_48_code
def yX8_comes : MethodName := ⟨RX8, "comes", "([III)I"⟩
abbrev cX8_mends : ByteArray := prog_10_method_49_code
def yX8_mends : MethodName := ⟨RX8, "mends", "([I)Z"⟩
abbrev cX8_goMend : ByteArray := prog_10_method_50_code
def yX8_goMend : MethodName := ⟨RX8, "goMend", "([I)I"⟩
abbrev cX8_mend : ByteArray := prog_10_method_51_code
def yX8_mend : MethodName := ⟨RX8, "mend", "()I"⟩
abbrev cX8_undo : ByteArray := prog_10_method_52_code
def yX8_undo : MethodName := ⟨RX8, "undo", "()I"⟩
abbrev cX8_step : ByteArray := prog_10_method_53_code
def yX8_step : MethodName := ⟨RX8, "step", "(II)I"⟩
abbrev cX8_areChoices : ByteArray := prog_10_method_54_code
def yX8_areChoices : MethodName := ⟨RX8, "areChoices", "(II)Z"⟩
abbrev cX8_runs : ByteArray := prog_10_method_55_code
def yX8_runs : MethodName := ⟨RX8, "runs", "(II)I"⟩
abbrev cX8_run : ByteArray := prog_10_method_56_code
def yX8_run : MethodName := ⟨RX8, "run", "(III)I"⟩
abbrev cX8_begin : ByteArray := prog_10_method_57_code
def yX8_begin : MethodName := ⟨RX8, "begin", "()V"⟩
abbrev cX8_would : ByteArray := prog_10_method_58_code
def yX8_would : MethodName := ⟨RX8, "would", "(I)I"⟩
abbrev cX8_longPower : ByteArray := prog_10_method_59_code
def yX8_longPower : MethodName := ⟨RX8, "longPower", "(JI)J"⟩
abbrev cX8_adds : ByteArray := prog_10_method_60_code
def yX8_adds : MethodName := ⟨RX8, "adds", "(II)Z"⟩
abbrev cX8_cuts : ByteArray := prog_10_method_61_code
def yX8_cuts : MethodName := ⟨RX8, "cuts", "(II)Z"⟩
abbrev cX8_splits : ByteArray := prog_10_method_62_code
def yX8_splits : MethodName := ⟨RX8, "splits", "(II)Z"⟩
abbrev cX8_isSo : ByteArray := prog_10_method_63_code
def yX8_isSo : MethodName := ⟨RX8, "isSo", "(III)Z"⟩
abbrev cX8_does : ByteArray := prog_10_method_64_code
def yX8_does : MethodName := ⟨RX8, "does", "(I)Z"⟩
abbrev cX8_judge : ByteArray := prog_10_method_65_code
def yX8_judge : MethodName := ⟨RX8, "judge", "(IJ)I"⟩
abbrev cX8_ways : ByteArray := prog_10_method_66_code
def yX8_ways : MethodName := ⟨RX8, "ways", "(I)I"⟩
abbrev cX8_divisor : ByteArray := prog_10_method_67_code
def yX8_divisor : MethodName := ⟨RX8, "divisor", "(II)I"⟩
abbrev cX8_fraction : ByteArray := prog_10_method_68_code
def yX8_fraction : MethodName := ⟨RX8, "fraction", "(IIZ)I"⟩
abbrev cX8_keepArcs : ByteArray := prog_10_method_69_code
def yX8_keepArcs : MethodName := ⟨RX8, "keepArcs", "(II)V"⟩
abbrev cX8_share : ByteArray := prog_10_method_70_code
def yX8_share : MethodName := ⟨RX8, "share", "(IIZ)I"⟩
abbrev cX8_see : ByteArray := prog_10_method_71_code
def yX8_see : MethodName := ⟨RX8, "see", "(III)I"⟩
abbrev cX8_unsee : ByteArray := prog_10_method_72_code
def yX8_unsee : MethodName := ⟨RX8, "unsee", "()I"⟩
abbrev cX8_actBehind : ByteArray := prog_10_method_73_code
def yX8_actBehind : MethodName := ⟨RX8, "actBehind", "(II)I"⟩
abbrev cX8_figures : ByteArray := prog_10_method_74_code
def yX8_figures : MethodName := ⟨RX8, "figures", "(I)I"⟩
abbrev cX8_rows : ByteArray := prog_10_method_75_code
def yX8_rows : MethodName := ⟨RX8, "rows", "(I)I"⟩
abbrev cX8_torn : ByteArray := prog_10_method_76_code
def yX8_torn : MethodName := ⟨RX8, "torn", "(IIZ)I"⟩
abbrev cX8_seed : ByteArray := prog_10_method_77_code
def yX8_seed : MethodName := ⟨RX8, "seed", "(J)J"⟩
abbrev cX8_drawn : ByteArray := prog_10_method_78_code
def yX8_drawn : MethodName := ⟨RX8, "drawn", "(I)I"⟩
abbrev cX8_keep : ByteArray := prog_10_method_79_code
def yX8_keep : MethodName := ⟨RX8, "keep", "(I)I"⟩
abbrev cX8_again : ByteArray := prog_10_method_80_code
def yX8_again : MethodName := ⟨RX8, "again", "(I)I"⟩
def RJ6 : String := "java/lang/Integer"
def TJ6 : u_T := fun k => match k with
  | _ => ("", "", "", false)
def tyJ6 : Nat → FieldType := fun k => match k with
  | _ => .int
abbrev wsJ60 : List Cond := u_ws RJ6 TJ6 0
theorem nmJ6 : ∀ a, a < 0 → ∀ b, b < 0 → a ≠ b → (TJ6 a).2.1 ≠ (TJ6 b).2.1 := by decide +kernel
theorem tyJ6_ok : ∀ k, k < 0 → parseFieldDescriptor (TJ6 k).2.2.1 = some (tyJ6 k) := by decide +kernel
abbrev cJ6_numberOfTrailingZeros_0f7a4 : ByteArray := prog_11_method_48_code
def yJ6_numberOfTrailingZeros_0f7a4 : MethodName := ⟨RJ6, "numberOfTrailingZeros", "(I)I"⟩
abbrev cJ6_bitCount_0f7a4 : ByteArray := prog_11_method_49_code
def yJ6_bitCount_0f7a4 : MethodName := ⟨RJ6, "bitCount", "(I)I"⟩
def RJ9 : String := "java/lang/Math"
def TJ9 : u_T := fun k => match k with
  | _ => ("", "", "", false)
def tyJ9 : Nat → FieldType := fun k => match k with
  | _ => .int
abbrev wsJ90 : List Cond := u_ws RJ9 TJ9 0
theorem nmJ9 : ∀ a, a < 0 → ∀ b, b < 0 → a ≠ b → (TJ9 a).2.1 ≠ (TJ9 b).2.1 := by decide +kernel
theorem tyJ9_ok : ∀ k, k < 0 → parseFieldDescriptor (TJ9 k).2.2.1 = some (tyJ9 k) := by decide +kernel
abbrev cJ9_abs_0f7a4 : ByteArray := prog_12_method_59_code
def yJ9_abs_0f7a4 : MethodName := ⟨RJ9, "abs", "(I)I"⟩
abbrev cJ9_max_7cf53 : ByteArray := prog_12_method_65_code
def yJ9_max_7cf53 : MethodName := ⟨RJ9, "max", "(II)I"⟩
def RJ10 : String := "java/lang/System"
def TJ10 : u_T := fun k => match k with
  | _ => ("", "", "", false)
def tyJ10 : Nat → FieldType := fun k => match k with
  | _ => .int
abbrev wsJ100 : List Cond := u_ws RJ10 TJ10 0
theorem nmJ10 : ∀ a, a < 0 → ∀ b, b < 0 → a ≠ b → (TJ10 a).2.1 ≠ (TJ10 b).2.1 := by decide +kernel
theorem tyJ10_ok : ∀ k, k < 0 → parseFieldDescriptor (TJ10 k).2.2.1 = some (tyJ10 k) := by decide +kernel
def RJ7 : String := "java/util/Arrays"
def TJ7 : u_T := fun k => match k with
  | _ => ("", "", "", false)
def tyJ7 : Nat → FieldType := fun k => match k with
  | _ => .int
abbrev wsJ70 : List Cond := u_ws RJ7 TJ7 0
theorem nmJ7 : ∀ a, a < 0 → ∀ b, b < 0 → a ≠ b → (TJ7 a).2.1 ≠ (TJ7 b).2.1 := by decide +kernel
theorem tyJ7_ok : ∀ k, k < 0 → parseFieldDescriptor (TJ7 k).2.2.1 = some (tyJ7 k) := by decide +kernel
abbrev cJ7_fill_53178 : ByteArray := prog_14_method_103_code
def yJ7_fill_53178 : MethodName := ⟨RJ7, "fill", "([II)V"⟩
def RL : String := "NestFinderLaw"
abbrev cL_law : ByteArray := code
def yL_law : MethodName := ⟨RL, "law", "([I)Z"⟩
end
section
def nz_G : List Cond := lw_tbl.filter goodWord
theorem nz_inG {w : Cond} (h : w ∈ lw_tbl) (hg : goodWord w = true) : w ∈ nz_G := List.mem_filter.mpr ⟨h, hg⟩
def nz_nest : List Cond := [(Jvm.Cond.methodLinkNest "NestFinder" (9 : Nat) ({ cls := "NestFinder$Text", name := "<init>", desc := "()V" } : Jvm.MethodName) "NestFinder"), (Jvm.Cond.fieldLinkNest "NestFinder" (89 : Nat) "NestFinder$Text" "length" "I" "NestFinder"), (Jvm.Cond.methodLinkNest "NestFinder" (18 : Nat) ({ cls := "NestFinder$Graph", name := "<init>", desc := "()V" } : Jvm.MethodName) "NestFinder"), (Jvm.Cond.fieldLinkNest "NestFinder$Shelf" (36 : Nat) "NestFinder$Graph" "acts" "[I" "NestFinder"), (Jvm.Cond.fieldLinkNest "NestFinder" (121 : Nat) "NestFinder$Graph" "acts" "[I" "NestFinder"), (Jvm.Cond.fieldLinkNest "NestFinder$Shelf" (43 : Nat) "NestFinder$Graph" "counts" "[I" "NestFinder"), (Jvm.Cond.fieldLinkNest "NestFinder$Survey" (72 : Nat) "NestFinder$Graph" "counts" "[I" "NestFinder"), (Jvm.Cond.fieldLinkNest "NestFinder" (125 : Nat) "NestFinder$Graph" "counts" "[I" "NestFinder"), (Jvm.Cond.fieldLinkNest "NestFinder$Shelf" (44 : Nat) "NestFinder$Graph" "arcs" "[I" "NestFinder"), (Jvm.Cond.fieldLinkNest "NestFinder$Survey" (49 : Nat) "NestFinder$Graph" "size" "I" "NestFinder"), (Jvm.Cond.fieldLinkNest "NestFinder$Shelf" (30 : Nat) "NestFinder$Graph" "size" "I" "NestFinder"), (Jvm.Cond.fieldLinkNest "NestFinder$Text" (19 : Nat) "NestFinder$Graph" "size" "I" "NestFinder"), (Jvm.Cond.fieldLinkNest "NestFinder" (78 : Nat) "NestFinder$Graph" "size" "I" "NestFinder"), (Jvm.Cond.methodLinkNest "NestFinder" (28 : Nat) ({ cls := "NestFinder$Survey", name := "<init>", desc := "()V" } : Jvm.MethodName) "NestFinder"), (Jvm.Cond.fieldLinkNest "NestFinder" (128 : Nat) "NestFinder$Survey" "order" "[I" "NestFinder"), (Jvm.Cond.fieldLinkNest "NestFinder" (151 : Nat) "NestFinder$Survey" "beneath" "[I" "NestFinder"), (Jvm.Cond.fieldLinkNest "NestFinder" (199 : Nat) "NestFinder$Survey" "targets" "[I" "NestFinder"), (Jvm.Cond.fieldLinkNest "NestFinder" (160 : Nat) "NestFinder$Survey" "entries" "[I" "NestFinder"), (Jvm.Cond.fieldLinkNest "NestFinder" (131 : Nat) "NestFinder$Survey" "header" "[I" "NestFinder"), (Jvm.Cond.fieldLinkNest "NestFinder" (134 : Nat) "NestFinder$Survey" "type" "[I" "NestFinder"), (Jvm.Cond.fieldLinkNest "NestFinder" (98 : Nat) "NestFinder$Survey" "reached" "I" "NestFinder"), (Jvm.Cond.fieldLinkNest "NestFinder" (190 : Nat) "NestFinder$Survey" "reachedMask" "I" "NestFinder"), (Jvm.Cond.fieldLinkNest "NestFinder" (114 : Nat) "NestFinder$Survey" "backwardArcs" "I" "NestFinder"), (Jvm.Cond.methodLinkNest "NestFinder" (35 : Nat) ({ cls := "NestFinder$History", name := "<init>", desc := "()V" } : Jvm.MethodName) "NestFinder"), (Jvm.Cond.fieldLinkNest "NestFinder" (85 : Nat) "NestFinder$History" "count" "I" "NestFinder"), (Jvm.Cond.methodLinkNest "NestFinder" (42 : Nat) ({ cls := "NestFinder$Slots", name := "<init>", desc := "()V" } : Jvm.MethodName) "NestFinder"), (Jvm.Cond.fieldLinkNest "NestFinder" (276 : Nat) "NestFinder$Slots" "isFilled" "[Z" "NestFinder"), (Jvm.Cond.methodLinkNest "NestFinder" (49 : Nat) ({ cls := "NestFinder$Sights", name := "<init>", desc := "()V" } : Jvm.MethodName) "NestFinder"), (Jvm.Cond.fieldLinkNest "NestFinder" (88 : Nat) "NestFinder$Sights" "count" "I" "NestFinder")]
theorem nz_nest_in : ∀ w ∈ nz_nest, w ∈ lw_tbl := by decide +kernel
theorem nz_n82 : (Jvm.Cond.methodLinkNest "NestFinder" (9 : Nat) ({ cls := "NestFinder$Text", name := "<init>", desc := "()V" } : Jvm.MethodName) "NestFinder") ∈ nz_nest := List.mem_of_getElem? (i := 0) rfl
theorem nz_n88 : (Jvm.Cond.fieldLinkNest "NestFinder" (89 : Nat) "NestFinder$Text" "length" "I" "NestFinder") ∈ nz_nest := List.mem_of_getElem? (i := 1) rfl
theorem nz_n97 : (Jvm.Cond.methodLinkNest "NestFinder" (18 : Nat) ({ cls := "NestFinder$Graph", name := "<init>", desc := "()V" } : Jvm.MethodName) "NestFinder") ∈ nz_nest := List.mem_of_getElem? (i := 2) rfl
theorem nz_n102 : (Jvm.Cond.fieldLinkNest "NestFinder$Shelf" (36 : Nat) "NestFinder$Graph" "acts" "[I" "NestFinder") ∈ nz_nest := List.mem_of_getElem? (i := 3) rfl
theorem nz_n103 : (Jvm.Cond.fieldLinkNest "NestFinder" (121 : Nat) "NestFinder$Graph" "acts" "[I" "NestFinder") ∈ nz_nest := List.mem_of_getElem? (i := 4) rfl
theorem nz_n105 : (Jvm.Cond.fieldLinkNest "NestFinder$Shelf" (43 : Nat) "NestFinder$Graph" "counts" "[I" "NestFinder") ∈ nz_nest := List.mem_of_getElem? (i := 5) rfl
theorem nz_n106 : (Jvm.Cond.fieldLinkNest "NestFinder$Survey" (72 : Nat) "NestFinder$Graph" "counts" "[I" "NestFinder") ∈ nz_nest := List.mem_of_getElem? (i := 6) rfl
theorem nz_n107 : (Jvm.Cond.fieldLinkNest "NestFinder" (125 : Nat) "NestFinder$Graph" "counts" "[I" "NestFinder") ∈ nz_nest := List.mem_of_getElem? (i := 7) rfl
theorem nz_n109 : (Jvm.Cond.fieldLinkNest "NestFinder$Shelf" (44 : Nat) "NestFinder$Graph" "arcs" "[I" "NestFinder") ∈ nz_nest := List.mem_of_getElem? (i := 8) rfl
theorem nz_n111 : (Jvm.Cond.fieldLinkNest "NestFinder$Survey" (49 : Nat) "NestFinder$Graph" "size" "I" "NestFinder") ∈ nz_nest := List.mem_of_getElem? (i := 9) rfl
theorem nz_n112 : (Jvm.Cond.fieldLinkNest "NestFinder$Shelf" (30 : Nat) "NestFinder$Graph" "size" "I" "NestFinder") ∈ nz_nest := List.mem_of_getElem? (i := 10) rfl
theorem nz_n113 : (Jvm.Cond.fieldLinkNest "NestFinder$Text" (19 : Nat) "NestFinder$Graph" "size" "I" "NestFinder") ∈ nz_nest := List.mem_of_getElem? (i := 11) rfl
theorem nz_n114 : (Jvm.Cond.fieldLinkNest "NestFinder" (78 : Nat) "NestFinder$Graph" "size" "I" "NestFinder") ∈ nz_nest := List.mem_of_getElem? (i := 12) rfl
theorem nz_n126 : (Jvm.Cond.methodLinkNest "NestFinder" (28 : Nat) ({ cls := "NestFinder$Survey", name := "<init>", desc := "()V" } : Jvm.MethodName) "NestFinder") ∈ nz_nest := List.mem_of_getElem? (i := 13) rfl
theorem nz_n131 : (Jvm.Cond.fieldLinkNest "NestFinder" (128 : Nat) "NestFinder$Survey" "order" "[I" "NestFinder") ∈ nz_nest := List.mem_of_getElem? (i := 14) rfl
theorem nz_n134 : (Jvm.Cond.fieldLinkNest "NestFinder" (151 : Nat) "NestFinder$Survey" "beneath" "[I" "NestFinder") ∈ nz_nest := List.mem_of_getElem? (i := 15) rfl
theorem nz_n136 : (Jvm.Cond.fieldLinkNest "NestFinder" (199 : Nat) "NestFinder$Survey" "targets" "[I" "NestFinder") ∈ nz_nest := List.mem_of_getElem? (i := 16) rfl
theorem nz_n139 : (Jvm.Cond.fieldLinkNest "NestFinder" (160 : Nat) "NestFinder$Survey" "entries" "[I" "NestFinder") ∈ nz_nest := List.mem_of_getElem? (i := 17) rfl
theorem nz_n141 : (Jvm.Cond.fieldLinkNest "NestFinder" (131 : Nat) "NestFinder$Survey" "header" "[I" "NestFinder") ∈ nz_nest := List.mem_of_getElem? (i := 18) rfl
theorem nz_n143 : (Jvm.Cond.fieldLinkNest "NestFinder" (134 : Nat) "NestFinder$Survey" "type" "[I" "NestFinder") ∈ nz_nest := List.mem_of_getElem? (i := 19) rfl
theorem nz_n145 : (Jvm.Cond.fieldLinkNest "NestFinder" (98 : Nat) "NestFinder$Survey" "reached" "I" "NestFinder") ∈ nz_nest := List.mem_of_getElem? (i := 20) rfl
theorem nz_n147 : (Jvm.Cond.fieldLinkNest "NestFinder" (190 : Nat) "NestFinder$Survey" "reachedMask" "I" "NestFinder") ∈ nz_nest := List.mem_of_getElem? (i := 21) rfl
theorem nz_n149 : (Jvm.Cond.fieldLinkNest "NestFinder" (114 : Nat) "NestFinder$Survey" "backwardArcs" "I" "NestFinder") ∈ nz_nest := List.mem_of_getElem? (i := 22) rfl
theorem nz_n175 : (Jvm.Cond.methodLinkNest "NestFinder" (35 : Nat) ({ cls := "NestFinder$History", name := "<init>", desc := "()V" } : Jvm.MethodName) "NestFinder") ∈ nz_nest := List.mem_of_getElem? (i := 23) rfl
theorem nz_n204 : (Jvm.Cond.fieldLinkNest "NestFinder" (85 : Nat) "NestFinder$History" "count" "I" "NestFinder") ∈ nz_nest := List.mem_of_getElem? (i := 24) rfl
theorem nz_n214 : (Jvm.Cond.methodLinkNest "NestFinder" (42 : Nat) ({ cls := "NestFinder$Slots", name := "<init>", desc := "()V" } : Jvm.MethodName) "NestFinder") ∈ nz_nest := List.mem_of_getElem? (i := 25) rfl
theorem nz_n222 : (Jvm.Cond.fieldLinkNest "NestFinder" (276 : Nat) "NestFinder$Slots" "isFilled" "[Z" "NestFinder") ∈ nz_nest := List.mem_of_getElem? (i := 26) rfl
theorem nz_n231 : (Jvm.Cond.methodLinkNest "NestFinder" (49 : Nat) ({ cls := "NestFinder$Sights", name := "<init>", desc := "()V" } : Jvm.MethodName) "NestFinder") ∈ nz_nest := List.mem_of_getElem? (i := 27) rfl
theorem nz_n239 : (Jvm.Cond.fieldLinkNest "NestFinder" (88 : Nat) "NestFinder$Sights" "count" "I" "NestFinder") ∈ nz_nest := List.mem_of_getElem? (i := 28) rfl
theorem nz_w0 : Cond.selects "NestFinder$Graph" ⟨"NestFinder$Graph", "putArcBehind", "(II)V"⟩ ⟨"NestFinder$Graph", "putArcBehind", "(II)V"⟩ ∈ nz_G := nz_inG (List.mem_append_left _ (List.mem_of_getElem? (i := 0) (by decide +kernel))) rfl
theorem nz_w1 : Cond.selects "NestFinder" ⟨"NestFinder", "aboutLoops", "(I)I"⟩ ⟨"NestFinder", "aboutLoops", "(I)I"⟩ ∈ nz_G := nz_inG (List.mem_append_left _ (List.mem_of_getElem? (i := 1) (by decide +kernel))) rfl
theorem nz_w2 : Cond.selects "NestFinder$Survey" ⟨"NestFinder$Survey", "clear", "()V"⟩ ⟨"NestFinder$Survey", "clear", "()V"⟩ ∈ nz_G := nz_inG (List.mem_append_left _ (List.mem_of_getElem? (i := 2) (by decide +kernel))) rfl
theorem nz_w3 : Cond.selects "NestFinder$Survey" ⟨"NestFinder$Survey", "visit", "(LNestFinder$Graph;II)I"⟩ ⟨"NestFinder$Survey", "visit", "(LNestFinder$Graph;II)I"⟩ ∈ nz_G := nz_inG (List.mem_append_left _ (List.mem_of_getElem? (i := 3) (by decide +kernel))) rfl
theorem nz_w4 : Cond.selects "NestFinder$Survey" ⟨"NestFinder$Survey", "sortArcs", "(LNestFinder$Graph;I)V"⟩ ⟨"NestFinder$Survey", "sortArcs", "(LNestFinder$Graph;I)V"⟩ ∈ nz_G := nz_inG (List.mem_append_left _ (List.mem_of_getElem? (i := 4) (by decide +kernel))) rfl
theorem nz_w5 : Cond.selects "NestFinder$Survey" ⟨"NestFinder$Survey", "gather", "(I)V"⟩ ⟨"NestFinder$Survey", "gather", "(I)V"⟩ ∈ nz_G := nz_inG (List.mem_append_left _ (List.mem_of_getElem? (i := 5) (by decide +kernel))) rfl
theorem nz_w6 : Cond.selects "NestFinder$Survey" ⟨"NestFinder$Survey", "leadersOf", "(I)I"⟩ ⟨"NestFinder$Survey", "leadersOf", "(I)I"⟩ ∈ nz_G := nz_inG (List.mem_append_left _ (List.mem_of_getElem? (i := 6) (by decide +kernel))) rfl
theorem nz_w7 : Cond.selects "NestFinder$Survey" ⟨"NestFinder$Survey", "leaderOf", "(I)I"⟩ ⟨"NestFinder$Survey", "leaderOf", "(I)I"⟩ ∈ nz_G := nz_inG (List.mem_append_left _ (List.mem_of_getElem? (i := 7) (by decide +kernel))) rfl
theorem nz_w8 : Cond.selects "NestFinder$Survey" ⟨"NestFinder$Survey", "reachedWithout", "(I)I"⟩ ⟨"NestFinder$Survey", "reachedWithout", "(I)I"⟩ ∈ nz_G := nz_inG (List.mem_append_left _ (List.mem_of_getElem? (i := 8) (by decide +kernel))) rfl
theorem nz_w9 : Cond.selects "NestFinder" ⟨"NestFinder", "settle", "(I)I"⟩ ⟨"NestFinder", "settle", "(I)I"⟩ ∈ nz_G := nz_inG (List.mem_append_left _ (List.mem_of_getElem? (i := 9) (by decide +kernel))) rfl
theorem nz_w10 : Cond.selects "NestFinder$Graph" ⟨"NestFinder$Graph", "goesTo", "(II)Z"⟩ ⟨"NestFinder$Graph", "goesTo", "(II)Z"⟩ ∈ nz_G := nz_inG (List.mem_append_left _ (List.mem_of_getElem? (i := 10) (by decide +kernel))) rfl
theorem nz_w11 : Cond.selects "NestFinder$Graph" ⟨"NestFinder$Graph", "turnArcs", "(III)V"⟩ ⟨"NestFinder$Graph", "turnArcs", "(III)V"⟩ ∈ nz_G := nz_inG (List.mem_append_left _ (List.mem_of_getElem? (i := 11) (by decide +kernel))) rfl
theorem nz_w12 : Cond.selects "NestFinder" ⟨"NestFinder", "mendTrial", "()I"⟩ ⟨"NestFinder", "mendTrial", "()I"⟩ ∈ nz_G := nz_inG (List.mem_append_left _ (List.mem_of_getElem? (i := 12) (by decide +kernel))) rfl
theorem nz_w13 : Cond.selects "NestFinder" ⟨"NestFinder", "mendOnce", "()Z"⟩ ⟨"NestFinder", "mendOnce", "()Z"⟩ ∈ nz_G := nz_inG (List.mem_append_left _ (List.mem_of_getElem? (i := 13) (by decide +kernel))) rfl
theorem nz_w14 : Cond.selects "NestFinder" ⟨"NestFinder", "leastTarget", "(II)I"⟩ ⟨"NestFinder", "leastTarget", "(II)I"⟩ ∈ nz_G := nz_inG (List.mem_append_left _ (List.mem_of_getElem? (i := 14) (by decide +kernel))) rfl
theorem nz_w15 : Cond.selects "NestFinder" ⟨"NestFinder", "leastSource", "(II)I"⟩ ⟨"NestFinder", "leastSource", "(II)I"⟩ ∈ nz_G := nz_inG (List.mem_append_left _ (List.mem_of_getElem? (i := 15) (by decide +kernel))) rfl
theorem nz_w16 : Cond.selects "NestFinder" ⟨"NestFinder", "holds", "(III)Z"⟩ ⟨"NestFinder", "holds", "(III)Z"⟩ ∈ nz_G := nz_inG (List.mem_append_left _ (List.mem_of_getElem? (i := 16) (by decide +kernel))) rfl
theorem nz_w17 : Cond.selects "NestFinder" ⟨"NestFinder", "isSaidOfBlock", "(III)Z"⟩ ⟨"NestFinder", "isSaidOfBlock", "(III)Z"⟩ ∈ nz_G := nz_inG (List.mem_append_left _ (List.mem_of_getElem? (i := 17) (by decide +kernel))) rfl
theorem nz_w18 : Cond.selects "NestFinder" ⟨"NestFinder", "loopsWithArcs", "(II)I"⟩ ⟨"NestFinder", "loopsWithArcs", "(II)I"⟩ ∈ nz_G := nz_inG (List.mem_append_left _ (List.mem_of_getElem? (i := 18) (by decide +kernel))) rfl
theorem nz_w19 : Cond.selects "NestFinder" ⟨"NestFinder", "surveyWithArcs", "(II)V"⟩ ⟨"NestFinder", "surveyWithArcs", "(II)V"⟩ ∈ nz_G := nz_inG (List.mem_append_left _ (List.mem_of_getElem? (i := 19) (by decide +kernel))) rfl
theorem nz_w20 : Cond.selects "NestFinder" ⟨"NestFinder", "agreesWithSights", "(I)Z"⟩ ⟨"NestFinder", "agreesWithSights", "(I)Z"⟩ ∈ nz_G := nz_inG (List.mem_append_left _ (List.mem_of_getElem? (i := 20) (by decide +kernel))) rfl
theorem nz_w21 : Cond.selects "NestFinder" ⟨"NestFinder", "changeByDraw", "(I)V"⟩ ⟨"NestFinder", "changeByDraw", "(I)V"⟩ ∈ nz_G := nz_inG (List.mem_append_left _ (List.mem_of_getElem? (i := 21) (by decide +kernel))) rfl
theorem nz_w22 : Cond.selects "NestFinderModel" ⟨"NestFinderModel", "readGraph", "()I"⟩ ⟨"NestFinderModel", "readGraph", "()I"⟩ ∈ nz_G := nz_inG (List.mem_append_left _ (List.mem_of_getElem? (i := 22) (by decide +kernel))) rfl
theorem nz_w23 : Cond.selects "NestFinderModel" ⟨"NestFinderModel", "letterAt", "(I)I"⟩ ⟨"NestFinderModel", "letterAt", "(I)I"⟩ ∈ nz_G := nz_inG (List.mem_append_left _ (List.mem_of_getElem? (i := 23) (by decide +kernel))) rfl
theorem nz_w24 : Cond.selects "NestFinderModel" ⟨"NestFinderModel", "readBlock", "(II)Z"⟩ ⟨"NestFinderModel", "readBlock", "(II)Z"⟩ ∈ nz_G := nz_inG (List.mem_append_left _ (List.mem_of_getElem? (i := 24) (by decide +kernel))) rfl
theorem nz_w25 : Cond.selects "NestFinderModel" ⟨"NestFinderModel", "find", "([I)V"⟩ ⟨"NestFinderModel", "find", "([I)V"⟩ ∈ nz_G := nz_inG (List.mem_append_left _ (List.mem_of_getElem? (i := 25) (by decide +kernel))) rfl
theorem nz_w26 : Cond.selects "NestFinderModel" ⟨"NestFinderModel", "walk", "([I)V"⟩ ⟨"NestFinderModel", "walk", "([I)V"⟩ ∈ nz_G := nz_inG (List.mem_append_left _ (List.mem_of_getElem? (i := 26) (by decide +kernel))) rfl
theorem nz_w27 : Cond.selects "NestFinderModel" ⟨"NestFinderModel", "comeTo", "(II)V"⟩ ⟨"NestFinderModel", "comeTo", "(II)V"⟩ ∈ nz_G := nz_inG (List.mem_append_left _ (List.mem_of_getElem? (i := 27) (by decide +kernel))) rfl
theorem nz_w28 : Cond.selects "NestFinderModel" ⟨"NestFinderModel", "layEntries", "([I)V"⟩ ⟨"NestFinderModel", "layEntries", "([I)V"⟩ ∈ nz_G := nz_inG (List.mem_append_left _ (List.mem_of_getElem? (i := 28) (by decide +kernel))) rfl
theorem nz_w29 : Cond.selects "NestFinderModel" ⟨"NestFinderModel", "isAbove", "(II)Z"⟩ ⟨"NestFinderModel", "isAbove", "(II)Z"⟩ ∈ nz_G := nz_inG (List.mem_append_left _ (List.mem_of_getElem? (i := 29) (by decide +kernel))) rfl
theorem nz_w30 : Cond.selects "NestFinderModel" ⟨"NestFinderModel", "bodyOf", "([II)I"⟩ ⟨"NestFinderModel", "bodyOf", "([II)I"⟩ ∈ nz_G := nz_inG (List.mem_append_left _ (List.mem_of_getElem? (i := 30) (by decide +kernel))) rfl
theorem nz_w31 : Cond.selects "NestFinderModel" ⟨"NestFinderModel", "backs", "([II)I"⟩ ⟨"NestFinderModel", "backs", "([II)I"⟩ ∈ nz_G := nz_inG (List.mem_append_left _ (List.mem_of_getElem? (i := 31) (by decide +kernel))) rfl
theorem nz_w32 : Cond.selects "NestFinderModel" ⟨"NestFinderModel", "leader", "(I)I"⟩ ⟨"NestFinderModel", "leader", "(I)I"⟩ ∈ nz_G := nz_inG (List.mem_append_left _ (List.mem_of_getElem? (i := 32) (by decide +kernel))) rfl
theorem nz_w33 : Cond.selects "NestFinderModel" ⟨"NestFinderModel", "drawnBy", "(II)I"⟩ ⟨"NestFinderModel", "drawnBy", "(II)I"⟩ ∈ nz_G := nz_inG (List.mem_append_left _ (List.mem_of_getElem? (i := 33) (by decide +kernel))) rfl
theorem nz_w34 : Cond.selects "NestFinderModel" ⟨"NestFinderModel", "kinds", "(I)I"⟩ ⟨"NestFinderModel", "kinds", "(I)I"⟩ ∈ nz_G := nz_inG (List.mem_append_left _ (List.mem_of_getElem? (i := 34) (by decide +kernel))) rfl
theorem nz_w35 : Cond.selects "NestFinderModel" ⟨"NestFinderModel", "deepest", "()I"⟩ ⟨"NestFinderModel", "deepest", "()I"⟩ ∈ nz_G := nz_inG (List.mem_append_left _ (List.mem_of_getElem? (i := 35) (by decide +kernel))) rfl
theorem nz_w36 : Cond.selects "NestFinderModel" ⟨"NestFinderModel", "depth", "(I)I"⟩ ⟨"NestFinderModel", "depth", "(I)I"⟩ ∈ nz_G := nz_inG (List.mem_append_left _ (List.mem_of_getElem? (i := 36) (by decide +kernel))) rfl
theorem nz_w37 : Cond.selects "NestFinderModel" ⟨"NestFinderModel", "isTame", "([I)Z"⟩ ⟨"NestFinderModel", "isTame", "([I)Z"⟩ ∈ nz_G := nz_inG (List.mem_append_left _ (List.mem_of_getElem? (i := 37) (by decide +kernel))) rfl
theorem nz_w38 : Cond.selects "NestFinderModel" ⟨"NestFinderModel", "backArcs", "([I)I"⟩ ⟨"NestFinderModel", "backArcs", "([I)I"⟩ ∈ nz_G := nz_inG (List.mem_append_left _ (List.mem_of_getElem? (i := 38) (by decide +kernel))) rfl
theorem nz_w39 : Cond.selects "NestFinderModel" ⟨"NestFinderModel", "noBlock", "(I)Z"⟩ ⟨"NestFinderModel", "noBlock", "(I)Z"⟩ ∈ nz_G := nz_inG (List.mem_append_left _ (List.mem_of_getElem? (i := 39) (by decide +kernel))) rfl
theorem nz_w40 : Cond.selects "NestFinderModel" ⟨"NestFinderModel", "noArc", "(II)Z"⟩ ⟨"NestFinderModel", "noArc", "(II)Z"⟩ ∈ nz_G := nz_inG (List.mem_append_left _ (List.mem_of_getElem? (i := 40) (by decide +kernel))) rfl
theorem nz_w41 : Cond.selects "NestFinderModel" ⟨"NestFinderModel", "aboveSet", "(I)I"⟩ ⟨"NestFinderModel", "aboveSet", "(I)I"⟩ ∈ nz_G := nz_inG (List.mem_append_left _ (List.mem_of_getElem? (i := 41) (by decide +kernel))) rfl
theorem nz_w42 : Cond.selects "NestFinderModel" ⟨"NestFinderModel", "nest", "(I)I"⟩ ⟨"NestFinderModel", "nest", "(I)I"⟩ ∈ nz_G := nz_inG (List.mem_append_left _ (List.mem_of_getElem? (i := 42) (by decide +kernel))) rfl
theorem nz_w43 : Cond.selects "NestFinderModel" ⟨"NestFinderModel", "note", "()V"⟩ ⟨"NestFinderModel", "note", "()V"⟩ ∈ nz_G := nz_inG (List.mem_append_left _ (List.mem_of_getElem? (i := 43) (by decide +kernel))) rfl
theorem nz_w44 : Cond.selects "NestFinderModel" ⟨"NestFinderModel", "worst", "()I"⟩ ⟨"NestFinderModel", "worst", "()I"⟩ ∈ nz_G := nz_inG (List.mem_append_left _ (List.mem_of_getElem? (i := 44) (by decide +kernel))) rfl
theorem nz_w45 : Cond.selects "NestFinderModel" ⟨"NestFinderModel", "goMend", "([I)I"⟩ ⟨"NestFinderModel", "goMend", "([I)I"⟩ ∈ nz_G := nz_inG (List.mem_append_left _ (List.mem_of_getElem? (i := 45) (by decide +kernel))) rfl
theorem nz_w46 : Cond.selects "NestFinderModel" ⟨"NestFinderModel", "mends", "([I)Z"⟩ ⟨"NestFinderModel", "mends", "([I)Z"⟩ ∈ nz_G := nz_inG (List.mem_append_left _ (List.mem_of_getElem? (i := 46) (by decide +kernel))) rfl
theorem nz_w47 : Cond.selects "NestFinderModel" ⟨"NestFinderModel", "comes", "([III)I"⟩ ⟨"NestFinderModel", "comes", "([III)I"⟩ ∈ nz_G := nz_inG (List.mem_append_left _ (List.mem_of_getElem? (i := 47) (by decide +kernel))) rfl
theorem nz_w48 : Cond.selects "NestFinderModel" ⟨"NestFinderModel", "runs", "(II)I"⟩ ⟨"NestFinderModel", "runs", "(II)I"⟩ ∈ nz_G := nz_inG (List.mem_append_left _ (List.mem_of_getElem? (i := 48) (by decide +kernel))) rfl
theorem nz_w49 : Cond.selects "NestFinderModel" ⟨"NestFinderModel", "step", "(II)I"⟩ ⟨"NestFinderModel", "step", "(II)I"⟩ ∈ nz_G := nz_inG (List.mem_append_left _ (List.mem_of_getElem? (i := 49) (by decide +kernel))) rfl
theorem nz_w50 : Cond.selects "NestFinderModel" ⟨"NestFinderModel", "begin", "()V"⟩ ⟨"NestFinderModel", "begin", "()V"⟩ ∈ nz_G := nz_inG (List.mem_append_left _ (List.mem_of_getElem? (i := 50) (by decide +kernel))) rfl
theorem nz_w51 : Cond.selects "NestFinderModel" ⟨"NestFinderModel", "does", "(I)Z"⟩ ⟨"NestFinderModel", "does", "(I)Z"⟩ ∈ nz_G := nz_inG (List.mem_append_left _ (List.mem_of_getElem? (i := 51) (by decide +kernel))) rfl
theorem nz_w52 : Cond.selects "NestFinderModel" ⟨"NestFinderModel", "adds", "(II)Z"⟩ ⟨"NestFinderModel", "adds", "(II)Z"⟩ ∈ nz_G := nz_inG (List.mem_append_left _ (List.mem_of_getElem? (i := 52) (by decide +kernel))) rfl
theorem nz_w53 : Cond.selects "NestFinderModel" ⟨"NestFinderModel", "cuts", "(II)Z"⟩ ⟨"NestFinderModel", "cuts", "(II)Z"⟩ ∈ nz_G := nz_inG (List.mem_append_left _ (List.mem_of_getElem? (i := 53) (by decide +kernel))) rfl
theorem nz_w54 : Cond.selects "NestFinderModel" ⟨"NestFinderModel", "splits", "(II)Z"⟩ ⟨"NestFinderModel", "splits", "(II)Z"⟩ ∈ nz_G := nz_inG (List.mem_append_left _ (List.mem_of_getElem? (i := 54) (by decide +kernel))) rfl
theorem nz_w55 : Cond.selects "NestFinderModel" ⟨"NestFinderModel", "isSo", "(III)Z"⟩ ⟨"NestFinderModel", "isSo", "(III)Z"⟩ ∈ nz_G := nz_inG (List.mem_append_left _ (List.mem_of_getElem? (i := 55) (by decide +kernel))) rfl
theorem nz_w56 : Cond.selects "NestFinderModel" ⟨"NestFinderModel", "keepArcs", "(II)V"⟩ ⟨"NestFinderModel", "keepArcs", "(II)V"⟩ ∈ nz_G := nz_inG (List.mem_append_left _ (List.mem_of_getElem? (i := 56) (by decide +kernel))) rfl
theorem nz_w57 : Cond.selects "NestFinderModel" ⟨"NestFinderModel", "actBehind", "(II)I"⟩ ⟨"NestFinderModel", "actBehind", "(II)I"⟩ ∈ nz_G := nz_inG (List.mem_append_left _ (List.mem_of_getElem? (i := 57) (by decide +kernel))) rfl
theorem nz_w58 : (Jvm.Cond.initialized "NestFinderLaw") ∈ nz_G := nz_inG (List.mem_append_right _ (List.mem_of_getElem? (i := 0) (by decide +kernel))) rfl
theorem nz_w59 : (Jvm.Cond.initialized "NestFinder") ∈ nz_G := nz_inG (List.mem_append_right _ (List.mem_of_getElem? (i := 1) (by decide +kernel))) rfl
theorem nz_w60 : (Jvm.Cond.initialized "NestFinder$Text") ∈ nz_G := nz_inG (List.mem_append_right _ (List.mem_of_getElem? (i := 2) (by decide +kernel))) rfl
theorem nz_w61 : (Jvm.Cond.initialized "NestFinder$Graph") ∈ nz_G := nz_inG (List.mem_append_right _ (List.mem_of_getElem? (i := 3) (by decide +kernel))) rfl
theorem nz_w62 : (Jvm.Cond.initialized "NestFinder$Survey") ∈ nz_G := nz_inG (List.mem_append_right _ (List.mem_of_getElem? (i := 4) (by decide +kernel))) rfl
theorem nz_w63 : (Jvm.Cond.initialized "NestFinder$History") ∈ nz_G := nz_inG (List.mem_append_right _ (List.mem_of_getElem? (i := 5) (by decide +kernel))) rfl
theorem nz_w64 : (Jvm.Cond.initialized "NestFinder$Shelf") ∈ nz_G := nz_inG (List.mem_append_right _ (List.mem_of_getElem? (i := 6) (by decide +kernel))) rfl
theorem nz_w65 : (Jvm.Cond.initialized "java/lang/Math") ∈ nz_G := nz_inG (List.mem_append_right _ (List.mem_of_getElem? (i := 7) (by decide +kernel))) rfl
theorem nz_w66 : (Jvm.Cond.initialized "NestFinder$Slots") ∈ nz_G := nz_inG (List.mem_append_right _ (List.mem_of_getElem? (i := 8) (by decide +kernel))) rfl
theorem nz_w67 : (Jvm.Cond.initialized "NestFinder$Sights") ∈ nz_G := nz_inG (List.mem_append_right _ (List.mem_of_getElem? (i := 9) (by decide +kernel))) rfl
theorem nz_w68 : (Jvm.Cond.initialized "NestFinderModel") ∈ nz_G := nz_inG (List.mem_append_right _ (List.mem_of_getElem? (i := 10) (by decide +kernel))) rfl
theorem nz_w69 : (Jvm.Cond.initialized "java/lang/System") ∈ nz_G := nz_inG (List.mem_append_right _ (List.mem_of_getElem? (i := 11) (by decide +kernel))) rfl
theorem nz_w70 : (Jvm.Cond.initialized "java/util/Arrays") ∈ nz_G := nz_inG (List.mem_append_right _ (List.mem_of_getElem? (i := 12) (by decide +kernel))) rfl
theorem nz_w71 : (Jvm.Cond.initialized "java/lang/Integer") ∈ nz_G := nz_inG (List.mem_append_right _ (List.mem_of_getElem? (i := 13) (by decide +kernel))) rfl
theorem nz_w72 : (Jvm.Cond.classLink "NestFinderLaw" (7 : Nat) "NestFinder") ∈ nz_G := nz_inG (List.mem_append_right _ (List.mem_of_getElem? (i := 14) (by decide +kernel))) rfl
theorem nz_w73 : (Jvm.Cond.instantiable "NestFinder" (8 : Nat)) ∈ nz_G := nz_inG (List.mem_append_right _ (List.mem_of_getElem? (i := 15) (by decide +kernel))) rfl
theorem nz_w74 : (Jvm.Cond.methodLink "NestFinderLaw" (9 : Nat) ({ cls := "NestFinder", name := "<init>", desc := "()V" } : Jvm.MethodName)) ∈ nz_G := nz_inG (List.mem_append_right _ (List.mem_of_getElem? (i := 16) (by decide +kernel))) rfl
theorem nz_w75 : (Jvm.Cond.instanceMethod ({ cls := "NestFinder", name := "<init>", desc := "()V" } : Jvm.MethodName)) ∈ nz_G := nz_inG (List.mem_append_right _ (List.mem_of_getElem? (i := 17) (by decide +kernel))) rfl
theorem nz_w76 : (Jvm.Cond.code ({ cls := "NestFinder", name := "<init>", desc := "()V" } : Jvm.MethodName) prog_1_method_1_code (1 : Nat) (Option.none : Option Jvm.ClassFile.FieldType)) ∈ nz_G := nz_inG (List.mem_append_right _ (List.mem_of_getElem? (i := 18) (by decide +kernel))) rfl
theorem nz_w77 : (Jvm.Cond.methodLink "NestFinder" (1 : Nat) ({ cls := "java/lang/Object", name := "<init>", desc := "()V" } : Jvm.MethodName)) ∈ nz_G := nz_inG (List.mem_append_right _ (List.mem_of_getElem? (i := 19) (by decide +kernel))) rfl
theorem nz_w78 : (Jvm.Cond.instanceMethod ({ cls := "java/lang/Object", name := "<init>", desc := "()V" } : Jvm.MethodName)) ∈ nz_G := nz_inG (List.mem_append_right _ (List.mem_of_getElem? (i := 20) (by decide +kernel))) rfl
theorem nz_w79 : (Jvm.Cond.code ({ cls := "java/lang/Object", name := "<init>", desc := "()V" } : Jvm.MethodName) object_method_1_code (1 : Nat) (Option.none : Option Jvm.ClassFile.FieldType)) ∈ nz_G := nz_inG (List.mem_append_right _ (List.mem_of_getElem? (i := 21) (by decide +kernel))) rfl
theorem nz_w80 : (Jvm.Cond.classLink "NestFinder" (7 : Nat) "NestFinder$Text") ∈ nz_G := nz_inG (List.mem_append_right _ (List.mem_of_getElem? (i := 22) (by decide +kernel))) rfl
theorem nz_w81 : (Jvm.Cond.instantiable "NestFinder$Text" (2 : Nat)) ∈ nz_G := nz_inG (List.mem_append_right _ (List.mem_of_getElem? (i := 23) (by decide +kernel))) rfl
theorem nz_w83 : (Jvm.Cond.instanceMethod ({ cls := "NestFinder$Text", name := "<init>", desc := "()V" } : Jvm.MethodName)) ∈ nz_G := nz_inG (List.mem_append_right _ (List.mem_of_getElem? (i := 25) (by decide +kernel))) rfl
theorem nz_w84 : (Jvm.Cond.code ({ cls := "NestFinder$Text", name := "<init>", desc := "()V" } : Jvm.MethodName) prog_8_method_1_code (1 : Nat) (Option.none : Option Jvm.ClassFile.FieldType)) ∈ nz_G := nz_inG (List.mem_append_right _ (List.mem_of_getElem? (i := 26) (by decide +kernel))) rfl
theorem nz_w85 : (Jvm.Cond.methodLink "NestFinder$Text" (3 : Nat) ({ cls := "java/lang/Object", name := "<init>", desc := "()V" } : Jvm.MethodName)) ∈ nz_G := nz_inG (List.mem_append_right _ (List.mem_of_getElem? (i := 27) (by decide +kernel))) rfl
theorem nz_w86 : (Jvm.Cond.fieldLink "NestFinder$Text" (9 : Nat) "NestFinder$Text" "letters" "[I") ∈ nz_G := nz_inG (List.mem_append_right _ (List.mem_of_getElem? (i := 28) (by decide +kernel))) rfl
theorem nz_w87 : (Jvm.Cond.fieldLink "NestFinder$Text" (15 : Nat) "NestFinder$Text" "length" "I") ∈ nz_G := nz_inG (List.mem_append_right _ (List.mem_of_getElem? (i := 29) (by decide +kernel))) rfl
theorem nz_w89 : (Jvm.Cond.laysFinal "NestFinder$Text" "NestFinder$Text" "letters" "[I") ∈ nz_G := nz_inG (List.mem_append_right _ (List.mem_of_getElem? (i := 31) (by decide +kernel))) rfl
theorem nz_w91 : (Jvm.Cond.lays "NestFinder$Text" "NestFinder$Text" "length" "I") ∈ nz_G := nz_inG (List.mem_append_right _ (List.mem_of_getElem? (i := 33) (by decide +kernel))) rfl
theorem nz_w94 : (Jvm.Cond.arrayClass Jvm.ClassFile.FieldType.int) ∈ nz_G := nz_inG (List.mem_append_right _ (List.mem_of_getElem? (i := 36) (by decide +kernel))) rfl
theorem nz_w95 : (Jvm.Cond.classLink "NestFinder" (16 : Nat) "NestFinder$Graph") ∈ nz_G := nz_inG (List.mem_append_right _ (List.mem_of_getElem? (i := 37) (by decide +kernel))) rfl
theorem nz_w96 : (Jvm.Cond.instantiable "NestFinder$Graph" (4 : Nat)) ∈ nz_G := nz_inG (List.mem_append_right _ (List.mem_of_getElem? (i := 38) (by decide +kernel))) rfl
theorem nz_w98 : (Jvm.Cond.instanceMethod ({ cls := "NestFinder$Graph", name := "<init>", desc := "()V" } : Jvm.MethodName)) ∈ nz_G := nz_inG (List.mem_append_right _ (List.mem_of_getElem? (i := 40) (by decide +kernel))) rfl
theorem nz_w99 : (Jvm.Cond.code ({ cls := "NestFinder$Graph", name := "<init>", desc := "()V" } : Jvm.MethodName) prog_2_method_1_code (1 : Nat) (Option.none : Option Jvm.ClassFile.FieldType)) ∈ nz_G := nz_inG (List.mem_append_right _ (List.mem_of_getElem? (i := 41) (by decide +kernel))) rfl
theorem nz_w100 : (Jvm.Cond.methodLink "NestFinder$Graph" (3 : Nat) ({ cls := "java/lang/Object", name := "<init>", desc := "()V" } : Jvm.MethodName)) ∈ nz_G := nz_inG (List.mem_append_right _ (List.mem_of_getElem? (i := 42) (by decide +kernel))) rfl
theorem nz_w101 : (Jvm.Cond.fieldLink "NestFinder$Graph" (9 : Nat) "NestFinder$Graph" "acts" "[I") ∈ nz_G := nz_inG (List.mem_append_right _ (List.mem_of_getElem? (i := 43) (by decide +kernel))) rfl
theorem nz_w104 : (Jvm.Cond.fieldLink "NestFinder$Graph" (15 : Nat) "NestFinder$Graph" "counts" "[I") ∈ nz_G := nz_inG (List.mem_append_right _ (List.mem_of_getElem? (i := 46) (by decide +kernel))) rfl
theorem nz_w108 : (Jvm.Cond.fieldLink "NestFinder$Graph" (18 : Nat) "NestFinder$Graph" "arcs" "[I") ∈ nz_G := nz_inG (List.mem_append_right _ (List.mem_of_getElem? (i := 50) (by decide +kernel))) rfl
theorem nz_w110 : (Jvm.Cond.fieldLink "NestFinder$Graph" (21 : Nat) "NestFinder$Graph" "size" "I") ∈ nz_G := nz_inG (List.mem_append_right _ (List.mem_of_getElem? (i := 52) (by decide +kernel))) rfl
theorem nz_w115 : (Jvm.Cond.laysFinal "NestFinder$Graph" "NestFinder$Graph" "acts" "[I") ∈ nz_G := nz_inG (List.mem_append_right _ (List.mem_of_getElem? (i := 57) (by decide +kernel))) rfl
theorem nz_w117 : (Jvm.Cond.laysFinal "NestFinder$Graph" "NestFinder$Graph" "counts" "[I") ∈ nz_G := nz_inG (List.mem_append_right _ (List.mem_of_getElem? (i := 59) (by decide +kernel))) rfl
theorem nz_w119 : (Jvm.Cond.laysFinal "NestFinder$Graph" "NestFinder$Graph" "arcs" "[I") ∈ nz_G := nz_inG (List.mem_append_right _ (List.mem_of_getElem? (i := 61) (by decide +kernel))) rfl
theorem nz_w121 : (Jvm.Cond.lays "NestFinder$Graph" "NestFinder$Graph" "size" "I") ∈ nz_G := nz_inG (List.mem_append_right _ (List.mem_of_getElem? (i := 63) (by decide +kernel))) rfl
theorem nz_w124 : (Jvm.Cond.classLink "NestFinder" (26 : Nat) "NestFinder$Survey") ∈ nz_G := nz_inG (List.mem_append_right _ (List.mem_of_getElem? (i := 66) (by decide +kernel))) rfl
theorem nz_w125 : (Jvm.Cond.instantiable "NestFinder$Survey" (11 : Nat)) ∈ nz_G := nz_inG (List.mem_append_right _ (List.mem_of_getElem? (i := 67) (by decide +kernel))) rfl
theorem nz_w127 : (Jvm.Cond.instanceMethod ({ cls := "NestFinder$Survey", name := "<init>", desc := "()V" } : Jvm.MethodName)) ∈ nz_G := nz_inG (List.mem_append_right _ (List.mem_of_getElem? (i := 69) (by decide +kernel))) rfl
theorem nz_w128 : (Jvm.Cond.code ({ cls := "NestFinder$Survey", name := "<init>", desc := "()V" } : Jvm.MethodName) prog_7_method_1_code (1 : Nat) (Option.none : Option Jvm.ClassFile.FieldType)) ∈ nz_G := nz_inG (List.mem_append_right _ (List.mem_of_getElem? (i := 70) (by decide +kernel))) rfl
theorem nz_w129 : (Jvm.Cond.methodLink "NestFinder$Survey" (3 : Nat) ({ cls := "java/lang/Object", name := "<init>", desc := "()V" } : Jvm.MethodName)) ∈ nz_G := nz_inG (List.mem_append_right _ (List.mem_of_getElem? (i := 71) (by decide +kernel))) rfl
theorem nz_w130 : (Jvm.Cond.fieldLink "NestFinder$Survey" (9 : Nat) "NestFinder$Survey" "order" "[I") ∈ nz_G := nz_inG (List.mem_append_right _ (List.mem_of_getElem? (i := 72) (by decide +kernel))) rfl
theorem nz_w132 : (Jvm.Cond.fieldLink "NestFinder$Survey" (15 : Nat) "NestFinder$Survey" "blockAt" "[I") ∈ nz_G := nz_inG (List.mem_append_right _ (List.mem_of_getElem? (i := 74) (by decide +kernel))) rfl
theorem nz_w133 : (Jvm.Cond.fieldLink "NestFinder$Survey" (18 : Nat) "NestFinder$Survey" "beneath" "[I") ∈ nz_G := nz_inG (List.mem_append_right _ (List.mem_of_getElem? (i := 75) (by decide +kernel))) rfl
theorem nz_w135 : (Jvm.Cond.fieldLink "NestFinder$Survey" (21 : Nat) "NestFinder$Survey" "targets" "[I") ∈ nz_G := nz_inG (List.mem_append_right _ (List.mem_of_getElem? (i := 77) (by decide +kernel))) rfl
theorem nz_w137 : (Jvm.Cond.fieldLink "NestFinder$Survey" (24 : Nat) "NestFinder$Survey" "backers" "[I") ∈ nz_G := nz_inG (List.mem_append_right _ (List.mem_of_getElem? (i := 79) (by decide +kernel))) rfl
theorem nz_w138 : (Jvm.Cond.fieldLink "NestFinder$Survey" (27 : Nat) "NestFinder$Survey" "entries" "[I") ∈ nz_G := nz_inG (List.mem_append_right _ (List.mem_of_getElem? (i := 80) (by decide +kernel))) rfl
theorem nz_w140 : (Jvm.Cond.fieldLink "NestFinder$Survey" (30 : Nat) "NestFinder$Survey" "header" "[I") ∈ nz_G := nz_inG (List.mem_append_right _ (List.mem_of_getElem? (i := 82) (by decide +kernel))) rfl
theorem nz_w142 : (Jvm.Cond.fieldLink "NestFinder$Survey" (33 : Nat) "NestFinder$Survey" "type" "[I") ∈ nz_G := nz_inG (List.mem_append_right _ (List.mem_of_getElem? (i := 84) (by decide +kernel))) rfl
theorem nz_w144 : (Jvm.Cond.fieldLink "NestFinder$Survey" (36 : Nat) "NestFinder$Survey" "reached" "I") ∈ nz_G := nz_inG (List.mem_append_right _ (List.mem_of_getElem? (i := 86) (by decide +kernel))) rfl
theorem nz_w146 : (Jvm.Cond.fieldLink "NestFinder$Survey" (40 : Nat) "NestFinder$Survey" "reachedMask" "I") ∈ nz_G := nz_inG (List.mem_append_right _ (List.mem_of_getElem? (i := 88) (by decide +kernel))) rfl
theorem nz_w148 : (Jvm.Cond.fieldLink "NestFinder$Survey" (43 : Nat) "NestFinder$Survey" "backwardArcs" "I") ∈ nz_G := nz_inG (List.mem_append_right _ (List.mem_of_getElem? (i := 90) (by decide +kernel))) rfl
theorem nz_w150 : (Jvm.Cond.laysFinal "NestFinder$Survey" "NestFinder$Survey" "order" "[I") ∈ nz_G := nz_inG (List.mem_append_right _ (List.mem_of_getElem? (i := 92) (by decide +kernel))) rfl
theorem nz_w152 : (Jvm.Cond.laysFinal "NestFinder$Survey" "NestFinder$Survey" "blockAt" "[I") ∈ nz_G := nz_inG (List.mem_append_right _ (List.mem_of_getElem? (i := 94) (by decide +kernel))) rfl
theorem nz_w154 : (Jvm.Cond.laysFinal "NestFinder$Survey" "NestFinder$Survey" "beneath" "[I") ∈ nz_G := nz_inG (List.mem_append_right _ (List.mem_of_getElem? (i := 96) (by decide +kernel))) rfl
theorem nz_w156 : (Jvm.Cond.laysFinal "NestFinder$Survey" "NestFinder$Survey" "targets" "[I") ∈ nz_G := nz_inG (List.mem_append_right _ (List.mem_of_getElem? (i := 98) (by decide +kernel))) rfl
theorem nz_w158 : (Jvm.Cond.laysFinal "NestFinder$Survey" "NestFinder$Survey" "backers" "[I") ∈ nz_G := nz_inG (List.mem_append_right _ (List.mem_of_getElem? (i := 100) (by decide +kernel))) rfl
theorem nz_w160 : (Jvm.Cond.laysFinal "NestFinder$Survey" "NestFinder$Survey" "entries" "[I") ∈ nz_G := nz_inG (List.mem_append_right _ (List.mem_of_getElem? (i := 102) (by decide +kernel))) rfl
theorem nz_w162 : (Jvm.Cond.laysFinal "NestFinder$Survey" "NestFinder$Survey" "header" "[I") ∈ nz_G := nz_inG (List.mem_append_right _ (List.mem_of_getElem? (i := 104) (by decide +kernel))) rfl
theorem nz_w164 : (Jvm.Cond.laysFinal "NestFinder$Survey" "NestFinder$Survey" "type" "[I") ∈ nz_G := nz_inG (List.mem_append_right _ (List.mem_of_getElem? (i := 106) (by decide +kernel))) rfl
theorem nz_w166 : (Jvm.Cond.lays "NestFinder$Survey" "NestFinder$Survey" "reached" "I") ∈ nz_G := nz_inG (List.mem_append_right _ (List.mem_of_getElem? (i := 108) (by decide +kernel))) rfl
theorem nz_w168 : (Jvm.Cond.lays "NestFinder$Survey" "NestFinder$Survey" "reachedMask" "I") ∈ nz_G := nz_inG (List.mem_append_right _ (List.mem_of_getElem? (i := 110) (by decide +kernel))) rfl
theorem nz_w170 : (Jvm.Cond.lays "NestFinder$Survey" "NestFinder$Survey" "backwardArcs" "I") ∈ nz_G := nz_inG (List.mem_append_right _ (List.mem_of_getElem? (i := 112) (by decide +kernel))) rfl
theorem nz_w173 : (Jvm.Cond.classLink "NestFinder" (33 : Nat) "NestFinder$History") ∈ nz_G := nz_inG (List.mem_append_right _ (List.mem_of_getElem? (i := 115) (by decide +kernel))) rfl
theorem nz_w174 : (Jvm.Cond.instantiable "NestFinder$History" (3 : Nat)) ∈ nz_G := nz_inG (List.mem_append_right _ (List.mem_of_getElem? (i := 116) (by decide +kernel))) rfl
theorem nz_w176 : (Jvm.Cond.instanceMethod ({ cls := "NestFinder$History", name := "<init>", desc := "()V" } : Jvm.MethodName)) ∈ nz_G := nz_inG (List.mem_append_right _ (List.mem_of_getElem? (i := 118) (by decide +kernel))) rfl
theorem nz_w177 : (Jvm.Cond.code ({ cls := "NestFinder$History", name := "<init>", desc := "()V" } : Jvm.MethodName) prog_3_method_1_code (1 : Nat) (Option.none : Option Jvm.ClassFile.FieldType)) ∈ nz_G := nz_inG (List.mem_append_right _ (List.mem_of_getElem? (i := 119) (by decide +kernel))) rfl
theorem nz_w178 : (Jvm.Cond.methodLink "NestFinder$History" (3 : Nat) ({ cls := "java/lang/Object", name := "<init>", desc := "()V" } : Jvm.MethodName)) ∈ nz_G := nz_inG (List.mem_append_right _ (List.mem_of_getElem? (i := 120) (by decide +kernel))) rfl
theorem nz_w179 : (Jvm.Cond.classLink "NestFinder$History" (9 : Nat) "NestFinder$Shelf") ∈ nz_G := nz_inG (List.mem_append_right _ (List.mem_of_getElem? (i := 121) (by decide +kernel))) rfl
theorem nz_w180 : (Jvm.Cond.instantiable "NestFinder$Shelf" (4 : Nat)) ∈ nz_G := nz_inG (List.mem_append_right _ (List.mem_of_getElem? (i := 122) (by decide +kernel))) rfl
theorem nz_w181 : (Jvm.Cond.methodLink "NestFinder$History" (11 : Nat) ({ cls := "NestFinder$Shelf", name := "<init>", desc := "(I)V" } : Jvm.MethodName)) ∈ nz_G := nz_inG (List.mem_append_right _ (List.mem_of_getElem? (i := 123) (by decide +kernel))) rfl
theorem nz_w182 : (Jvm.Cond.instanceMethod ({ cls := "NestFinder$Shelf", name := "<init>", desc := "(I)V" } : Jvm.MethodName)) ∈ nz_G := nz_inG (List.mem_append_right _ (List.mem_of_getElem? (i := 124) (by decide +kernel))) rfl
theorem nz_w183 : (Jvm.Cond.code ({ cls := "NestFinder$Shelf", name := "<init>", desc := "(I)V" } : Jvm.MethodName) prog_4_method_1_code (3 : Nat) (Option.none : Option Jvm.ClassFile.FieldType)) ∈ nz_G := nz_inG (List.mem_append_right _ (List.mem_of_getElem? (i := 125) (by decide +kernel))) rfl
theorem nz_w184 : (Jvm.Cond.methodLink "NestFinder$Shelf" (3 : Nat) ({ cls := "java/lang/Object", name := "<init>", desc := "()V" } : Jvm.MethodName)) ∈ nz_G := nz_inG (List.mem_append_right _ (List.mem_of_getElem? (i := 126) (by decide +kernel))) rfl
theorem nz_w185 : (Jvm.Cond.methodLink "NestFinder$Shelf" (9 : Nat) ({ cls := "java/lang/Math", name := "max", desc := "(II)I" } : Jvm.MethodName)) ∈ nz_G := nz_inG (List.mem_append_right _ (List.mem_of_getElem? (i := 127) (by decide +kernel))) rfl
theorem nz_w186 : (Jvm.Cond.static ({ cls := "java/lang/Math", name := "max", desc := "(II)I" } : Jvm.MethodName)) ∈ nz_G := nz_inG (List.mem_append_right _ (List.mem_of_getElem? (i := 128) (by decide +kernel))) rfl
theorem nz_w187 : (Jvm.Cond.code ({ cls := "java/lang/Math", name := "max", desc := "(II)I" } : Jvm.MethodName) prog_12_method_65_code (2 : Nat) (Option.some Jvm.ClassFile.FieldType.int)) ∈ nz_G := nz_inG (List.mem_append_right _ (List.mem_of_getElem? (i := 129) (by decide +kernel))) rfl
theorem nz_w188 : (Jvm.Cond.fieldLink "NestFinder$Shelf" (15 : Nat) "NestFinder$Shelf" "sizes" "[I") ∈ nz_G := nz_inG (List.mem_append_right _ (List.mem_of_getElem? (i := 130) (by decide +kernel))) rfl
theorem nz_w189 : (Jvm.Cond.fieldLink "NestFinder$Shelf" (21 : Nat) "NestFinder$Shelf" "acts" "[I") ∈ nz_G := nz_inG (List.mem_append_right _ (List.mem_of_getElem? (i := 131) (by decide +kernel))) rfl
theorem nz_w190 : (Jvm.Cond.fieldLink "NestFinder$Shelf" (24 : Nat) "NestFinder$Shelf" "counts" "[I") ∈ nz_G := nz_inG (List.mem_append_right _ (List.mem_of_getElem? (i := 132) (by decide +kernel))) rfl
theorem nz_w191 : (Jvm.Cond.fieldLink "NestFinder$Shelf" (27 : Nat) "NestFinder$Shelf" "arcs" "[I") ∈ nz_G := nz_inG (List.mem_append_right _ (List.mem_of_getElem? (i := 133) (by decide +kernel))) rfl
theorem nz_w192 : (Jvm.Cond.laysFinal "NestFinder$Shelf" "NestFinder$Shelf" "sizes" "[I") ∈ nz_G := nz_inG (List.mem_append_right _ (List.mem_of_getElem? (i := 134) (by decide +kernel))) rfl
theorem nz_w194 : (Jvm.Cond.laysFinal "NestFinder$Shelf" "NestFinder$Shelf" "acts" "[I") ∈ nz_G := nz_inG (List.mem_append_right _ (List.mem_of_getElem? (i := 136) (by decide +kernel))) rfl
theorem nz_w196 : (Jvm.Cond.laysFinal "NestFinder$Shelf" "NestFinder$Shelf" "counts" "[I") ∈ nz_G := nz_inG (List.mem_append_right _ (List.mem_of_getElem? (i := 138) (by decide +kernel))) rfl
theorem nz_w198 : (Jvm.Cond.laysFinal "NestFinder$Shelf" "NestFinder$Shelf" "arcs" "[I") ∈ nz_G := nz_inG (List.mem_append_right _ (List.mem_of_getElem? (i := 140) (by decide +kernel))) rfl
theorem nz_w201 : (Jvm.Cond.fieldLink "NestFinder$History" (14 : Nat) "NestFinder$History" "before" "LNestFinder$Shelf;") ∈ nz_G := nz_inG (List.mem_append_right _ (List.mem_of_getElem? (i := 143) (by decide +kernel))) rfl
theorem nz_w202 : (Jvm.Cond.fieldLink "NestFinder$History" (20 : Nat) "NestFinder$History" "first" "I") ∈ nz_G := nz_inG (List.mem_append_right _ (List.mem_of_getElem? (i := 144) (by decide +kernel))) rfl
theorem nz_w203 : (Jvm.Cond.fieldLink "NestFinder$History" (24 : Nat) "NestFinder$History" "count" "I") ∈ nz_G := nz_inG (List.mem_append_right _ (List.mem_of_getElem? (i := 145) (by decide +kernel))) rfl
theorem nz_w205 : (Jvm.Cond.laysFinal "NestFinder$History" "NestFinder$History" "before" "LNestFinder$Shelf;") ∈ nz_G := nz_inG (List.mem_append_right _ (List.mem_of_getElem? (i := 147) (by decide +kernel))) rfl
theorem nz_w207 : (Jvm.Cond.lays "NestFinder$History" "NestFinder$History" "first" "I") ∈ nz_G := nz_inG (List.mem_append_right _ (List.mem_of_getElem? (i := 149) (by decide +kernel))) rfl
theorem nz_w209 : (Jvm.Cond.lays "NestFinder$History" "NestFinder$History" "count" "I") ∈ nz_G := nz_inG (List.mem_append_right _ (List.mem_of_getElem? (i := 151) (by decide +kernel))) rfl
theorem nz_w212 : (Jvm.Cond.classLink "NestFinder" (40 : Nat) "NestFinder$Slots") ∈ nz_G := nz_inG (List.mem_append_right _ (List.mem_of_getElem? (i := 154) (by decide +kernel))) rfl
theorem nz_w213 : (Jvm.Cond.instantiable "NestFinder$Slots" (2 : Nat)) ∈ nz_G := nz_inG (List.mem_append_right _ (List.mem_of_getElem? (i := 155) (by decide +kernel))) rfl
theorem nz_w215 : (Jvm.Cond.instanceMethod ({ cls := "NestFinder$Slots", name := "<init>", desc := "()V" } : Jvm.MethodName)) ∈ nz_G := nz_inG (List.mem_append_right _ (List.mem_of_getElem? (i := 157) (by decide +kernel))) rfl
theorem nz_w216 : (Jvm.Cond.code ({ cls := "NestFinder$Slots", name := "<init>", desc := "()V" } : Jvm.MethodName) prog_6_method_1_code (1 : Nat) (Option.none : Option Jvm.ClassFile.FieldType)) ∈ nz_G := nz_inG (List.mem_append_right _ (List.mem_of_getElem? (i := 158) (by decide +kernel))) rfl
theorem nz_w217 : (Jvm.Cond.methodLink "NestFinder$Slots" (3 : Nat) ({ cls := "java/lang/Object", name := "<init>", desc := "()V" } : Jvm.MethodName)) ∈ nz_G := nz_inG (List.mem_append_right _ (List.mem_of_getElem? (i := 159) (by decide +kernel))) rfl
theorem nz_w218 : (Jvm.Cond.classLink "NestFinder$Slots" (9 : Nat) "NestFinder$Shelf") ∈ nz_G := nz_inG (List.mem_append_right _ (List.mem_of_getElem? (i := 160) (by decide +kernel))) rfl
theorem nz_w219 : (Jvm.Cond.methodLink "NestFinder$Slots" (11 : Nat) ({ cls := "NestFinder$Shelf", name := "<init>", desc := "(I)V" } : Jvm.MethodName)) ∈ nz_G := nz_inG (List.mem_append_right _ (List.mem_of_getElem? (i := 161) (by decide +kernel))) rfl
theorem nz_w220 : (Jvm.Cond.fieldLink "NestFinder$Slots" (14 : Nat) "NestFinder$Slots" "kept" "LNestFinder$Shelf;") ∈ nz_G := nz_inG (List.mem_append_right _ (List.mem_of_getElem? (i := 162) (by decide +kernel))) rfl
theorem nz_w221 : (Jvm.Cond.fieldLink "NestFinder$Slots" (20 : Nat) "NestFinder$Slots" "isFilled" "[Z") ∈ nz_G := nz_inG (List.mem_append_right _ (List.mem_of_getElem? (i := 163) (by decide +kernel))) rfl
theorem nz_w223 : (Jvm.Cond.laysFinal "NestFinder$Slots" "NestFinder$Slots" "kept" "LNestFinder$Shelf;") ∈ nz_G := nz_inG (List.mem_append_right _ (List.mem_of_getElem? (i := 165) (by decide +kernel))) rfl
theorem nz_w225 : (Jvm.Cond.laysFinal "NestFinder$Slots" "NestFinder$Slots" "isFilled" "[Z") ∈ nz_G := nz_inG (List.mem_append_right _ (List.mem_of_getElem? (i := 167) (by decide +kernel))) rfl
theorem nz_w228 : (Jvm.Cond.arrayClass Jvm.ClassFile.FieldType.boolean) ∈ nz_G := nz_inG (List.mem_append_right _ (List.mem_of_getElem? (i := 170) (by decide +kernel))) rfl
theorem nz_w229 : (Jvm.Cond.classLink "NestFinder" (47 : Nat) "NestFinder$Sights") ∈ nz_G := nz_inG (List.mem_append_right _ (List.mem_of_getElem? (i := 171) (by decide +kernel))) rfl
theorem nz_w230 : (Jvm.Cond.instantiable "NestFinder$Sights" (4 : Nat)) ∈ nz_G := nz_inG (List.mem_append_right _ (List.mem_of_getElem? (i := 172) (by decide +kernel))) rfl
theorem nz_w232 : (Jvm.Cond.instanceMethod ({ cls := "NestFinder$Sights", name := "<init>", desc := "()V" } : Jvm.MethodName)) ∈ nz_G := nz_inG (List.mem_append_right _ (List.mem_of_getElem? (i := 174) (by decide +kernel))) rfl
theorem nz_w233 : (Jvm.Cond.code ({ cls := "NestFinder$Sights", name := "<init>", desc := "()V" } : Jvm.MethodName) prog_5_method_1_code (1 : Nat) (Option.none : Option Jvm.ClassFile.FieldType)) ∈ nz_G := nz_inG (List.mem_append_right _ (List.mem_of_getElem? (i := 175) (by decide +kernel))) rfl
theorem nz_w234 : (Jvm.Cond.methodLink "NestFinder$Sights" (3 : Nat) ({ cls := "java/lang/Object", name := "<init>", desc := "()V" } : Jvm.MethodName)) ∈ nz_G := nz_inG (List.mem_append_right _ (List.mem_of_getElem? (i := 176) (by decide +kernel))) rfl
theorem nz_w235 : (Jvm.Cond.fieldLink "NestFinder$Sights" (9 : Nat) "NestFinder$Sights" "behind" "[I") ∈ nz_G := nz_inG (List.mem_append_right _ (List.mem_of_getElem? (i := 177) (by decide +kernel))) rfl
theorem nz_w236 : (Jvm.Cond.fieldLink "NestFinder$Sights" (15 : Nat) "NestFinder$Sights" "letter" "[I") ∈ nz_G := nz_inG (List.mem_append_right _ (List.mem_of_getElem? (i := 178) (by decide +kernel))) rfl
theorem nz_w237 : (Jvm.Cond.fieldLink "NestFinder$Sights" (18 : Nat) "NestFinder$Sights" "was" "[Z") ∈ nz_G := nz_inG (List.mem_append_right _ (List.mem_of_getElem? (i := 179) (by decide +kernel))) rfl
theorem nz_w238 : (Jvm.Cond.fieldLink "NestFinder$Sights" (22 : Nat) "NestFinder$Sights" "count" "I") ∈ nz_G := nz_inG (List.mem_append_right _ (List.mem_of_getElem? (i := 180) (by decide +kernel))) rfl
theorem nz_w240 : (Jvm.Cond.laysFinal "NestFinder$Sights" "NestFinder$Sights" "behind" "[I") ∈ nz_G := nz_inG (List.mem_append_right _ (List.mem_of_getElem? (i := 182) (by decide +kernel))) rfl
theorem nz_w242 : (Jvm.Cond.laysFinal "NestFinder$Sights" "NestFinder$Sights" "letter" "[I") ∈ nz_G := nz_inG (List.mem_append_right _ (List.mem_of_getElem? (i := 184) (by decide +kernel))) rfl
theorem nz_w244 : (Jvm.Cond.laysFinal "NestFinder$Sights" "NestFinder$Sights" "was" "[Z") ∈ nz_G := nz_inG (List.mem_append_right _ (List.mem_of_getElem? (i := 186) (by decide +kernel))) rfl
theorem nz_w246 : (Jvm.Cond.lays "NestFinder$Sights" "NestFinder$Sights" "count" "I") ∈ nz_G := nz_inG (List.mem_append_right _ (List.mem_of_getElem? (i := 188) (by decide +kernel))) rfl
theorem nz_w249 : (Jvm.Cond.fieldLink "NestFinder" (10 : Nat) "NestFinder" "text" "LNestFinder$Text;") ∈ nz_G := nz_inG (List.mem_append_right _ (List.mem_of_getElem? (i := 191) (by decide +kernel))) rfl
theorem nz_w250 : (Jvm.Cond.fieldLink "NestFinder" (19 : Nat) "NestFinder" "now" "LNestFinder$Graph;") ∈ nz_G := nz_inG (List.mem_append_right _ (List.mem_of_getElem? (i := 192) (by decide +kernel))) rfl
theorem nz_w251 : (Jvm.Cond.fieldLink "NestFinder" (23 : Nat) "NestFinder" "trial" "LNestFinder$Graph;") ∈ nz_G := nz_inG (List.mem_append_right _ (List.mem_of_getElem? (i := 193) (by decide +kernel))) rfl
theorem nz_w252 : (Jvm.Cond.fieldLink "NestFinder" (29 : Nat) "NestFinder" "survey" "LNestFinder$Survey;") ∈ nz_G := nz_inG (List.mem_append_right _ (List.mem_of_getElem? (i := 194) (by decide +kernel))) rfl
theorem nz_w253 : (Jvm.Cond.fieldLink "NestFinder" (36 : Nat) "NestFinder" "history" "LNestFinder$History;") ∈ nz_G := nz_inG (List.mem_append_right _ (List.mem_of_getElem? (i := 195) (by decide +kernel))) rfl
theorem nz_w254 : (Jvm.Cond.fieldLink "NestFinder" (43 : Nat) "NestFinder" "slots" "LNestFinder$Slots;") ∈ nz_G := nz_inG (List.mem_append_right _ (List.mem_of_getElem? (i := 196) (by decide +kernel))) rfl
theorem nz_w255 : (Jvm.Cond.fieldLink "NestFinder" (50 : Nat) "NestFinder" "sights" "LNestFinder$Sights;") ∈ nz_G := nz_inG (List.mem_append_right _ (List.mem_of_getElem? (i := 197) (by decide +kernel))) rfl
theorem nz_w256 : (Jvm.Cond.fieldLink "NestFinder" (54 : Nat) "NestFinder" "seedNow" "J") ∈ nz_G := nz_inG (List.mem_append_right _ (List.mem_of_getElem? (i := 198) (by decide +kernel))) rfl
theorem nz_w257 : (Jvm.Cond.laysFinal "NestFinder" "NestFinder" "text" "LNestFinder$Text;") ∈ nz_G := nz_inG (List.mem_append_right _ (List.mem_of_getElem? (i := 199) (by decide +kernel))) rfl
theorem nz_w259 : (Jvm.Cond.laysFinal "NestFinder" "NestFinder" "now" "LNestFinder$Graph;") ∈ nz_G := nz_inG (List.mem_append_right _ (List.mem_of_getElem? (i := 201) (by decide +kernel))) rfl
theorem nz_w261 : (Jvm.Cond.laysFinal "NestFinder" "NestFinder" "trial" "LNestFinder$Graph;") ∈ nz_G := nz_inG (List.mem_append_right _ (List.mem_of_getElem? (i := 203) (by decide +kernel))) rfl
theorem nz_w263 : (Jvm.Cond.laysFinal "NestFinder" "NestFinder" "survey" "LNestFinder$Survey;") ∈ nz_G := nz_inG (List.mem_append_right _ (List.mem_of_getElem? (i := 205) (by decide +kernel))) rfl
theorem nz_w265 : (Jvm.Cond.laysFinal "NestFinder" "NestFinder" "history" "LNestFinder$History;") ∈ nz_G := nz_inG (List.mem_append_right _ (List.mem_of_getElem? (i := 207) (by decide +kernel))) rfl
theorem nz_w267 : (Jvm.Cond.laysFinal "NestFinder" "NestFinder" "slots" "LNestFinder$Slots;") ∈ nz_G := nz_inG (List.mem_append_right _ (List.mem_of_getElem? (i := 209) (by decide +kernel))) rfl
theorem nz_w269 : (Jvm.Cond.laysFinal "NestFinder" "NestFinder" "sights" "LNestFinder$Sights;") ∈ nz_G := nz_inG (List.mem_append_right _ (List.mem_of_getElem? (i := 211) (by decide +kernel))) rfl
theorem nz_w271 : (Jvm.Cond.lays "NestFinder" "NestFinder" "seedNow" "J") ∈ nz_G := nz_inG (List.mem_append_right _ (List.mem_of_getElem? (i := 213) (by decide +kernel))) rfl
theorem nz_w274 : (Jvm.Cond.methodLink "NestFinderLaw" (13 : Nat) ({ cls := "NestFinder", name := "write", desc := "(I)I" } : Jvm.MethodName)) ∈ nz_G := nz_inG (List.mem_append_right _ (List.mem_of_getElem? (i := 216) (by decide +kernel))) rfl
theorem nz_w275 : (Jvm.Cond.instanceMethod ({ cls := "NestFinder", name := "write", desc := "(I)I" } : Jvm.MethodName)) ∈ nz_G := nz_inG (List.mem_append_right _ (List.mem_of_getElem? (i := 217) (by decide +kernel))) rfl
theorem nz_w276 : (Jvm.Cond.selects "NestFinder" ({ cls := "NestFinder", name := "write", desc := "(I)I" } : Jvm.MethodName) ({ cls := "NestFinder", name := "write", desc := "(I)I" } : Jvm.MethodName)) ∈ nz_G := nz_inG (List.mem_append_right _ (List.mem_of_getElem? (i := 218) (by decide +kernel))) rfl
theorem nz_w277 : (Jvm.Cond.code ({ cls := "NestFinder", name := "write", desc := "(I)I" } : Jvm.MethodName) prog_1_method_2_code (2 : Nat) (Option.some Jvm.ClassFile.FieldType.int)) ∈ nz_G := nz_inG (List.mem_append_right _ (List.mem_of_getElem? (i := 219) (by decide +kernel))) rfl
theorem nz_w278 : (Jvm.Cond.methodLink "NestFinder" (58 : Nat) ({ cls := "NestFinder$Text", name := "append", desc := "(I)I" } : Jvm.MethodName)) ∈ nz_G := nz_inG (List.mem_append_right _ (List.mem_of_getElem? (i := 220) (by decide +kernel))) rfl
theorem nz_w279 : (Jvm.Cond.instanceMethod ({ cls := "NestFinder$Text", name := "append", desc := "(I)I" } : Jvm.MethodName)) ∈ nz_G := nz_inG (List.mem_append_right _ (List.mem_of_getElem? (i := 221) (by decide +kernel))) rfl
theorem nz_w280 : (Jvm.Cond.selects "NestFinder$Text" ({ cls := "NestFinder$Text", name := "append", desc := "(I)I" } : Jvm.MethodName) ({ cls := "NestFinder$Text", name := "append", desc := "(I)I" } : Jvm.MethodName)) ∈ nz_G := nz_inG (List.mem_append_right _ (List.mem_of_getElem? (i := 222) (by decide +kernel))) rfl
theorem nz_w281 : (Jvm.Cond.code ({ cls := "NestFinder$Text", name := "append", desc := "(I)I" } : Jvm.MethodName) prog_8_method_2_code (2 : Nat) (Option.some Jvm.ClassFile.FieldType.int)) ∈ nz_G := nz_inG (List.mem_append_right _ (List.mem_of_getElem? (i := 223) (by decide +kernel))) rfl
theorem nz_w282 : (Jvm.Cond.methodLink "NestFinderLaw" (18 : Nat) ({ cls := "NestFinder", name := "wipe", desc := "()I" } : Jvm.MethodName)) ∈ nz_G := nz_inG (List.mem_append_right _ (List.mem_of_getElem? (i := 224) (by decide +kernel))) rfl
theorem nz_w283 : (Jvm.Cond.instanceMethod ({ cls := "NestFinder", name := "wipe", desc := "()I" } : Jvm.MethodName)) ∈ nz_G := nz_inG (List.mem_append_right _ (List.mem_of_getElem? (i := 225) (by decide +kernel))) rfl
theorem nz_w284 : (Jvm.Cond.selects "NestFinder" ({ cls := "NestFinder", name := "wipe", desc := "()I" } : Jvm.MethodName) ({ cls := "NestFinder", name := "wipe", desc := "()I" } : Jvm.MethodName)) ∈ nz_G := nz_inG (List.mem_append_right _ (List.mem_of_getElem? (i := 226) (by decide +kernel))) rfl
theorem nz_w285 : (Jvm.Cond.code ({ cls := "NestFinder", name := "wipe", desc := "()I" } : Jvm.MethodName) prog_1_method_3_code (1 : Nat) (Option.some Jvm.ClassFile.FieldType.int)) ∈ nz_G := nz_inG (List.mem_append_right _ (List.mem_of_getElem? (i := 227) (by decide +kernel))) rfl
theorem nz_w286 : (Jvm.Cond.methodLink "NestFinder" (62 : Nat) ({ cls := "NestFinder$Text", name := "clear", desc := "()I" } : Jvm.MethodName)) ∈ nz_G := nz_inG (List.mem_append_right _ (List.mem_of_getElem? (i := 228) (by decide +kernel))) rfl
theorem nz_w287 : (Jvm.Cond.instanceMethod ({ cls := "NestFinder$Text", name := "clear", desc := "()I" } : Jvm.MethodName)) ∈ nz_G := nz_inG (List.mem_append_right _ (List.mem_of_getElem? (i := 229) (by decide +kernel))) rfl
theorem nz_w288 : (Jvm.Cond.selects "NestFinder$Text" ({ cls := "NestFinder$Text", name := "clear", desc := "()I" } : Jvm.MethodName) ({ cls := "NestFinder$Text", name := "clear", desc := "()I" } : Jvm.MethodName)) ∈ nz_G := nz_inG (List.mem_append_right _ (List.mem_of_getElem? (i := 230) (by decide +kernel))) rfl
theorem nz_w289 : (Jvm.Cond.code ({ cls := "NestFinder$Text", name := "clear", desc := "()I" } : Jvm.MethodName) prog_8_method_3_code (2 : Nat) (Option.some Jvm.ClassFile.FieldType.int)) ∈ nz_G := nz_inG (List.mem_append_right _ (List.mem_of_getElem? (i := 231) (by decide +kernel))) rfl
theorem nz_w290 : (Jvm.Cond.methodLink "NestFinderLaw" (23 : Nat) ({ cls := "NestFinder", name := "fault", desc := "()I" } : Jvm.MethodName)) ∈ nz_G := nz_inG (List.mem_append_right _ (List.mem_of_getElem? (i := 232) (by decide +kernel))) rfl
theorem nz_w291 : (Jvm.Cond.instanceMethod ({ cls := "NestFinder", name := "fault", desc := "()I" } : Jvm.MethodName)) ∈ nz_G := nz_inG (List.mem_append_right _ (List.mem_of_getElem? (i := 233) (by decide +kernel))) rfl
theorem nz_w292 : (Jvm.Cond.selects "NestFinder" ({ cls := "NestFinder", name := "fault", desc := "()I" } : Jvm.MethodName) ({ cls := "NestFinder", name := "fault", desc := "()I" } : Jvm.MethodName)) ∈ nz_G := nz_inG (List.mem_append_right _ (List.mem_of_getElem? (i := 234) (by decide +kernel))) rfl
theorem nz_w293 : (Jvm.Cond.code ({ cls := "NestFinder", name := "fault", desc := "()I" } : Jvm.MethodName) prog_1_method_4_code (1 : Nat) (Option.some Jvm.ClassFile.FieldType.int)) ∈ nz_G := nz_inG (List.mem_append_right _ (List.mem_of_getElem? (i := 235) (by decide +kernel))) rfl
theorem nz_w294 : (Jvm.Cond.methodLink "NestFinder" (66 : Nat) ({ cls := "NestFinder$Text", name := "readInto", desc := "(LNestFinder$Graph;)I" } : Jvm.MethodName)) ∈ nz_G := nz_inG (List.mem_append_right _ (List.mem_of_getElem? (i := 236) (by decide +kernel))) rfl
theorem nz_w295 : (Jvm.Cond.instanceMethod ({ cls := "NestFinder$Text", name := "readInto", desc := "(LNestFinder$Graph;)I" } : Jvm.MethodName)) ∈ nz_G := nz_inG (List.mem_append_right _ (List.mem_of_getElem? (i := 237) (by decide +kernel))) rfl
theorem nz_w296 : (Jvm.Cond.selects "NestFinder$Text" ({ cls := "NestFinder$Text", name := "readInto", desc := "(LNestFinder$Graph;)I" } : Jvm.MethodName) ({ cls := "NestFinder$Text", name := "readInto", desc := "(LNestFinder$Graph;)I" } : Jvm.MethodName)) ∈ nz_G := nz_inG (List.mem_append_right _ (List.mem_of_getElem? (i := 238) (by decide +kernel))) rfl
theorem nz_w297 : (Jvm.Cond.code ({ cls := "NestFinder$Text", name := "readInto", desc := "(LNestFinder$Graph;)I" } : Jvm.MethodName) prog_8_method_4_code (4 : Nat) (Option.some Jvm.ClassFile.FieldType.int)) ∈ nz_G := nz_inG (List.mem_append_right _ (List.mem_of_getElem? (i := 239) (by decide +kernel))) rfl
theorem nz_w298 : (Jvm.Cond.methodLink "NestFinder$Text" (24 : Nat) ({ cls := "NestFinder$Text", name := "readLetter", desc := "(LNestFinder$Graph;II)Z" } : Jvm.MethodName)) ∈ nz_G := nz_inG (List.mem_append_right _ (List.mem_of_getElem? (i := 240) (by decide +kernel))) rfl
theorem nz_w299 : (Jvm.Cond.static ({ cls := "NestFinder$Text", name := "readLetter", desc := "(LNestFinder$Graph;II)Z" } : Jvm.MethodName)) ∈ nz_G := nz_inG (List.mem_append_right _ (List.mem_of_getElem? (i := 241) (by decide +kernel))) rfl
theorem nz_w300 : (Jvm.Cond.code ({ cls := "NestFinder$Text", name := "readLetter", desc := "(LNestFinder$Graph;II)Z" } : Jvm.MethodName) prog_8_method_5_code (4 : Nat) (Option.some Jvm.ClassFile.FieldType.boolean)) ∈ nz_G := nz_inG (List.mem_append_right _ (List.mem_of_getElem? (i := 242) (by decide +kernel))) rfl
theorem nz_w301 : (Jvm.Cond.methodLink "NestFinder$Text" (28 : Nat) ({ cls := "NestFinder$Graph", name := "appendBlock", desc := "(I)Z" } : Jvm.MethodName)) ∈ nz_G := nz_inG (List.mem_append_right _ (List.mem_of_getElem? (i := 243) (by decide +kernel))) rfl
theorem nz_w302 : (Jvm.Cond.instanceMethod ({ cls := "NestFinder$Graph", name := "appendBlock", desc := "(I)Z" } : Jvm.MethodName)) ∈ nz_G := nz_inG (List.mem_append_right _ (List.mem_of_getElem? (i := 244) (by decide +kernel))) rfl
theorem nz_w303 : (Jvm.Cond.selects "NestFinder$Graph" ({ cls := "NestFinder$Graph", name := "appendBlock", desc := "(I)Z" } : Jvm.MethodName) ({ cls := "NestFinder$Graph", name := "appendBlock", desc := "(I)Z" } : Jvm.MethodName)) ∈ nz_G := nz_inG (List.mem_append_right _ (List.mem_of_getElem? (i := 245) (by decide +kernel))) rfl
theorem nz_w304 : (Jvm.Cond.code ({ cls := "NestFinder$Graph", name := "appendBlock", desc := "(I)Z" } : Jvm.MethodName) prog_2_method_8_code (2 : Nat) (Option.some Jvm.ClassFile.FieldType.boolean)) ∈ nz_G := nz_inG (List.mem_append_right _ (List.mem_of_getElem? (i := 246) (by decide +kernel))) rfl
theorem nz_w305 : (Jvm.Cond.methodLink "NestFinder$Text" (32 : Nat) ({ cls := "NestFinder$Graph", name := "appendArcToLast", desc := "(I)Z" } : Jvm.MethodName)) ∈ nz_G := nz_inG (List.mem_append_right _ (List.mem_of_getElem? (i := 247) (by decide +kernel))) rfl
theorem nz_w306 : (Jvm.Cond.instanceMethod ({ cls := "NestFinder$Graph", name := "appendArcToLast", desc := "(I)Z" } : Jvm.MethodName)) ∈ nz_G := nz_inG (List.mem_append_right _ (List.mem_of_getElem? (i := 248) (by decide +kernel))) rfl
theorem nz_w307 : (Jvm.Cond.selects "NestFinder$Graph" ({ cls := "NestFinder$Graph", name := "appendArcToLast", desc := "(I)Z" } : Jvm.MethodName) ({ cls := "NestFinder$Graph", name := "appendArcToLast", desc := "(I)Z" } : Jvm.MethodName)) ∈ nz_G := nz_inG (List.mem_append_right _ (List.mem_of_getElem? (i := 249) (by decide +kernel))) rfl
theorem nz_w308 : (Jvm.Cond.code ({ cls := "NestFinder$Graph", name := "appendArcToLast", desc := "(I)Z" } : Jvm.MethodName) prog_2_method_9_code (2 : Nat) (Option.some Jvm.ClassFile.FieldType.boolean)) ∈ nz_G := nz_inG (List.mem_append_right _ (List.mem_of_getElem? (i := 250) (by decide +kernel))) rfl
theorem nz_w309 : (Jvm.Cond.methodLink "NestFinder$Graph" (39 : Nat) ({ cls := "NestFinder$Graph", name := "putArcBehind", desc := "(II)V" } : Jvm.MethodName)) ∈ nz_G := nz_inG (List.mem_append_right _ (List.mem_of_getElem? (i := 251) (by decide +kernel))) rfl
theorem nz_w311 : (Jvm.Cond.instanceMethod ({ cls := "NestFinder$Graph", name := "putArcBehind", desc := "(II)V" } : Jvm.MethodName)) ∈ nz_G := nz_inG (List.mem_append_right _ (List.mem_of_getElem? (i := 253) (by decide +kernel))) rfl
theorem nz_w312 : (Jvm.Cond.code ({ cls := "NestFinder$Graph", name := "putArcBehind", desc := "(II)V" } : Jvm.MethodName) prog_2_method_10_code (3 : Nat) (Option.none : Option Jvm.ClassFile.FieldType)) ∈ nz_G := nz_inG (List.mem_append_right _ (List.mem_of_getElem? (i := 254) (by decide +kernel))) rfl
theorem nz_w313 : (Jvm.Cond.methodLink "NestFinderLaw" (27 : Nat) ({ cls := "NestFinder", name := "graph", desc := "()I" } : Jvm.MethodName)) ∈ nz_G := nz_inG (List.mem_append_right _ (List.mem_of_getElem? (i := 255) (by decide +kernel))) rfl
theorem nz_w314 : (Jvm.Cond.instanceMethod ({ cls := "NestFinder", name := "graph", desc := "()I" } : Jvm.MethodName)) ∈ nz_G := nz_inG (List.mem_append_right _ (List.mem_of_getElem? (i := 256) (by decide +kernel))) rfl
theorem nz_w315 : (Jvm.Cond.selects "NestFinder" ({ cls := "NestFinder", name := "graph", desc := "()I" } : Jvm.MethodName) ({ cls := "NestFinder", name := "graph", desc := "()I" } : Jvm.MethodName)) ∈ nz_G := nz_inG (List.mem_append_right _ (List.mem_of_getElem? (i := 257) (by decide +kernel))) rfl
theorem nz_w316 : (Jvm.Cond.code ({ cls := "NestFinder", name := "graph", desc := "()I" } : Jvm.MethodName) prog_1_method_5_code (1 : Nat) (Option.some Jvm.ClassFile.FieldType.int)) ∈ nz_G := nz_inG (List.mem_append_right _ (List.mem_of_getElem? (i := 258) (by decide +kernel))) rfl
theorem nz_w317 : (Jvm.Cond.methodLink "NestFinder" (70 : Nat) ({ cls := "NestFinder$Graph", name := "copyFrom", desc := "(LNestFinder$Graph;)V" } : Jvm.MethodName)) ∈ nz_G := nz_inG (List.mem_append_right _ (List.mem_of_getElem? (i := 259) (by decide +kernel))) rfl
theorem nz_w318 : (Jvm.Cond.instanceMethod ({ cls := "NestFinder$Graph", name := "copyFrom", desc := "(LNestFinder$Graph;)V" } : Jvm.MethodName)) ∈ nz_G := nz_inG (List.mem_append_right _ (List.mem_of_getElem? (i := 260) (by decide +kernel))) rfl
theorem nz_w319 : (Jvm.Cond.selects "NestFinder$Graph" ({ cls := "NestFinder$Graph", name := "copyFrom", desc := "(LNestFinder$Graph;)V" } : Jvm.MethodName) ({ cls := "NestFinder$Graph", name := "copyFrom", desc := "(LNestFinder$Graph;)V" } : Jvm.MethodName)) ∈ nz_G := nz_inG (List.mem_append_right _ (List.mem_of_getElem? (i := 261) (by decide +kernel))) rfl
theorem nz_w320 : (Jvm.Cond.code ({ cls := "NestFinder$Graph", name := "copyFrom", desc := "(LNestFinder$Graph;)V" } : Jvm.MethodName) prog_2_method_2_code (2 : Nat) (Option.none : Option Jvm.ClassFile.FieldType)) ∈ nz_G := nz_inG (List.mem_append_right _ (List.mem_of_getElem? (i := 262) (by decide +kernel))) rfl
theorem nz_w321 : (Jvm.Cond.methodLink "NestFinder$Graph" (25 : Nat) ({ cls := "java/lang/System", name := "arraycopy", desc := "(Ljava/lang/Object;ILjava/lang/Object;II)V" } : Jvm.MethodName)) ∈ nz_G := nz_inG (List.mem_append_right _ (List.mem_of_getElem? (i := 263) (by decide +kernel))) rfl
theorem nz_w322 : (Jvm.Cond.static ({ cls := "java/lang/System", name := "arraycopy", desc := "(Ljava/lang/Object;ILjava/lang/Object;II)V" } : Jvm.MethodName)) ∈ nz_G := nz_inG (List.mem_append_right _ (List.mem_of_getElem? (i := 264) (by decide +kernel))) rfl
theorem nz_w323 : (Jvm.Cond.native ({ cls := "java/lang/System", name := "arraycopy", desc := "(Ljava/lang/Object;ILjava/lang/Object;II)V" } : Jvm.MethodName)) ∈ nz_G := nz_inG (List.mem_append_right _ (List.mem_of_getElem? (i := 265) (by decide +kernel))) rfl
theorem nz_w324 : (Jvm.Cond.methodLink "NestFinder" (74 : Nat) ({ cls := "NestFinder$History", name := "forget", desc := "()V" } : Jvm.MethodName)) ∈ nz_G := nz_inG (List.mem_append_right _ (List.mem_of_getElem? (i := 266) (by decide +kernel))) rfl
theorem nz_w325 : (Jvm.Cond.instanceMethod ({ cls := "NestFinder$History", name := "forget", desc := "()V" } : Jvm.MethodName)) ∈ nz_G := nz_inG (List.mem_append_right _ (List.mem_of_getElem? (i := 267) (by decide +kernel))) rfl
theorem nz_w326 : (Jvm.Cond.selects "NestFinder$History" ({ cls := "NestFinder$History", name := "forget", desc := "()V" } : Jvm.MethodName) ({ cls := "NestFinder$History", name := "forget", desc := "()V" } : Jvm.MethodName)) ∈ nz_G := nz_inG (List.mem_append_right _ (List.mem_of_getElem? (i := 268) (by decide +kernel))) rfl
theorem nz_w327 : (Jvm.Cond.code ({ cls := "NestFinder$History", name := "forget", desc := "()V" } : Jvm.MethodName) prog_3_method_2_code (1 : Nat) (Option.none : Option Jvm.ClassFile.FieldType)) ∈ nz_G := nz_inG (List.mem_append_right _ (List.mem_of_getElem? (i := 269) (by decide +kernel))) rfl
theorem nz_w328 : (Jvm.Cond.methodLink "NestFinder" (77 : Nat) ({ cls := "NestFinder$Slots", name := "forget", desc := "()V" } : Jvm.MethodName)) ∈ nz_G := nz_inG (List.mem_append_right _ (List.mem_of_getElem? (i := 270) (by decide +kernel))) rfl
theorem nz_w329 : (Jvm.Cond.instanceMethod ({ cls := "NestFinder$Slots", name := "forget", desc := "()V" } : Jvm.MethodName)) ∈ nz_G := nz_inG (List.mem_append_right _ (List.mem_of_getElem? (i := 271) (by decide +kernel))) rfl
theorem nz_w330 : (Jvm.Cond.selects "NestFinder$Slots" ({ cls := "NestFinder$Slots", name := "forget", desc := "()V" } : Jvm.MethodName) ({ cls := "NestFinder$Slots", name := "forget", desc := "()V" } : Jvm.MethodName)) ∈ nz_G := nz_inG (List.mem_append_right _ (List.mem_of_getElem? (i := 272) (by decide +kernel))) rfl
theorem nz_w331 : (Jvm.Cond.code ({ cls := "NestFinder$Slots", name := "forget", desc := "()V" } : Jvm.MethodName) prog_6_method_2_code (2 : Nat) (Option.none : Option Jvm.ClassFile.FieldType)) ∈ nz_G := nz_inG (List.mem_append_right _ (List.mem_of_getElem? (i := 273) (by decide +kernel))) rfl
theorem nz_w332 : (Jvm.Cond.methodLink "NestFinderLaw" (31 : Nat) ({ cls := "NestFinder", name := "about", desc := "(I)I" } : Jvm.MethodName)) ∈ nz_G := nz_inG (List.mem_append_right _ (List.mem_of_getElem? (i := 274) (by decide +kernel))) rfl
theorem nz_w333 : (Jvm.Cond.instanceMethod ({ cls := "NestFinder", name := "about", desc := "(I)I" } : Jvm.MethodName)) ∈ nz_G := nz_inG (List.mem_append_right _ (List.mem_of_getElem? (i := 275) (by decide +kernel))) rfl
theorem nz_w334 : (Jvm.Cond.selects "NestFinder" ({ cls := "NestFinder", name := "about", desc := "(I)I" } : Jvm.MethodName) ({ cls := "NestFinder", name := "about", desc := "(I)I" } : Jvm.MethodName)) ∈ nz_G := nz_inG (List.mem_append_right _ (List.mem_of_getElem? (i := 276) (by decide +kernel))) rfl
theorem nz_w335 : (Jvm.Cond.code ({ cls := "NestFinder", name := "about", desc := "(I)I" } : Jvm.MethodName) prog_1_method_6_code (2 : Nat) (Option.some Jvm.ClassFile.FieldType.int)) ∈ nz_G := nz_inG (List.mem_append_right _ (List.mem_of_getElem? (i := 277) (by decide +kernel))) rfl
theorem nz_w336 : (Jvm.Cond.methodLink "NestFinder" (82 : Nat) ({ cls := "NestFinder$Graph", name := "countArcs", desc := "()I" } : Jvm.MethodName)) ∈ nz_G := nz_inG (List.mem_append_right _ (List.mem_of_getElem? (i := 278) (by decide +kernel))) rfl
theorem nz_w337 : (Jvm.Cond.instanceMethod ({ cls := "NestFinder$Graph", name := "countArcs", desc := "()I" } : Jvm.MethodName)) ∈ nz_G := nz_inG (List.mem_append_right _ (List.mem_of_getElem? (i := 279) (by decide +kernel))) rfl
theorem nz_w338 : (Jvm.Cond.selects "NestFinder$Graph" ({ cls := "NestFinder$Graph", name := "countArcs", desc := "()I" } : Jvm.MethodName) ({ cls := "NestFinder$Graph", name := "countArcs", desc := "()I" } : Jvm.MethodName)) ∈ nz_G := nz_inG (List.mem_append_right _ (List.mem_of_getElem? (i := 280) (by decide +kernel))) rfl
theorem nz_w339 : (Jvm.Cond.code ({ cls := "NestFinder$Graph", name := "countArcs", desc := "()I" } : Jvm.MethodName) prog_2_method_6_code (3 : Nat) (Option.some Jvm.ClassFile.FieldType.int)) ∈ nz_G := nz_inG (List.mem_append_right _ (List.mem_of_getElem? (i := 281) (by decide +kernel))) rfl
theorem nz_w340 : (Jvm.Cond.methodLink "NestFinder" (92 : Nat) ({ cls := "NestFinder", name := "aboutLoops", desc := "(I)I" } : Jvm.MethodName)) ∈ nz_G := nz_inG (List.mem_append_right _ (List.mem_of_getElem? (i := 282) (by decide +kernel))) rfl
theorem nz_w342 : (Jvm.Cond.instanceMethod ({ cls := "NestFinder", name := "aboutLoops", desc := "(I)I" } : Jvm.MethodName)) ∈ nz_G := nz_inG (List.mem_append_right _ (List.mem_of_getElem? (i := 284) (by decide +kernel))) rfl
theorem nz_w343 : (Jvm.Cond.code ({ cls := "NestFinder", name := "aboutLoops", desc := "(I)I" } : Jvm.MethodName) prog_1_method_7_code (2 : Nat) (Option.some Jvm.ClassFile.FieldType.int)) ∈ nz_G := nz_inG (List.mem_append_right _ (List.mem_of_getElem? (i := 285) (by decide +kernel))) rfl
theorem nz_w344 : (Jvm.Cond.methodLink "NestFinder" (95 : Nat) ({ cls := "NestFinder$Survey", name := "read", desc := "(LNestFinder$Graph;)V" } : Jvm.MethodName)) ∈ nz_G := nz_inG (List.mem_append_right _ (List.mem_of_getElem? (i := 286) (by decide +kernel))) rfl
theorem nz_w345 : (Jvm.Cond.instanceMethod ({ cls := "NestFinder$Survey", name := "read", desc := "(LNestFinder$Graph;)V" } : Jvm.MethodName)) ∈ nz_G := nz_inG (List.mem_append_right _ (List.mem_of_getElem? (i := 287) (by decide +kernel))) rfl
theorem nz_w346 : (Jvm.Cond.selects "NestFinder$Survey" ({ cls := "NestFinder$Survey", name := "read", desc := "(LNestFinder$Graph;)V" } : Jvm.MethodName) ({ cls := "NestFinder$Survey", name := "read", desc := "(LNestFinder$Graph;)V" } : Jvm.MethodName)) ∈ nz_G := nz_inG (List.mem_append_right _ (List.mem_of_getElem? (i := 288) (by decide +kernel))) rfl
theorem nz_w347 : (Jvm.Cond.code ({ cls := "NestFinder$Survey", name := "read", desc := "(LNestFinder$Graph;)V" } : Jvm.MethodName) prog_7_method_2_code (3 : Nat) (Option.none : Option Jvm.ClassFile.FieldType)) ∈ nz_G := nz_inG (List.mem_append_right _ (List.mem_of_getElem? (i := 289) (by decide +kernel))) rfl
theorem nz_w348 : (Jvm.Cond.methodLink "NestFinder$Survey" (46 : Nat) ({ cls := "NestFinder$Survey", name := "clear", desc := "()V" } : Jvm.MethodName)) ∈ nz_G := nz_inG (List.mem_append_right _ (List.mem_of_getElem? (i := 290) (by decide +kernel))) rfl
theorem nz_w350 : (Jvm.Cond.instanceMethod ({ cls := "NestFinder$Survey", name := "clear", desc := "()V" } : Jvm.MethodName)) ∈ nz_G := nz_inG (List.mem_append_right _ (List.mem_of_getElem? (i := 292) (by decide +kernel))) rfl
theorem nz_w351 : (Jvm.Cond.code ({ cls := "NestFinder$Survey", name := "clear", desc := "()V" } : Jvm.MethodName) prog_7_method_3_code (1 : Nat) (Option.none : Option Jvm.ClassFile.FieldType)) ∈ nz_G := nz_inG (List.mem_append_right _ (List.mem_of_getElem? (i := 293) (by decide +kernel))) rfl
theorem nz_w352 : (Jvm.Cond.methodLink "NestFinder$Survey" (66 : Nat) ({ cls := "java/util/Arrays", name := "fill", desc := "([II)V" } : Jvm.MethodName)) ∈ nz_G := nz_inG (List.mem_append_right _ (List.mem_of_getElem? (i := 294) (by decide +kernel))) rfl
theorem nz_w353 : (Jvm.Cond.static ({ cls := "java/util/Arrays", name := "fill", desc := "([II)V" } : Jvm.MethodName)) ∈ nz_G := nz_inG (List.mem_append_right _ (List.mem_of_getElem? (i := 295) (by decide +kernel))) rfl
theorem nz_w354 : (Jvm.Cond.code ({ cls := "java/util/Arrays", name := "fill", desc := "([II)V" } : Jvm.MethodName) prog_14_method_103_code (4 : Nat) (Option.none : Option Jvm.ClassFile.FieldType)) ∈ nz_G := nz_inG (List.mem_append_right _ (List.mem_of_getElem? (i := 296) (by decide +kernel))) rfl
theorem nz_w355 : (Jvm.Cond.methodLink "NestFinder$Survey" (54 : Nat) ({ cls := "NestFinder$Survey", name := "visit", desc := "(LNestFinder$Graph;II)I" } : Jvm.MethodName)) ∈ nz_G := nz_inG (List.mem_append_right _ (List.mem_of_getElem? (i := 297) (by decide +kernel))) rfl
theorem nz_w357 : (Jvm.Cond.instanceMethod ({ cls := "NestFinder$Survey", name := "visit", desc := "(LNestFinder$Graph;II)I" } : Jvm.MethodName)) ∈ nz_G := nz_inG (List.mem_append_right _ (List.mem_of_getElem? (i := 299) (by decide +kernel))) rfl
theorem nz_w358 : (Jvm.Cond.code ({ cls := "NestFinder$Survey", name := "visit", desc := "(LNestFinder$Graph;II)I" } : Jvm.MethodName) prog_7_method_4_code (7 : Nat) (Option.some Jvm.ClassFile.FieldType.int)) ∈ nz_G := nz_inG (List.mem_append_right _ (List.mem_of_getElem? (i := 300) (by decide +kernel))) rfl
theorem nz_w359 : (Jvm.Cond.methodLink "NestFinder$Survey" (75 : Nat) ({ cls := "NestFinder$Graph", name := "target", desc := "(II)I" } : Jvm.MethodName)) ∈ nz_G := nz_inG (List.mem_append_right _ (List.mem_of_getElem? (i := 301) (by decide +kernel))) rfl
theorem nz_w360 : (Jvm.Cond.instanceMethod ({ cls := "NestFinder$Graph", name := "target", desc := "(II)I" } : Jvm.MethodName)) ∈ nz_G := nz_inG (List.mem_append_right _ (List.mem_of_getElem? (i := 302) (by decide +kernel))) rfl
theorem nz_w361 : (Jvm.Cond.selects "NestFinder$Graph" ({ cls := "NestFinder$Graph", name := "target", desc := "(II)I" } : Jvm.MethodName) ({ cls := "NestFinder$Graph", name := "target", desc := "(II)I" } : Jvm.MethodName)) ∈ nz_G := nz_inG (List.mem_append_right _ (List.mem_of_getElem? (i := 303) (by decide +kernel))) rfl
theorem nz_w362 : (Jvm.Cond.code ({ cls := "NestFinder$Graph", name := "target", desc := "(II)I" } : Jvm.MethodName) prog_2_method_5_code (3 : Nat) (Option.some Jvm.ClassFile.FieldType.int)) ∈ nz_G := nz_inG (List.mem_append_right _ (List.mem_of_getElem? (i := 304) (by decide +kernel))) rfl
theorem nz_w363 : (Jvm.Cond.methodLink "NestFinder$Survey" (79 : Nat) ({ cls := "NestFinder$Survey", name := "hasOrder", desc := "(I)Z" } : Jvm.MethodName)) ∈ nz_G := nz_inG (List.mem_append_right _ (List.mem_of_getElem? (i := 305) (by decide +kernel))) rfl
theorem nz_w364 : (Jvm.Cond.instanceMethod ({ cls := "NestFinder$Survey", name := "hasOrder", desc := "(I)Z" } : Jvm.MethodName)) ∈ nz_G := nz_inG (List.mem_append_right _ (List.mem_of_getElem? (i := 306) (by decide +kernel))) rfl
theorem nz_w365 : (Jvm.Cond.selects "NestFinder$Survey" ({ cls := "NestFinder$Survey", name := "hasOrder", desc := "(I)Z" } : Jvm.MethodName) ({ cls := "NestFinder$Survey", name := "hasOrder", desc := "(I)Z" } : Jvm.MethodName)) ∈ nz_G := nz_inG (List.mem_append_right _ (List.mem_of_getElem? (i := 307) (by decide +kernel))) rfl
end
section
theorem nz_w366 : (Jvm.Cond.code ({ cls := "NestFinder$Survey", name := "hasOrder", desc := "(I)Z" } : Jvm.MethodName) prog_7_method_9_code (2 : Nat) (Option.some Jvm.ClassFile.FieldType.boolean)) ∈ nz_G := nz_inG (List.mem_append_right _ (List.mem_of_getElem? (i := 308) (by decide +kernel))) rfl
theorem nz_w367 : (Jvm.Cond.methodLink "NestFinder$Survey" (58 : Nat) ({ cls := "NestFinder$Survey", name := "sortArcs", desc := "(LNestFinder$Graph;I)V" } : Jvm.MethodName)) ∈ nz_G := nz_inG (List.mem_append_right _ (List.mem_of_getElem? (i := 309) (by decide +kernel))) rfl
theorem nz_w369 : (Jvm.Cond.instanceMethod ({ cls := "NestFinder$Survey", name := "sortArcs", desc := "(LNestFinder$Graph;I)V" } : Jvm.MethodName)) ∈ nz_G := nz_inG (List.mem_append_right _ (List.mem_of_getElem? (i := 311) (by decide +kernel))) rfl
theorem nz_w370 : (Jvm.Cond.code ({ cls := "NestFinder$Survey", name := "sortArcs", desc := "(LNestFinder$Graph;I)V" } : Jvm.MethodName) prog_7_method_5_code (5 : Nat) (Option.none : Option Jvm.ClassFile.FieldType)) ∈ nz_G := nz_inG (List.mem_append_right _ (List.mem_of_getElem? (i := 312) (by decide +kernel))) rfl
theorem nz_w371 : (Jvm.Cond.methodLink "NestFinder$Survey" (62 : Nat) ({ cls := "NestFinder$Survey", name := "gather", desc := "(I)V" } : Jvm.MethodName)) ∈ nz_G := nz_inG (List.mem_append_right _ (List.mem_of_getElem? (i := 313) (by decide +kernel))) rfl
theorem nz_w373 : (Jvm.Cond.instanceMethod ({ cls := "NestFinder$Survey", name := "gather", desc := "(I)V" } : Jvm.MethodName)) ∈ nz_G := nz_inG (List.mem_append_right _ (List.mem_of_getElem? (i := 315) (by decide +kernel))) rfl
theorem nz_w374 : (Jvm.Cond.code ({ cls := "NestFinder$Survey", name := "gather", desc := "(I)V" } : Jvm.MethodName) prog_7_method_6_code (8 : Nat) (Option.none : Option Jvm.ClassFile.FieldType)) ∈ nz_G := nz_inG (List.mem_append_right _ (List.mem_of_getElem? (i := 316) (by decide +kernel))) rfl
theorem nz_w375 : (Jvm.Cond.methodLink "NestFinder$Survey" (83 : Nat) ({ cls := "NestFinder$Survey", name := "leadersOf", desc := "(I)I" } : Jvm.MethodName)) ∈ nz_G := nz_inG (List.mem_append_right _ (List.mem_of_getElem? (i := 317) (by decide +kernel))) rfl
theorem nz_w377 : (Jvm.Cond.instanceMethod ({ cls := "NestFinder$Survey", name := "leadersOf", desc := "(I)I" } : Jvm.MethodName)) ∈ nz_G := nz_inG (List.mem_append_right _ (List.mem_of_getElem? (i := 319) (by decide +kernel))) rfl
theorem nz_w378 : (Jvm.Cond.code ({ cls := "NestFinder$Survey", name := "leadersOf", desc := "(I)I" } : Jvm.MethodName) prog_7_method_7_code (4 : Nat) (Option.some Jvm.ClassFile.FieldType.int)) ∈ nz_G := nz_inG (List.mem_append_right _ (List.mem_of_getElem? (i := 320) (by decide +kernel))) rfl
theorem nz_w379 : (Jvm.Cond.methodLink "NestFinder$Survey" (92 : Nat) ({ cls := "NestFinder$Survey", name := "leaderOf", desc := "(I)I" } : Jvm.MethodName)) ∈ nz_G := nz_inG (List.mem_append_right _ (List.mem_of_getElem? (i := 321) (by decide +kernel))) rfl
theorem nz_w381 : (Jvm.Cond.instanceMethod ({ cls := "NestFinder$Survey", name := "leaderOf", desc := "(I)I" } : Jvm.MethodName)) ∈ nz_G := nz_inG (List.mem_append_right _ (List.mem_of_getElem? (i := 323) (by decide +kernel))) rfl
theorem nz_w382 : (Jvm.Cond.code ({ cls := "NestFinder$Survey", name := "leaderOf", desc := "(I)I" } : Jvm.MethodName) prog_7_method_8_code (4 : Nat) (Option.some Jvm.ClassFile.FieldType.int)) ∈ nz_G := nz_inG (List.mem_append_right _ (List.mem_of_getElem? (i := 324) (by decide +kernel))) rfl
theorem nz_w383 : (Jvm.Cond.methodLink "NestFinder$Survey" (87 : Nat) ({ cls := "java/lang/Integer", name := "numberOfTrailingZeros", desc := "(I)I" } : Jvm.MethodName)) ∈ nz_G := nz_inG (List.mem_append_right _ (List.mem_of_getElem? (i := 325) (by decide +kernel))) rfl
theorem nz_w384 : (Jvm.Cond.static ({ cls := "java/lang/Integer", name := "numberOfTrailingZeros", desc := "(I)I" } : Jvm.MethodName)) ∈ nz_G := nz_inG (List.mem_append_right _ (List.mem_of_getElem? (i := 326) (by decide +kernel))) rfl
theorem nz_w385 : (Jvm.Cond.code ({ cls := "java/lang/Integer", name := "numberOfTrailingZeros", desc := "(I)I" } : Jvm.MethodName) prog_11_method_48_code (2 : Nat) (Option.some Jvm.ClassFile.FieldType.int)) ∈ nz_G := nz_inG (List.mem_append_right _ (List.mem_of_getElem? (i := 327) (by decide +kernel))) rfl
theorem nz_w386 : (Jvm.Cond.constant "java/lang/Integer" (264 : Nat) (65536 : Int32)) ∈ nz_G := nz_inG (List.mem_append_right _ (List.mem_of_getElem? (i := 328) (by decide +kernel))) rfl
theorem nz_w387 : (Jvm.Cond.methodLink "NestFinder" (101 : Nat) ({ cls := "NestFinder$Survey", name := "countLoops", desc := "()I" } : Jvm.MethodName)) ∈ nz_G := nz_inG (List.mem_append_right _ (List.mem_of_getElem? (i := 329) (by decide +kernel))) rfl
theorem nz_w388 : (Jvm.Cond.instanceMethod ({ cls := "NestFinder$Survey", name := "countLoops", desc := "()I" } : Jvm.MethodName)) ∈ nz_G := nz_inG (List.mem_append_right _ (List.mem_of_getElem? (i := 330) (by decide +kernel))) rfl
theorem nz_w389 : (Jvm.Cond.selects "NestFinder$Survey" ({ cls := "NestFinder$Survey", name := "countLoops", desc := "()I" } : Jvm.MethodName) ({ cls := "NestFinder$Survey", name := "countLoops", desc := "()I" } : Jvm.MethodName)) ∈ nz_G := nz_inG (List.mem_append_right _ (List.mem_of_getElem? (i := 331) (by decide +kernel))) rfl
theorem nz_w390 : (Jvm.Cond.code ({ cls := "NestFinder$Survey", name := "countLoops", desc := "()I" } : Jvm.MethodName) prog_7_method_10_code (3 : Nat) (Option.some Jvm.ClassFile.FieldType.int)) ∈ nz_G := nz_inG (List.mem_append_right _ (List.mem_of_getElem? (i := 332) (by decide +kernel))) rfl
theorem nz_w391 : (Jvm.Cond.methodLink "NestFinder" (104 : Nat) ({ cls := "NestFinder$Survey", name := "countManyEntered", desc := "()I" } : Jvm.MethodName)) ∈ nz_G := nz_inG (List.mem_append_right _ (List.mem_of_getElem? (i := 333) (by decide +kernel))) rfl
theorem nz_w392 : (Jvm.Cond.instanceMethod ({ cls := "NestFinder$Survey", name := "countManyEntered", desc := "()I" } : Jvm.MethodName)) ∈ nz_G := nz_inG (List.mem_append_right _ (List.mem_of_getElem? (i := 334) (by decide +kernel))) rfl
theorem nz_w393 : (Jvm.Cond.selects "NestFinder$Survey" ({ cls := "NestFinder$Survey", name := "countManyEntered", desc := "()I" } : Jvm.MethodName) ({ cls := "NestFinder$Survey", name := "countManyEntered", desc := "()I" } : Jvm.MethodName)) ∈ nz_G := nz_inG (List.mem_append_right _ (List.mem_of_getElem? (i := 335) (by decide +kernel))) rfl
theorem nz_w394 : (Jvm.Cond.code ({ cls := "NestFinder$Survey", name := "countManyEntered", desc := "()I" } : Jvm.MethodName) prog_7_method_11_code (3 : Nat) (Option.some Jvm.ClassFile.FieldType.int)) ∈ nz_G := nz_inG (List.mem_append_right _ (List.mem_of_getElem? (i := 336) (by decide +kernel))) rfl
theorem nz_w395 : (Jvm.Cond.methodLink "NestFinder" (107 : Nat) ({ cls := "NestFinder$Survey", name := "greatestDepth", desc := "()I" } : Jvm.MethodName)) ∈ nz_G := nz_inG (List.mem_append_right _ (List.mem_of_getElem? (i := 337) (by decide +kernel))) rfl
theorem nz_w396 : (Jvm.Cond.instanceMethod ({ cls := "NestFinder$Survey", name := "greatestDepth", desc := "()I" } : Jvm.MethodName)) ∈ nz_G := nz_inG (List.mem_append_right _ (List.mem_of_getElem? (i := 338) (by decide +kernel))) rfl
theorem nz_w397 : (Jvm.Cond.selects "NestFinder$Survey" ({ cls := "NestFinder$Survey", name := "greatestDepth", desc := "()I" } : Jvm.MethodName) ({ cls := "NestFinder$Survey", name := "greatestDepth", desc := "()I" } : Jvm.MethodName)) ∈ nz_G := nz_inG (List.mem_append_right _ (List.mem_of_getElem? (i := 339) (by decide +kernel))) rfl
theorem nz_w398 : (Jvm.Cond.code ({ cls := "NestFinder$Survey", name := "greatestDepth", desc := "()I" } : Jvm.MethodName) prog_7_method_14_code (3 : Nat) (Option.some Jvm.ClassFile.FieldType.int)) ∈ nz_G := nz_inG (List.mem_append_right _ (List.mem_of_getElem? (i := 340) (by decide +kernel))) rfl
theorem nz_w399 : (Jvm.Cond.methodLink "NestFinder$Survey" (95 : Nat) ({ cls := "NestFinder$Survey", name := "depthOf", desc := "(I)I" } : Jvm.MethodName)) ∈ nz_G := nz_inG (List.mem_append_right _ (List.mem_of_getElem? (i := 341) (by decide +kernel))) rfl
theorem nz_w400 : (Jvm.Cond.instanceMethod ({ cls := "NestFinder$Survey", name := "depthOf", desc := "(I)I" } : Jvm.MethodName)) ∈ nz_G := nz_inG (List.mem_append_right _ (List.mem_of_getElem? (i := 342) (by decide +kernel))) rfl
theorem nz_w401 : (Jvm.Cond.selects "NestFinder$Survey" ({ cls := "NestFinder$Survey", name := "depthOf", desc := "(I)I" } : Jvm.MethodName) ({ cls := "NestFinder$Survey", name := "depthOf", desc := "(I)I" } : Jvm.MethodName)) ∈ nz_G := nz_inG (List.mem_append_right _ (List.mem_of_getElem? (i := 343) (by decide +kernel))) rfl
theorem nz_w402 : (Jvm.Cond.code ({ cls := "NestFinder$Survey", name := "depthOf", desc := "(I)I" } : Jvm.MethodName) prog_7_method_13_code (5 : Nat) (Option.some Jvm.ClassFile.FieldType.int)) ∈ nz_G := nz_inG (List.mem_append_right _ (List.mem_of_getElem? (i := 344) (by decide +kernel))) rfl
theorem nz_w403 : (Jvm.Cond.methodLink "NestFinder$Survey" (98 : Nat) ({ cls := "java/lang/Math", name := "max", desc := "(II)I" } : Jvm.MethodName)) ∈ nz_G := nz_inG (List.mem_append_right _ (List.mem_of_getElem? (i := 345) (by decide +kernel))) rfl
theorem nz_w404 : (Jvm.Cond.methodLink "NestFinder" (110 : Nat) ({ cls := "NestFinder$Survey", name := "isTame", desc := "()Z" } : Jvm.MethodName)) ∈ nz_G := nz_inG (List.mem_append_right _ (List.mem_of_getElem? (i := 346) (by decide +kernel))) rfl
theorem nz_w405 : (Jvm.Cond.instanceMethod ({ cls := "NestFinder$Survey", name := "isTame", desc := "()Z" } : Jvm.MethodName)) ∈ nz_G := nz_inG (List.mem_append_right _ (List.mem_of_getElem? (i := 347) (by decide +kernel))) rfl
theorem nz_w406 : (Jvm.Cond.selects "NestFinder$Survey" ({ cls := "NestFinder$Survey", name := "isTame", desc := "()Z" } : Jvm.MethodName) ({ cls := "NestFinder$Survey", name := "isTame", desc := "()Z" } : Jvm.MethodName)) ∈ nz_G := nz_inG (List.mem_append_right _ (List.mem_of_getElem? (i := 348) (by decide +kernel))) rfl
theorem nz_w407 : (Jvm.Cond.code ({ cls := "NestFinder$Survey", name := "isTame", desc := "()Z" } : Jvm.MethodName) prog_7_method_16_code (3 : Nat) (Option.some Jvm.ClassFile.FieldType.boolean)) ∈ nz_G := nz_inG (List.mem_append_right _ (List.mem_of_getElem? (i := 349) (by decide +kernel))) rfl
theorem nz_w408 : (Jvm.Cond.methodLink "NestFinder$Survey" (103 : Nat) ({ cls := "NestFinder$Survey", name := "passedBy", desc := "(I)I" } : Jvm.MethodName)) ∈ nz_G := nz_inG (List.mem_append_right _ (List.mem_of_getElem? (i := 350) (by decide +kernel))) rfl
theorem nz_w409 : (Jvm.Cond.instanceMethod ({ cls := "NestFinder$Survey", name := "passedBy", desc := "(I)I" } : Jvm.MethodName)) ∈ nz_G := nz_inG (List.mem_append_right _ (List.mem_of_getElem? (i := 351) (by decide +kernel))) rfl
theorem nz_w410 : (Jvm.Cond.selects "NestFinder$Survey" ({ cls := "NestFinder$Survey", name := "passedBy", desc := "(I)I" } : Jvm.MethodName) ({ cls := "NestFinder$Survey", name := "passedBy", desc := "(I)I" } : Jvm.MethodName)) ∈ nz_G := nz_inG (List.mem_append_right _ (List.mem_of_getElem? (i := 352) (by decide +kernel))) rfl
theorem nz_w411 : (Jvm.Cond.code ({ cls := "NestFinder$Survey", name := "passedBy", desc := "(I)I" } : Jvm.MethodName) prog_7_method_17_code (2 : Nat) (Option.some Jvm.ClassFile.FieldType.int)) ∈ nz_G := nz_inG (List.mem_append_right _ (List.mem_of_getElem? (i := 353) (by decide +kernel))) rfl
theorem nz_w412 : (Jvm.Cond.methodLink "NestFinder$Survey" (106 : Nat) ({ cls := "NestFinder$Survey", name := "reachedWithout", desc := "(I)I" } : Jvm.MethodName)) ∈ nz_G := nz_inG (List.mem_append_right _ (List.mem_of_getElem? (i := 354) (by decide +kernel))) rfl
theorem nz_w414 : (Jvm.Cond.instanceMethod ({ cls := "NestFinder$Survey", name := "reachedWithout", desc := "(I)I" } : Jvm.MethodName)) ∈ nz_G := nz_inG (List.mem_append_right _ (List.mem_of_getElem? (i := 356) (by decide +kernel))) rfl
theorem nz_w415 : (Jvm.Cond.code ({ cls := "NestFinder$Survey", name := "reachedWithout", desc := "(I)I" } : Jvm.MethodName) prog_7_method_18_code (7 : Nat) (Option.some Jvm.ClassFile.FieldType.int)) ∈ nz_G := nz_inG (List.mem_append_right _ (List.mem_of_getElem? (i := 357) (by decide +kernel))) rfl
theorem nz_w416 : (Jvm.Cond.methodLink "NestFinderLaw" (35 : Nat) ({ cls := "NestFinder", name := "block", desc := "(II)I" } : Jvm.MethodName)) ∈ nz_G := nz_inG (List.mem_append_right _ (List.mem_of_getElem? (i := 358) (by decide +kernel))) rfl
theorem nz_w417 : (Jvm.Cond.instanceMethod ({ cls := "NestFinder", name := "block", desc := "(II)I" } : Jvm.MethodName)) ∈ nz_G := nz_inG (List.mem_append_right _ (List.mem_of_getElem? (i := 359) (by decide +kernel))) rfl
theorem nz_w418 : (Jvm.Cond.selects "NestFinder" ({ cls := "NestFinder", name := "block", desc := "(II)I" } : Jvm.MethodName) ({ cls := "NestFinder", name := "block", desc := "(II)I" } : Jvm.MethodName)) ∈ nz_G := nz_inG (List.mem_append_right _ (List.mem_of_getElem? (i := 360) (by decide +kernel))) rfl
theorem nz_w419 : (Jvm.Cond.code ({ cls := "NestFinder", name := "block", desc := "(II)I" } : Jvm.MethodName) prog_1_method_8_code (3 : Nat) (Option.some Jvm.ClassFile.FieldType.int)) ∈ nz_G := nz_inG (List.mem_append_right _ (List.mem_of_getElem? (i := 361) (by decide +kernel))) rfl
theorem nz_w420 : (Jvm.Cond.methodLink "NestFinder" (117 : Nat) ({ cls := "NestFinder$Graph", name := "hasBlock", desc := "(I)Z" } : Jvm.MethodName)) ∈ nz_G := nz_inG (List.mem_append_right _ (List.mem_of_getElem? (i := 362) (by decide +kernel))) rfl
theorem nz_w421 : (Jvm.Cond.instanceMethod ({ cls := "NestFinder$Graph", name := "hasBlock", desc := "(I)Z" } : Jvm.MethodName)) ∈ nz_G := nz_inG (List.mem_append_right _ (List.mem_of_getElem? (i := 363) (by decide +kernel))) rfl
theorem nz_w422 : (Jvm.Cond.selects "NestFinder$Graph" ({ cls := "NestFinder$Graph", name := "hasBlock", desc := "(I)Z" } : Jvm.MethodName) ({ cls := "NestFinder$Graph", name := "hasBlock", desc := "(I)Z" } : Jvm.MethodName)) ∈ nz_G := nz_inG (List.mem_append_right _ (List.mem_of_getElem? (i := 364) (by decide +kernel))) rfl
theorem nz_w423 : (Jvm.Cond.code ({ cls := "NestFinder$Graph", name := "hasBlock", desc := "(I)Z" } : Jvm.MethodName) prog_2_method_3_code (2 : Nat) (Option.some Jvm.ClassFile.FieldType.boolean)) ∈ nz_G := nz_inG (List.mem_append_right _ (List.mem_of_getElem? (i := 365) (by decide +kernel))) rfl
theorem nz_w424 : (Jvm.Cond.methodLink "NestFinder" (137 : Nat) ({ cls := "NestFinder$Survey", name := "depthOf", desc := "(I)I" } : Jvm.MethodName)) ∈ nz_G := nz_inG (List.mem_append_right _ (List.mem_of_getElem? (i := 366) (by decide +kernel))) rfl
theorem nz_w425 : (Jvm.Cond.methodLink "NestFinderLaw" (40 : Nat) ({ cls := "NestFinder", name := "arc", desc := "(II)I" } : Jvm.MethodName)) ∈ nz_G := nz_inG (List.mem_append_right _ (List.mem_of_getElem? (i := 367) (by decide +kernel))) rfl
theorem nz_w426 : (Jvm.Cond.instanceMethod ({ cls := "NestFinder", name := "arc", desc := "(II)I" } : Jvm.MethodName)) ∈ nz_G := nz_inG (List.mem_append_right _ (List.mem_of_getElem? (i := 368) (by decide +kernel))) rfl
theorem nz_w427 : (Jvm.Cond.selects "NestFinder" ({ cls := "NestFinder", name := "arc", desc := "(II)I" } : Jvm.MethodName) ({ cls := "NestFinder", name := "arc", desc := "(II)I" } : Jvm.MethodName)) ∈ nz_G := nz_inG (List.mem_append_right _ (List.mem_of_getElem? (i := 369) (by decide +kernel))) rfl
theorem nz_w428 : (Jvm.Cond.code ({ cls := "NestFinder", name := "arc", desc := "(II)I" } : Jvm.MethodName) prog_1_method_9_code (3 : Nat) (Option.some Jvm.ClassFile.FieldType.int)) ∈ nz_G := nz_inG (List.mem_append_right _ (List.mem_of_getElem? (i := 370) (by decide +kernel))) rfl
theorem nz_w429 : (Jvm.Cond.methodLink "NestFinder" (140 : Nat) ({ cls := "NestFinder$Graph", name := "hasArc", desc := "(II)Z" } : Jvm.MethodName)) ∈ nz_G := nz_inG (List.mem_append_right _ (List.mem_of_getElem? (i := 371) (by decide +kernel))) rfl
theorem nz_w430 : (Jvm.Cond.instanceMethod ({ cls := "NestFinder$Graph", name := "hasArc", desc := "(II)Z" } : Jvm.MethodName)) ∈ nz_G := nz_inG (List.mem_append_right _ (List.mem_of_getElem? (i := 372) (by decide +kernel))) rfl
theorem nz_w431 : (Jvm.Cond.selects "NestFinder$Graph" ({ cls := "NestFinder$Graph", name := "hasArc", desc := "(II)Z" } : Jvm.MethodName) ({ cls := "NestFinder$Graph", name := "hasArc", desc := "(II)Z" } : Jvm.MethodName)) ∈ nz_G := nz_inG (List.mem_append_right _ (List.mem_of_getElem? (i := 373) (by decide +kernel))) rfl
theorem nz_w432 : (Jvm.Cond.code ({ cls := "NestFinder$Graph", name := "hasArc", desc := "(II)Z" } : Jvm.MethodName) prog_2_method_4_code (3 : Nat) (Option.some Jvm.ClassFile.FieldType.boolean)) ∈ nz_G := nz_inG (List.mem_append_right _ (List.mem_of_getElem? (i := 374) (by decide +kernel))) rfl
theorem nz_w433 : (Jvm.Cond.methodLink "NestFinder$Graph" (31 : Nat) ({ cls := "NestFinder$Graph", name := "hasBlock", desc := "(I)Z" } : Jvm.MethodName)) ∈ nz_G := nz_inG (List.mem_append_right _ (List.mem_of_getElem? (i := 375) (by decide +kernel))) rfl
theorem nz_w434 : (Jvm.Cond.methodLink "NestFinder" (144 : Nat) ({ cls := "NestFinder$Graph", name := "target", desc := "(II)I" } : Jvm.MethodName)) ∈ nz_G := nz_inG (List.mem_append_right _ (List.mem_of_getElem? (i := 376) (by decide +kernel))) rfl
theorem nz_w435 : (Jvm.Cond.methodLink "NestFinderLaw" (44 : Nat) ({ cls := "NestFinder", name := "sets", desc := "(II)I" } : Jvm.MethodName)) ∈ nz_G := nz_inG (List.mem_append_right _ (List.mem_of_getElem? (i := 377) (by decide +kernel))) rfl
theorem nz_w436 : (Jvm.Cond.instanceMethod ({ cls := "NestFinder", name := "sets", desc := "(II)I" } : Jvm.MethodName)) ∈ nz_G := nz_inG (List.mem_append_right _ (List.mem_of_getElem? (i := 378) (by decide +kernel))) rfl
theorem nz_w437 : (Jvm.Cond.selects "NestFinder" ({ cls := "NestFinder", name := "sets", desc := "(II)I" } : Jvm.MethodName) ({ cls := "NestFinder", name := "sets", desc := "(II)I" } : Jvm.MethodName)) ∈ nz_G := nz_inG (List.mem_append_right _ (List.mem_of_getElem? (i := 379) (by decide +kernel))) rfl
theorem nz_w438 : (Jvm.Cond.code ({ cls := "NestFinder", name := "sets", desc := "(II)I" } : Jvm.MethodName) prog_1_method_10_code (3 : Nat) (Option.some Jvm.ClassFile.FieldType.int)) ∈ nz_G := nz_inG (List.mem_append_right _ (List.mem_of_getElem? (i := 380) (by decide +kernel))) rfl
theorem nz_w439 : (Jvm.Cond.methodLink "NestFinder" (148 : Nat) ({ cls := "NestFinder$Survey", name := "hasOrder", desc := "(I)Z" } : Jvm.MethodName)) ∈ nz_G := nz_inG (List.mem_append_right _ (List.mem_of_getElem? (i := 381) (by decide +kernel))) rfl
theorem nz_w440 : (Jvm.Cond.methodLink "NestFinder" (154 : Nat) ({ cls := "NestFinder$Survey", name := "nestOf", desc := "(I)I" } : Jvm.MethodName)) ∈ nz_G := nz_inG (List.mem_append_right _ (List.mem_of_getElem? (i := 382) (by decide +kernel))) rfl
theorem nz_w441 : (Jvm.Cond.instanceMethod ({ cls := "NestFinder$Survey", name := "nestOf", desc := "(I)I" } : Jvm.MethodName)) ∈ nz_G := nz_inG (List.mem_append_right _ (List.mem_of_getElem? (i := 383) (by decide +kernel))) rfl
theorem nz_w442 : (Jvm.Cond.selects "NestFinder$Survey" ({ cls := "NestFinder$Survey", name := "nestOf", desc := "(I)I" } : Jvm.MethodName) ({ cls := "NestFinder$Survey", name := "nestOf", desc := "(I)I" } : Jvm.MethodName)) ∈ nz_G := nz_inG (List.mem_append_right _ (List.mem_of_getElem? (i := 384) (by decide +kernel))) rfl
theorem nz_w443 : (Jvm.Cond.code ({ cls := "NestFinder$Survey", name := "nestOf", desc := "(I)I" } : Jvm.MethodName) prog_7_method_15_code (5 : Nat) (Option.some Jvm.ClassFile.FieldType.int)) ∈ nz_G := nz_inG (List.mem_append_right _ (List.mem_of_getElem? (i := 385) (by decide +kernel))) rfl
theorem nz_w444 : (Jvm.Cond.methodLink "NestFinder" (157 : Nat) ({ cls := "NestFinder$Survey", name := "passedBy", desc := "(I)I" } : Jvm.MethodName)) ∈ nz_G := nz_inG (List.mem_append_right _ (List.mem_of_getElem? (i := 386) (by decide +kernel))) rfl
theorem nz_w445 : (Jvm.Cond.methodLink "NestFinderLaw" (48 : Nat) ({ cls := "NestFinder", name := "add", desc := "(II)I" } : Jvm.MethodName)) ∈ nz_G := nz_inG (List.mem_append_right _ (List.mem_of_getElem? (i := 387) (by decide +kernel))) rfl
theorem nz_w446 : (Jvm.Cond.instanceMethod ({ cls := "NestFinder", name := "add", desc := "(II)I" } : Jvm.MethodName)) ∈ nz_G := nz_inG (List.mem_append_right _ (List.mem_of_getElem? (i := 388) (by decide +kernel))) rfl
theorem nz_w447 : (Jvm.Cond.selects "NestFinder" ({ cls := "NestFinder", name := "add", desc := "(II)I" } : Jvm.MethodName) ({ cls := "NestFinder", name := "add", desc := "(II)I" } : Jvm.MethodName)) ∈ nz_G := nz_inG (List.mem_append_right _ (List.mem_of_getElem? (i := 389) (by decide +kernel))) rfl
theorem nz_w448 : (Jvm.Cond.code ({ cls := "NestFinder", name := "add", desc := "(II)I" } : Jvm.MethodName) prog_1_method_11_code (3 : Nat) (Option.some Jvm.ClassFile.FieldType.int)) ∈ nz_G := nz_inG (List.mem_append_right _ (List.mem_of_getElem? (i := 390) (by decide +kernel))) rfl
theorem nz_w449 : (Jvm.Cond.methodLink "NestFinder" (163 : Nat) ({ cls := "NestFinder$Graph", name := "appendArc", desc := "(II)I" } : Jvm.MethodName)) ∈ nz_G := nz_inG (List.mem_append_right _ (List.mem_of_getElem? (i := 391) (by decide +kernel))) rfl
theorem nz_w450 : (Jvm.Cond.instanceMethod ({ cls := "NestFinder$Graph", name := "appendArc", desc := "(II)I" } : Jvm.MethodName)) ∈ nz_G := nz_inG (List.mem_append_right _ (List.mem_of_getElem? (i := 392) (by decide +kernel))) rfl
theorem nz_w451 : (Jvm.Cond.selects "NestFinder$Graph" ({ cls := "NestFinder$Graph", name := "appendArc", desc := "(II)I" } : Jvm.MethodName) ({ cls := "NestFinder$Graph", name := "appendArc", desc := "(II)I" } : Jvm.MethodName)) ∈ nz_G := nz_inG (List.mem_append_right _ (List.mem_of_getElem? (i := 393) (by decide +kernel))) rfl
theorem nz_w452 : (Jvm.Cond.code ({ cls := "NestFinder$Graph", name := "appendArc", desc := "(II)I" } : Jvm.MethodName) prog_2_method_11_code (3 : Nat) (Option.some Jvm.ClassFile.FieldType.int)) ∈ nz_G := nz_inG (List.mem_append_right _ (List.mem_of_getElem? (i := 394) (by decide +kernel))) rfl
theorem nz_w453 : (Jvm.Cond.methodLink "NestFinder" (166 : Nat) ({ cls := "NestFinder", name := "settle", desc := "(I)I" } : Jvm.MethodName)) ∈ nz_G := nz_inG (List.mem_append_right _ (List.mem_of_getElem? (i := 395) (by decide +kernel))) rfl
theorem nz_w455 : (Jvm.Cond.instanceMethod ({ cls := "NestFinder", name := "settle", desc := "(I)I" } : Jvm.MethodName)) ∈ nz_G := nz_inG (List.mem_append_right _ (List.mem_of_getElem? (i := 397) (by decide +kernel))) rfl
theorem nz_w456 : (Jvm.Cond.code ({ cls := "NestFinder", name := "settle", desc := "(I)I" } : Jvm.MethodName) prog_1_method_16_code (2 : Nat) (Option.some Jvm.ClassFile.FieldType.int)) ∈ nz_G := nz_inG (List.mem_append_right _ (List.mem_of_getElem? (i := 398) (by decide +kernel))) rfl
theorem nz_w457 : (Jvm.Cond.methodLink "NestFinder" (184 : Nat) ({ cls := "NestFinder$History", name := "remember", desc := "(LNestFinder$Graph;)V" } : Jvm.MethodName)) ∈ nz_G := nz_inG (List.mem_append_right _ (List.mem_of_getElem? (i := 399) (by decide +kernel))) rfl
theorem nz_w458 : (Jvm.Cond.instanceMethod ({ cls := "NestFinder$History", name := "remember", desc := "(LNestFinder$Graph;)V" } : Jvm.MethodName)) ∈ nz_G := nz_inG (List.mem_append_right _ (List.mem_of_getElem? (i := 400) (by decide +kernel))) rfl
theorem nz_w459 : (Jvm.Cond.selects "NestFinder$History" ({ cls := "NestFinder$History", name := "remember", desc := "(LNestFinder$Graph;)V" } : Jvm.MethodName) ({ cls := "NestFinder$History", name := "remember", desc := "(LNestFinder$Graph;)V" } : Jvm.MethodName)) ∈ nz_G := nz_inG (List.mem_append_right _ (List.mem_of_getElem? (i := 401) (by decide +kernel))) rfl
theorem nz_w460 : (Jvm.Cond.code ({ cls := "NestFinder$History", name := "remember", desc := "(LNestFinder$Graph;)V" } : Jvm.MethodName) prog_3_method_3_code (2 : Nat) (Option.none : Option Jvm.ClassFile.FieldType)) ∈ nz_G := nz_inG (List.mem_append_right _ (List.mem_of_getElem? (i := 402) (by decide +kernel))) rfl
theorem nz_w461 : (Jvm.Cond.methodLink "NestFinder$History" (27 : Nat) ({ cls := "NestFinder$Shelf", name := "store", desc := "(ILNestFinder$Graph;)V" } : Jvm.MethodName)) ∈ nz_G := nz_inG (List.mem_append_right _ (List.mem_of_getElem? (i := 403) (by decide +kernel))) rfl
theorem nz_w462 : (Jvm.Cond.instanceMethod ({ cls := "NestFinder$Shelf", name := "store", desc := "(ILNestFinder$Graph;)V" } : Jvm.MethodName)) ∈ nz_G := nz_inG (List.mem_append_right _ (List.mem_of_getElem? (i := 404) (by decide +kernel))) rfl
theorem nz_w463 : (Jvm.Cond.selects "NestFinder$Shelf" ({ cls := "NestFinder$Shelf", name := "store", desc := "(ILNestFinder$Graph;)V" } : Jvm.MethodName) ({ cls := "NestFinder$Shelf", name := "store", desc := "(ILNestFinder$Graph;)V" } : Jvm.MethodName)) ∈ nz_G := nz_inG (List.mem_append_right _ (List.mem_of_getElem? (i := 405) (by decide +kernel))) rfl
theorem nz_w464 : (Jvm.Cond.code ({ cls := "NestFinder$Shelf", name := "store", desc := "(ILNestFinder$Graph;)V" } : Jvm.MethodName) prog_4_method_2_code (4 : Nat) (Option.none : Option Jvm.ClassFile.FieldType)) ∈ nz_G := nz_inG (List.mem_append_right _ (List.mem_of_getElem? (i := 406) (by decide +kernel))) rfl
theorem nz_w465 : (Jvm.Cond.methodLink "NestFinder$Shelf" (37 : Nat) ({ cls := "java/lang/System", name := "arraycopy", desc := "(Ljava/lang/Object;ILjava/lang/Object;II)V" } : Jvm.MethodName)) ∈ nz_G := nz_inG (List.mem_append_right _ (List.mem_of_getElem? (i := 407) (by decide +kernel))) rfl
theorem nz_w466 : (Jvm.Cond.methodLink "NestFinderLaw" (52 : Nat) ({ cls := "NestFinder", name := "cut", desc := "(II)I" } : Jvm.MethodName)) ∈ nz_G := nz_inG (List.mem_append_right _ (List.mem_of_getElem? (i := 408) (by decide +kernel))) rfl
theorem nz_w467 : (Jvm.Cond.instanceMethod ({ cls := "NestFinder", name := "cut", desc := "(II)I" } : Jvm.MethodName)) ∈ nz_G := nz_inG (List.mem_append_right _ (List.mem_of_getElem? (i := 409) (by decide +kernel))) rfl
theorem nz_w468 : (Jvm.Cond.selects "NestFinder" ({ cls := "NestFinder", name := "cut", desc := "(II)I" } : Jvm.MethodName) ({ cls := "NestFinder", name := "cut", desc := "(II)I" } : Jvm.MethodName)) ∈ nz_G := nz_inG (List.mem_append_right _ (List.mem_of_getElem? (i := 410) (by decide +kernel))) rfl
theorem nz_w469 : (Jvm.Cond.code ({ cls := "NestFinder", name := "cut", desc := "(II)I" } : Jvm.MethodName) prog_1_method_12_code (3 : Nat) (Option.some Jvm.ClassFile.FieldType.int)) ∈ nz_G := nz_inG (List.mem_append_right _ (List.mem_of_getElem? (i := 411) (by decide +kernel))) rfl
theorem nz_w470 : (Jvm.Cond.methodLink "NestFinder" (169 : Nat) ({ cls := "NestFinder$Graph", name := "dropArc", desc := "(II)I" } : Jvm.MethodName)) ∈ nz_G := nz_inG (List.mem_append_right _ (List.mem_of_getElem? (i := 412) (by decide +kernel))) rfl
theorem nz_w471 : (Jvm.Cond.instanceMethod ({ cls := "NestFinder$Graph", name := "dropArc", desc := "(II)I" } : Jvm.MethodName)) ∈ nz_G := nz_inG (List.mem_append_right _ (List.mem_of_getElem? (i := 413) (by decide +kernel))) rfl
theorem nz_w472 : (Jvm.Cond.selects "NestFinder$Graph" ({ cls := "NestFinder$Graph", name := "dropArc", desc := "(II)I" } : Jvm.MethodName) ({ cls := "NestFinder$Graph", name := "dropArc", desc := "(II)I" } : Jvm.MethodName)) ∈ nz_G := nz_inG (List.mem_append_right _ (List.mem_of_getElem? (i := 414) (by decide +kernel))) rfl
theorem nz_w473 : (Jvm.Cond.code ({ cls := "NestFinder$Graph", name := "dropArc", desc := "(II)I" } : Jvm.MethodName) prog_2_method_12_code (4 : Nat) (Option.some Jvm.ClassFile.FieldType.int)) ∈ nz_G := nz_inG (List.mem_append_right _ (List.mem_of_getElem? (i := 415) (by decide +kernel))) rfl
theorem nz_w474 : (Jvm.Cond.methodLink "NestFinder$Graph" (43 : Nat) ({ cls := "NestFinder$Graph", name := "hasArc", desc := "(II)Z" } : Jvm.MethodName)) ∈ nz_G := nz_inG (List.mem_append_right _ (List.mem_of_getElem? (i := 416) (by decide +kernel))) rfl
theorem nz_w475 : (Jvm.Cond.methodLink "NestFinder$Graph" (35 : Nat) ({ cls := "NestFinder$Graph", name := "target", desc := "(II)I" } : Jvm.MethodName)) ∈ nz_G := nz_inG (List.mem_append_right _ (List.mem_of_getElem? (i := 417) (by decide +kernel))) rfl
theorem nz_w476 : (Jvm.Cond.methodLink "NestFinder$Graph" (47 : Nat) ({ cls := "NestFinder$Graph", name := "keepArcs", desc := "(II)V" } : Jvm.MethodName)) ∈ nz_G := nz_inG (List.mem_append_right _ (List.mem_of_getElem? (i := 418) (by decide +kernel))) rfl
theorem nz_w477 : (Jvm.Cond.instanceMethod ({ cls := "NestFinder$Graph", name := "keepArcs", desc := "(II)V" } : Jvm.MethodName)) ∈ nz_G := nz_inG (List.mem_append_right _ (List.mem_of_getElem? (i := 419) (by decide +kernel))) rfl
theorem nz_w478 : (Jvm.Cond.selects "NestFinder$Graph" ({ cls := "NestFinder$Graph", name := "keepArcs", desc := "(II)V" } : Jvm.MethodName) ({ cls := "NestFinder$Graph", name := "keepArcs", desc := "(II)V" } : Jvm.MethodName)) ∈ nz_G := nz_inG (List.mem_append_right _ (List.mem_of_getElem? (i := 420) (by decide +kernel))) rfl
theorem nz_w479 : (Jvm.Cond.code ({ cls := "NestFinder$Graph", name := "keepArcs", desc := "(II)V" } : Jvm.MethodName) prog_2_method_13_code (5 : Nat) (Option.none : Option Jvm.ClassFile.FieldType)) ∈ nz_G := nz_inG (List.mem_append_right _ (List.mem_of_getElem? (i := 421) (by decide +kernel))) rfl
theorem nz_w480 : (Jvm.Cond.methodLink "NestFinderLaw" (56 : Nat) ({ cls := "NestFinder", name := "split", desc := "(II)I" } : Jvm.MethodName)) ∈ nz_G := nz_inG (List.mem_append_right _ (List.mem_of_getElem? (i := 422) (by decide +kernel))) rfl
theorem nz_w481 : (Jvm.Cond.instanceMethod ({ cls := "NestFinder", name := "split", desc := "(II)I" } : Jvm.MethodName)) ∈ nz_G := nz_inG (List.mem_append_right _ (List.mem_of_getElem? (i := 423) (by decide +kernel))) rfl
theorem nz_w482 : (Jvm.Cond.selects "NestFinder" ({ cls := "NestFinder", name := "split", desc := "(II)I" } : Jvm.MethodName) ({ cls := "NestFinder", name := "split", desc := "(II)I" } : Jvm.MethodName)) ∈ nz_G := nz_inG (List.mem_append_right _ (List.mem_of_getElem? (i := 424) (by decide +kernel))) rfl
theorem nz_w483 : (Jvm.Cond.code ({ cls := "NestFinder", name := "split", desc := "(II)I" } : Jvm.MethodName) prog_1_method_13_code (3 : Nat) (Option.some Jvm.ClassFile.FieldType.int)) ∈ nz_G := nz_inG (List.mem_append_right _ (List.mem_of_getElem? (i := 425) (by decide +kernel))) rfl
theorem nz_w484 : (Jvm.Cond.methodLink "NestFinder" (172 : Nat) ({ cls := "NestFinder$Graph", name := "copyBlockFor", desc := "(II)I" } : Jvm.MethodName)) ∈ nz_G := nz_inG (List.mem_append_right _ (List.mem_of_getElem? (i := 426) (by decide +kernel))) rfl
theorem nz_w485 : (Jvm.Cond.instanceMethod ({ cls := "NestFinder$Graph", name := "copyBlockFor", desc := "(II)I" } : Jvm.MethodName)) ∈ nz_G := nz_inG (List.mem_append_right _ (List.mem_of_getElem? (i := 427) (by decide +kernel))) rfl
theorem nz_w486 : (Jvm.Cond.selects "NestFinder$Graph" ({ cls := "NestFinder$Graph", name := "copyBlockFor", desc := "(II)I" } : Jvm.MethodName) ({ cls := "NestFinder$Graph", name := "copyBlockFor", desc := "(II)I" } : Jvm.MethodName)) ∈ nz_G := nz_inG (List.mem_append_right _ (List.mem_of_getElem? (i := 428) (by decide +kernel))) rfl
theorem nz_w487 : (Jvm.Cond.code ({ cls := "NestFinder$Graph", name := "copyBlockFor", desc := "(II)I" } : Jvm.MethodName) prog_2_method_14_code (6 : Nat) (Option.some Jvm.ClassFile.FieldType.int)) ∈ nz_G := nz_inG (List.mem_append_right _ (List.mem_of_getElem? (i := 429) (by decide +kernel))) rfl
theorem nz_w488 : (Jvm.Cond.methodLink "NestFinder$Graph" (50 : Nat) ({ cls := "NestFinder$Graph", name := "goesTo", desc := "(II)Z" } : Jvm.MethodName)) ∈ nz_G := nz_inG (List.mem_append_right _ (List.mem_of_getElem? (i := 430) (by decide +kernel))) rfl
theorem nz_w490 : (Jvm.Cond.instanceMethod ({ cls := "NestFinder$Graph", name := "goesTo", desc := "(II)Z" } : Jvm.MethodName)) ∈ nz_G := nz_inG (List.mem_append_right _ (List.mem_of_getElem? (i := 432) (by decide +kernel))) rfl
theorem nz_w491 : (Jvm.Cond.code ({ cls := "NestFinder$Graph", name := "goesTo", desc := "(II)Z" } : Jvm.MethodName) prog_2_method_15_code (4 : Nat) (Option.some Jvm.ClassFile.FieldType.boolean)) ∈ nz_G := nz_inG (List.mem_append_right _ (List.mem_of_getElem? (i := 433) (by decide +kernel))) rfl
theorem nz_w492 : (Jvm.Cond.methodLink "NestFinder$Graph" (53 : Nat) ({ cls := "NestFinder$Graph", name := "appendBlock", desc := "(I)Z" } : Jvm.MethodName)) ∈ nz_G := nz_inG (List.mem_append_right _ (List.mem_of_getElem? (i := 434) (by decide +kernel))) rfl
theorem nz_w493 : (Jvm.Cond.methodLink "NestFinder$Graph" (56 : Nat) ({ cls := "NestFinder$Graph", name := "turnArcs", desc := "(III)V" } : Jvm.MethodName)) ∈ nz_G := nz_inG (List.mem_append_right _ (List.mem_of_getElem? (i := 435) (by decide +kernel))) rfl
theorem nz_w495 : (Jvm.Cond.instanceMethod ({ cls := "NestFinder$Graph", name := "turnArcs", desc := "(III)V" } : Jvm.MethodName)) ∈ nz_G := nz_inG (List.mem_append_right _ (List.mem_of_getElem? (i := 437) (by decide +kernel))) rfl
theorem nz_w496 : (Jvm.Cond.code ({ cls := "NestFinder$Graph", name := "turnArcs", desc := "(III)V" } : Jvm.MethodName) prog_2_method_16_code (5 : Nat) (Option.none : Option Jvm.ClassFile.FieldType)) ∈ nz_G := nz_inG (List.mem_append_right _ (List.mem_of_getElem? (i := 438) (by decide +kernel))) rfl
theorem nz_w497 : (Jvm.Cond.methodLink "NestFinderLaw" (60 : Nat) ({ cls := "NestFinder", name := "mend", desc := "()I" } : Jvm.MethodName)) ∈ nz_G := nz_inG (List.mem_append_right _ (List.mem_of_getElem? (i := 439) (by decide +kernel))) rfl
theorem nz_w498 : (Jvm.Cond.instanceMethod ({ cls := "NestFinder", name := "mend", desc := "()I" } : Jvm.MethodName)) ∈ nz_G := nz_inG (List.mem_append_right _ (List.mem_of_getElem? (i := 440) (by decide +kernel))) rfl
theorem nz_w499 : (Jvm.Cond.selects "NestFinder" ({ cls := "NestFinder", name := "mend", desc := "()I" } : Jvm.MethodName) ({ cls := "NestFinder", name := "mend", desc := "()I" } : Jvm.MethodName)) ∈ nz_G := nz_inG (List.mem_append_right _ (List.mem_of_getElem? (i := 441) (by decide +kernel))) rfl
theorem nz_w500 : (Jvm.Cond.code ({ cls := "NestFinder", name := "mend", desc := "()I" } : Jvm.MethodName) prog_1_method_14_code (1 : Nat) (Option.some Jvm.ClassFile.FieldType.int)) ∈ nz_G := nz_inG (List.mem_append_right _ (List.mem_of_getElem? (i := 442) (by decide +kernel))) rfl
theorem nz_w501 : (Jvm.Cond.methodLink "NestFinder" (175 : Nat) ({ cls := "NestFinder$Survey", name := "lastManyEntered", desc := "()I" } : Jvm.MethodName)) ∈ nz_G := nz_inG (List.mem_append_right _ (List.mem_of_getElem? (i := 443) (by decide +kernel))) rfl
theorem nz_w502 : (Jvm.Cond.instanceMethod ({ cls := "NestFinder$Survey", name := "lastManyEntered", desc := "()I" } : Jvm.MethodName)) ∈ nz_G := nz_inG (List.mem_append_right _ (List.mem_of_getElem? (i := 444) (by decide +kernel))) rfl
theorem nz_w503 : (Jvm.Cond.selects "NestFinder$Survey" ({ cls := "NestFinder$Survey", name := "lastManyEntered", desc := "()I" } : Jvm.MethodName) ({ cls := "NestFinder$Survey", name := "lastManyEntered", desc := "()I" } : Jvm.MethodName)) ∈ nz_G := nz_inG (List.mem_append_right _ (List.mem_of_getElem? (i := 445) (by decide +kernel))) rfl
theorem nz_w504 : (Jvm.Cond.code ({ cls := "NestFinder$Survey", name := "lastManyEntered", desc := "()I" } : Jvm.MethodName) prog_7_method_12_code (2 : Nat) (Option.some Jvm.ClassFile.FieldType.int)) ∈ nz_G := nz_inG (List.mem_append_right _ (List.mem_of_getElem? (i := 446) (by decide +kernel))) rfl
theorem nz_w505 : (Jvm.Cond.methodLink "NestFinder" (178 : Nat) ({ cls := "NestFinder", name := "mendTrial", desc := "()I" } : Jvm.MethodName)) ∈ nz_G := nz_inG (List.mem_append_right _ (List.mem_of_getElem? (i := 447) (by decide +kernel))) rfl
theorem nz_w507 : (Jvm.Cond.instanceMethod ({ cls := "NestFinder", name := "mendTrial", desc := "()I" } : Jvm.MethodName)) ∈ nz_G := nz_inG (List.mem_append_right _ (List.mem_of_getElem? (i := 449) (by decide +kernel))) rfl
theorem nz_w508 : (Jvm.Cond.code ({ cls := "NestFinder", name := "mendTrial", desc := "()I" } : Jvm.MethodName) prog_1_method_17_code (3 : Nat) (Option.some Jvm.ClassFile.FieldType.int)) ∈ nz_G := nz_inG (List.mem_append_right _ (List.mem_of_getElem? (i := 450) (by decide +kernel))) rfl
theorem nz_w509 : (Jvm.Cond.methodLink "NestFinder" (187 : Nat) ({ cls := "NestFinder", name := "mendOnce", desc := "()Z" } : Jvm.MethodName)) ∈ nz_G := nz_inG (List.mem_append_right _ (List.mem_of_getElem? (i := 451) (by decide +kernel))) rfl
theorem nz_w511 : (Jvm.Cond.instanceMethod ({ cls := "NestFinder", name := "mendOnce", desc := "()Z" } : Jvm.MethodName)) ∈ nz_G := nz_inG (List.mem_append_right _ (List.mem_of_getElem? (i := 453) (by decide +kernel))) rfl
theorem nz_w512 : (Jvm.Cond.code ({ cls := "NestFinder", name := "mendOnce", desc := "()Z" } : Jvm.MethodName) prog_1_method_18_code (5 : Nat) (Option.some Jvm.ClassFile.FieldType.boolean)) ∈ nz_G := nz_inG (List.mem_append_right _ (List.mem_of_getElem? (i := 454) (by decide +kernel))) rfl
theorem nz_w513 : (Jvm.Cond.methodLink "NestFinder" (193 : Nat) ({ cls := "NestFinder", name := "leastTarget", desc := "(II)I" } : Jvm.MethodName)) ∈ nz_G := nz_inG (List.mem_append_right _ (List.mem_of_getElem? (i := 455) (by decide +kernel))) rfl
theorem nz_w515 : (Jvm.Cond.instanceMethod ({ cls := "NestFinder", name := "leastTarget", desc := "(II)I" } : Jvm.MethodName)) ∈ nz_G := nz_inG (List.mem_append_right _ (List.mem_of_getElem? (i := 457) (by decide +kernel))) rfl
theorem nz_w516 : (Jvm.Cond.code ({ cls := "NestFinder", name := "leastTarget", desc := "(II)I" } : Jvm.MethodName) prog_1_method_19_code (5 : Nat) (Option.some Jvm.ClassFile.FieldType.int)) ∈ nz_G := nz_inG (List.mem_append_right _ (List.mem_of_getElem? (i := 458) (by decide +kernel))) rfl
theorem nz_w517 : (Jvm.Cond.methodLink "NestFinder" (202 : Nat) ({ cls := "NestFinder", name := "leastOf", desc := "(I)I" } : Jvm.MethodName)) ∈ nz_G := nz_inG (List.mem_append_right _ (List.mem_of_getElem? (i := 459) (by decide +kernel))) rfl
theorem nz_w518 : (Jvm.Cond.static ({ cls := "NestFinder", name := "leastOf", desc := "(I)I" } : Jvm.MethodName)) ∈ nz_G := nz_inG (List.mem_append_right _ (List.mem_of_getElem? (i := 460) (by decide +kernel))) rfl
theorem nz_w519 : (Jvm.Cond.code ({ cls := "NestFinder", name := "leastOf", desc := "(I)I" } : Jvm.MethodName) prog_1_method_47_code (1 : Nat) (Option.some Jvm.ClassFile.FieldType.int)) ∈ nz_G := nz_inG (List.mem_append_right _ (List.mem_of_getElem? (i := 461) (by decide +kernel))) rfl
theorem nz_w520 : (Jvm.Cond.methodLink "NestFinder" (293 : Nat) ({ cls := "java/lang/Integer", name := "numberOfTrailingZeros", desc := "(I)I" } : Jvm.MethodName)) ∈ nz_G := nz_inG (List.mem_append_right _ (List.mem_of_getElem? (i := 462) (by decide +kernel))) rfl
theorem nz_w521 : (Jvm.Cond.methodLink "NestFinder" (196 : Nat) ({ cls := "NestFinder", name := "leastSource", desc := "(II)I" } : Jvm.MethodName)) ∈ nz_G := nz_inG (List.mem_append_right _ (List.mem_of_getElem? (i := 463) (by decide +kernel))) rfl
theorem nz_w523 : (Jvm.Cond.instanceMethod ({ cls := "NestFinder", name := "leastSource", desc := "(II)I" } : Jvm.MethodName)) ∈ nz_G := nz_inG (List.mem_append_right _ (List.mem_of_getElem? (i := 465) (by decide +kernel))) rfl
theorem nz_w524 : (Jvm.Cond.code ({ cls := "NestFinder", name := "leastSource", desc := "(II)I" } : Jvm.MethodName) prog_1_method_20_code (4 : Nat) (Option.some Jvm.ClassFile.FieldType.int)) ∈ nz_G := nz_inG (List.mem_append_right _ (List.mem_of_getElem? (i := 466) (by decide +kernel))) rfl
theorem nz_w525 : (Jvm.Cond.methodLink "NestFinderLaw" (64 : Nat) ({ cls := "NestFinder", name := "undo", desc := "()I" } : Jvm.MethodName)) ∈ nz_G := nz_inG (List.mem_append_right _ (List.mem_of_getElem? (i := 467) (by decide +kernel))) rfl
theorem nz_w526 : (Jvm.Cond.instanceMethod ({ cls := "NestFinder", name := "undo", desc := "()I" } : Jvm.MethodName)) ∈ nz_G := nz_inG (List.mem_append_right _ (List.mem_of_getElem? (i := 468) (by decide +kernel))) rfl
theorem nz_w527 : (Jvm.Cond.selects "NestFinder" ({ cls := "NestFinder", name := "undo", desc := "()I" } : Jvm.MethodName) ({ cls := "NestFinder", name := "undo", desc := "()I" } : Jvm.MethodName)) ∈ nz_G := nz_inG (List.mem_append_right _ (List.mem_of_getElem? (i := 469) (by decide +kernel))) rfl
theorem nz_w528 : (Jvm.Cond.code ({ cls := "NestFinder", name := "undo", desc := "()I" } : Jvm.MethodName) prog_1_method_15_code (1 : Nat) (Option.some Jvm.ClassFile.FieldType.int)) ∈ nz_G := nz_inG (List.mem_append_right _ (List.mem_of_getElem? (i := 470) (by decide +kernel))) rfl
theorem nz_w529 : (Jvm.Cond.methodLink "NestFinder" (181 : Nat) ({ cls := "NestFinder$History", name := "bringLastBack", desc := "(LNestFinder$Graph;)V" } : Jvm.MethodName)) ∈ nz_G := nz_inG (List.mem_append_right _ (List.mem_of_getElem? (i := 471) (by decide +kernel))) rfl
theorem nz_w530 : (Jvm.Cond.instanceMethod ({ cls := "NestFinder$History", name := "bringLastBack", desc := "(LNestFinder$Graph;)V" } : Jvm.MethodName)) ∈ nz_G := nz_inG (List.mem_append_right _ (List.mem_of_getElem? (i := 472) (by decide +kernel))) rfl
theorem nz_w531 : (Jvm.Cond.selects "NestFinder$History" ({ cls := "NestFinder$History", name := "bringLastBack", desc := "(LNestFinder$Graph;)V" } : Jvm.MethodName) ({ cls := "NestFinder$History", name := "bringLastBack", desc := "(LNestFinder$Graph;)V" } : Jvm.MethodName)) ∈ nz_G := nz_inG (List.mem_append_right _ (List.mem_of_getElem? (i := 473) (by decide +kernel))) rfl
theorem nz_w532 : (Jvm.Cond.code ({ cls := "NestFinder$History", name := "bringLastBack", desc := "(LNestFinder$Graph;)V" } : Jvm.MethodName) prog_3_method_4_code (2 : Nat) (Option.none : Option Jvm.ClassFile.FieldType)) ∈ nz_G := nz_inG (List.mem_append_right _ (List.mem_of_getElem? (i := 474) (by decide +kernel))) rfl
theorem nz_w533 : (Jvm.Cond.methodLink "NestFinder$History" (31 : Nat) ({ cls := "NestFinder$Shelf", name := "bringBack", desc := "(ILNestFinder$Graph;)V" } : Jvm.MethodName)) ∈ nz_G := nz_inG (List.mem_append_right _ (List.mem_of_getElem? (i := 475) (by decide +kernel))) rfl
theorem nz_w534 : (Jvm.Cond.instanceMethod ({ cls := "NestFinder$Shelf", name := "bringBack", desc := "(ILNestFinder$Graph;)V" } : Jvm.MethodName)) ∈ nz_G := nz_inG (List.mem_append_right _ (List.mem_of_getElem? (i := 476) (by decide +kernel))) rfl
theorem nz_w535 : (Jvm.Cond.selects "NestFinder$Shelf" ({ cls := "NestFinder$Shelf", name := "bringBack", desc := "(ILNestFinder$Graph;)V" } : Jvm.MethodName) ({ cls := "NestFinder$Shelf", name := "bringBack", desc := "(ILNestFinder$Graph;)V" } : Jvm.MethodName)) ∈ nz_G := nz_inG (List.mem_append_right _ (List.mem_of_getElem? (i := 477) (by decide +kernel))) rfl
theorem nz_w536 : (Jvm.Cond.code ({ cls := "NestFinder$Shelf", name := "bringBack", desc := "(ILNestFinder$Graph;)V" } : Jvm.MethodName) prog_4_method_3_code (4 : Nat) (Option.none : Option Jvm.ClassFile.FieldType)) ∈ nz_G := nz_inG (List.mem_append_right _ (List.mem_of_getElem? (i := 478) (by decide +kernel))) rfl
theorem nz_w537 : (Jvm.Cond.methodLink "NestFinderLaw" (68 : Nat) ({ cls := "NestFinder", name := "run", desc := "(III)I" } : Jvm.MethodName)) ∈ nz_G := nz_inG (List.mem_append_right _ (List.mem_of_getElem? (i := 479) (by decide +kernel))) rfl
theorem nz_w538 : (Jvm.Cond.instanceMethod ({ cls := "NestFinder", name := "run", desc := "(III)I" } : Jvm.MethodName)) ∈ nz_G := nz_inG (List.mem_append_right _ (List.mem_of_getElem? (i := 480) (by decide +kernel))) rfl
theorem nz_w539 : (Jvm.Cond.selects "NestFinder" ({ cls := "NestFinder", name := "run", desc := "(III)I" } : Jvm.MethodName) ({ cls := "NestFinder", name := "run", desc := "(III)I" } : Jvm.MethodName)) ∈ nz_G := nz_inG (List.mem_append_right _ (List.mem_of_getElem? (i := 481) (by decide +kernel))) rfl
theorem nz_w540 : (Jvm.Cond.code ({ cls := "NestFinder", name := "run", desc := "(III)I" } : Jvm.MethodName) prog_1_method_21_code (6 : Nat) (Option.some Jvm.ClassFile.FieldType.int)) ∈ nz_G := nz_inG (List.mem_append_right _ (List.mem_of_getElem? (i := 482) (by decide +kernel))) rfl
theorem nz_w541 : (Jvm.Cond.methodLink "NestFinder" (205 : Nat) ({ cls := "NestFinder", name := "areChoices", desc := "(II)Z" } : Jvm.MethodName)) ∈ nz_G := nz_inG (List.mem_append_right _ (List.mem_of_getElem? (i := 483) (by decide +kernel))) rfl
theorem nz_w542 : (Jvm.Cond.static ({ cls := "NestFinder", name := "areChoices", desc := "(II)Z" } : Jvm.MethodName)) ∈ nz_G := nz_inG (List.mem_append_right _ (List.mem_of_getElem? (i := 484) (by decide +kernel))) rfl
theorem nz_w543 : (Jvm.Cond.code ({ cls := "NestFinder", name := "areChoices", desc := "(II)Z" } : Jvm.MethodName) prog_1_method_22_code (3 : Nat) (Option.some Jvm.ClassFile.FieldType.boolean)) ∈ nz_G := nz_inG (List.mem_append_right _ (List.mem_of_getElem? (i := 485) (by decide +kernel))) rfl
theorem nz_w544 : (Jvm.Cond.methodLink "NestFinder" (215 : Nat) ({ cls := "NestFinder", name := "tens", desc := "(I)J" } : Jvm.MethodName)) ∈ nz_G := nz_inG (List.mem_append_right _ (List.mem_of_getElem? (i := 486) (by decide +kernel))) rfl
theorem nz_w545 : (Jvm.Cond.static ({ cls := "NestFinder", name := "tens", desc := "(I)J" } : Jvm.MethodName)) ∈ nz_G := nz_inG (List.mem_append_right _ (List.mem_of_getElem? (i := 487) (by decide +kernel))) rfl
theorem nz_w546 : (Jvm.Cond.code ({ cls := "NestFinder", name := "tens", desc := "(I)J" } : Jvm.MethodName) prog_1_method_42_code (4 : Nat) (Option.some Jvm.ClassFile.FieldType.long)) ∈ nz_G := nz_inG (List.mem_append_right _ (List.mem_of_getElem? (i := 488) (by decide +kernel))) rfl
theorem nz_w547 : (Jvm.Cond.constantLong "NestFinder" (283 : Nat) (10 : Int64)) ∈ nz_G := nz_inG (List.mem_append_right _ (List.mem_of_getElem? (i := 489) (by decide +kernel))) rfl
theorem nz_w548 : (Jvm.Cond.methodLink "NestFinder" (208 : Nat) ({ cls := "NestFinder", name := "figure", desc := "(JI)I" } : Jvm.MethodName)) ∈ nz_G := nz_inG (List.mem_append_right _ (List.mem_of_getElem? (i := 490) (by decide +kernel))) rfl
theorem nz_w549 : (Jvm.Cond.static ({ cls := "NestFinder", name := "figure", desc := "(JI)I" } : Jvm.MethodName)) ∈ nz_G := nz_inG (List.mem_append_right _ (List.mem_of_getElem? (i := 491) (by decide +kernel))) rfl
theorem nz_w550 : (Jvm.Cond.code ({ cls := "NestFinder", name := "figure", desc := "(JI)I" } : Jvm.MethodName) prog_1_method_41_code (6 : Nat) (Option.some Jvm.ClassFile.FieldType.int)) ∈ nz_G := nz_inG (List.mem_append_right _ (List.mem_of_getElem? (i := 492) (by decide +kernel))) rfl
theorem nz_w551 : (Jvm.Cond.methodLink "NestFinder" (212 : Nat) ({ cls := "NestFinder$Graph", name := "follow", desc := "(II)I" } : Jvm.MethodName)) ∈ nz_G := nz_inG (List.mem_append_right _ (List.mem_of_getElem? (i := 493) (by decide +kernel))) rfl
theorem nz_w552 : (Jvm.Cond.instanceMethod ({ cls := "NestFinder$Graph", name := "follow", desc := "(II)I" } : Jvm.MethodName)) ∈ nz_G := nz_inG (List.mem_append_right _ (List.mem_of_getElem? (i := 494) (by decide +kernel))) rfl
theorem nz_w553 : (Jvm.Cond.selects "NestFinder$Graph" ({ cls := "NestFinder$Graph", name := "follow", desc := "(II)I" } : Jvm.MethodName) ({ cls := "NestFinder$Graph", name := "follow", desc := "(II)I" } : Jvm.MethodName)) ∈ nz_G := nz_inG (List.mem_append_right _ (List.mem_of_getElem? (i := 495) (by decide +kernel))) rfl
theorem nz_w554 : (Jvm.Cond.code ({ cls := "NestFinder$Graph", name := "follow", desc := "(II)I" } : Jvm.MethodName) prog_2_method_7_code (4 : Nat) (Option.some Jvm.ClassFile.FieldType.int)) ∈ nz_G := nz_inG (List.mem_append_right _ (List.mem_of_getElem? (i := 496) (by decide +kernel))) rfl
theorem nz_w555 : (Jvm.Cond.methodLink "NestFinderLaw" (73 : Nat) ({ cls := "NestFinder", name := "would", desc := "(I)I" } : Jvm.MethodName)) ∈ nz_G := nz_inG (List.mem_append_right _ (List.mem_of_getElem? (i := 497) (by decide +kernel))) rfl
theorem nz_w556 : (Jvm.Cond.instanceMethod ({ cls := "NestFinder", name := "would", desc := "(I)I" } : Jvm.MethodName)) ∈ nz_G := nz_inG (List.mem_append_right _ (List.mem_of_getElem? (i := 498) (by decide +kernel))) rfl
theorem nz_w557 : (Jvm.Cond.selects "NestFinder" ({ cls := "NestFinder", name := "would", desc := "(I)I" } : Jvm.MethodName) ({ cls := "NestFinder", name := "would", desc := "(I)I" } : Jvm.MethodName)) ∈ nz_G := nz_inG (List.mem_append_right _ (List.mem_of_getElem? (i := 499) (by decide +kernel))) rfl
theorem nz_w558 : (Jvm.Cond.code ({ cls := "NestFinder", name := "would", desc := "(I)I" } : Jvm.MethodName) prog_1_method_23_code (3 : Nat) (Option.some Jvm.ClassFile.FieldType.int)) ∈ nz_G := nz_inG (List.mem_append_right _ (List.mem_of_getElem? (i := 500) (by decide +kernel))) rfl
theorem nz_w559 : (Jvm.Cond.methodLink "NestFinderLaw" (79 : Nat) ({ cls := "NestFinder", name := "judge", desc := "(IJ)I" } : Jvm.MethodName)) ∈ nz_G := nz_inG (List.mem_append_right _ (List.mem_of_getElem? (i := 501) (by decide +kernel))) rfl
theorem nz_w560 : (Jvm.Cond.instanceMethod ({ cls := "NestFinder", name := "judge", desc := "(IJ)I" } : Jvm.MethodName)) ∈ nz_G := nz_inG (List.mem_append_right _ (List.mem_of_getElem? (i := 502) (by decide +kernel))) rfl
theorem nz_w561 : (Jvm.Cond.selects "NestFinder" ({ cls := "NestFinder", name := "judge", desc := "(IJ)I" } : Jvm.MethodName) ({ cls := "NestFinder", name := "judge", desc := "(IJ)I" } : Jvm.MethodName)) ∈ nz_G := nz_inG (List.mem_append_right _ (List.mem_of_getElem? (i := 503) (by decide +kernel))) rfl
theorem nz_w562 : (Jvm.Cond.code ({ cls := "NestFinder", name := "judge", desc := "(IJ)I" } : Jvm.MethodName) prog_1_method_24_code (6 : Nat) (Option.some Jvm.ClassFile.FieldType.int)) ∈ nz_G := nz_inG (List.mem_append_right _ (List.mem_of_getElem? (i := 504) (by decide +kernel))) rfl
theorem nz_w563 : (Jvm.Cond.methodLink "NestFinder" (219 : Nat) ({ cls := "NestFinder", name := "holds", desc := "(III)Z" } : Jvm.MethodName)) ∈ nz_G := nz_inG (List.mem_append_right _ (List.mem_of_getElem? (i := 505) (by decide +kernel))) rfl
theorem nz_w565 : (Jvm.Cond.instanceMethod ({ cls := "NestFinder", name := "holds", desc := "(III)Z" } : Jvm.MethodName)) ∈ nz_G := nz_inG (List.mem_append_right _ (List.mem_of_getElem? (i := 507) (by decide +kernel))) rfl
theorem nz_w566 : (Jvm.Cond.code ({ cls := "NestFinder", name := "holds", desc := "(III)Z" } : Jvm.MethodName) prog_1_method_25_code (4 : Nat) (Option.some Jvm.ClassFile.FieldType.boolean)) ∈ nz_G := nz_inG (List.mem_append_right _ (List.mem_of_getElem? (i := 508) (by decide +kernel))) rfl
theorem nz_w567 : (Jvm.Cond.methodLink "NestFinder" (223 : Nat) ({ cls := "NestFinder", name := "isSaidOfBlock", desc := "(III)Z" } : Jvm.MethodName)) ∈ nz_G := nz_inG (List.mem_append_right _ (List.mem_of_getElem? (i := 509) (by decide +kernel))) rfl
theorem nz_w569 : (Jvm.Cond.instanceMethod ({ cls := "NestFinder", name := "isSaidOfBlock", desc := "(III)Z" } : Jvm.MethodName)) ∈ nz_G := nz_inG (List.mem_append_right _ (List.mem_of_getElem? (i := 511) (by decide +kernel))) rfl
theorem nz_w570 : (Jvm.Cond.code ({ cls := "NestFinder", name := "isSaidOfBlock", desc := "(III)Z" } : Jvm.MethodName) prog_1_method_26_code (4 : Nat) (Option.some Jvm.ClassFile.FieldType.boolean)) ∈ nz_G := nz_inG (List.mem_append_right _ (List.mem_of_getElem? (i := 512) (by decide +kernel))) rfl
theorem nz_w571 : (Jvm.Cond.methodLink "NestFinderLaw" (84 : Nat) ({ cls := "NestFinder", name := "share", desc := "(IIZ)I" } : Jvm.MethodName)) ∈ nz_G := nz_inG (List.mem_append_right _ (List.mem_of_getElem? (i := 513) (by decide +kernel))) rfl
theorem nz_w572 : (Jvm.Cond.instanceMethod ({ cls := "NestFinder", name := "share", desc := "(IIZ)I" } : Jvm.MethodName)) ∈ nz_G := nz_inG (List.mem_append_right _ (List.mem_of_getElem? (i := 514) (by decide +kernel))) rfl
theorem nz_w573 : (Jvm.Cond.selects "NestFinder" ({ cls := "NestFinder", name := "share", desc := "(IIZ)I" } : Jvm.MethodName) ({ cls := "NestFinder", name := "share", desc := "(IIZ)I" } : Jvm.MethodName)) ∈ nz_G := nz_inG (List.mem_append_right _ (List.mem_of_getElem? (i := 515) (by decide +kernel))) rfl
theorem nz_w574 : (Jvm.Cond.code ({ cls := "NestFinder", name := "share", desc := "(IIZ)I" } : Jvm.MethodName) prog_1_method_27_code (9 : Nat) (Option.some Jvm.ClassFile.FieldType.int)) ∈ nz_G := nz_inG (List.mem_append_right _ (List.mem_of_getElem? (i := 516) (by decide +kernel))) rfl
theorem nz_w575 : (Jvm.Cond.methodLink "NestFinder" (226 : Nat) ({ cls := "java/lang/Integer", name := "bitCount", desc := "(I)I" } : Jvm.MethodName)) ∈ nz_G := nz_inG (List.mem_append_right _ (List.mem_of_getElem? (i := 517) (by decide +kernel))) rfl
theorem nz_w576 : (Jvm.Cond.static ({ cls := "java/lang/Integer", name := "bitCount", desc := "(I)I" } : Jvm.MethodName)) ∈ nz_G := nz_inG (List.mem_append_right _ (List.mem_of_getElem? (i := 518) (by decide +kernel))) rfl
theorem nz_w577 : (Jvm.Cond.code ({ cls := "java/lang/Integer", name := "bitCount", desc := "(I)I" } : Jvm.MethodName) prog_11_method_49_code (1 : Nat) (Option.some Jvm.ClassFile.FieldType.int)) ∈ nz_G := nz_inG (List.mem_append_right _ (List.mem_of_getElem? (i := 519) (by decide +kernel))) rfl
theorem nz_w578 : (Jvm.Cond.constant "java/lang/Integer" (265 : Nat) (1431655765 : Int32)) ∈ nz_G := nz_inG (List.mem_append_right _ (List.mem_of_getElem? (i := 520) (by decide +kernel))) rfl
theorem nz_w579 : (Jvm.Cond.constant "java/lang/Integer" (266 : Nat) (858993459 : Int32)) ∈ nz_G := nz_inG (List.mem_append_right _ (List.mem_of_getElem? (i := 521) (by decide +kernel))) rfl
theorem nz_w580 : (Jvm.Cond.constant "java/lang/Integer" (267 : Nat) (252645135 : Int32)) ∈ nz_G := nz_inG (List.mem_append_right _ (List.mem_of_getElem? (i := 522) (by decide +kernel))) rfl
theorem nz_w581 : (Jvm.Cond.methodLink "NestFinder" (231 : Nat) ({ cls := "NestFinder", name := "factorial", desc := "(I)I" } : Jvm.MethodName)) ∈ nz_G := nz_inG (List.mem_append_right _ (List.mem_of_getElem? (i := 523) (by decide +kernel))) rfl
theorem nz_w582 : (Jvm.Cond.static ({ cls := "NestFinder", name := "factorial", desc := "(I)I" } : Jvm.MethodName)) ∈ nz_G := nz_inG (List.mem_append_right _ (List.mem_of_getElem? (i := 524) (by decide +kernel))) rfl
theorem nz_w583 : (Jvm.Cond.code ({ cls := "NestFinder", name := "factorial", desc := "(I)I" } : Jvm.MethodName) prog_1_method_44_code (3 : Nat) (Option.some Jvm.ClassFile.FieldType.int)) ∈ nz_G := nz_inG (List.mem_append_right _ (List.mem_of_getElem? (i := 525) (by decide +kernel))) rfl
theorem nz_w584 : (Jvm.Cond.methodLink "NestFinder" (234 : Nat) ({ cls := "NestFinder", name := "loopsWithArcs", desc := "(II)I" } : Jvm.MethodName)) ∈ nz_G := nz_inG (List.mem_append_right _ (List.mem_of_getElem? (i := 526) (by decide +kernel))) rfl
theorem nz_w586 : (Jvm.Cond.instanceMethod ({ cls := "NestFinder", name := "loopsWithArcs", desc := "(II)I" } : Jvm.MethodName)) ∈ nz_G := nz_inG (List.mem_append_right _ (List.mem_of_getElem? (i := 528) (by decide +kernel))) rfl
theorem nz_w587 : (Jvm.Cond.code ({ cls := "NestFinder", name := "loopsWithArcs", desc := "(II)I" } : Jvm.MethodName) prog_1_method_28_code (3 : Nat) (Option.some Jvm.ClassFile.FieldType.int)) ∈ nz_G := nz_inG (List.mem_append_right _ (List.mem_of_getElem? (i := 529) (by decide +kernel))) rfl
theorem nz_w588 : (Jvm.Cond.methodLink "NestFinder" (241 : Nat) ({ cls := "NestFinder", name := "surveyWithArcs", desc := "(II)V" } : Jvm.MethodName)) ∈ nz_G := nz_inG (List.mem_append_right _ (List.mem_of_getElem? (i := 530) (by decide +kernel))) rfl
theorem nz_w590 : (Jvm.Cond.instanceMethod ({ cls := "NestFinder", name := "surveyWithArcs", desc := "(II)V" } : Jvm.MethodName)) ∈ nz_G := nz_inG (List.mem_append_right _ (List.mem_of_getElem? (i := 532) (by decide +kernel))) rfl
theorem nz_w591 : (Jvm.Cond.code ({ cls := "NestFinder", name := "surveyWithArcs", desc := "(II)V" } : Jvm.MethodName) prog_1_method_29_code (3 : Nat) (Option.none : Option Jvm.ClassFile.FieldType)) ∈ nz_G := nz_inG (List.mem_append_right _ (List.mem_of_getElem? (i := 533) (by decide +kernel))) rfl
theorem nz_w592 : (Jvm.Cond.methodLink "NestFinder" (245 : Nat) ({ cls := "NestFinder$Graph", name := "keepArcs", desc := "(II)V" } : Jvm.MethodName)) ∈ nz_G := nz_inG (List.mem_append_right _ (List.mem_of_getElem? (i := 534) (by decide +kernel))) rfl
theorem nz_w593 : (Jvm.Cond.methodLink "NestFinder" (237 : Nat) ({ cls := "NestFinder", name := "inLeastTerms", desc := "(IIZ)I" } : Jvm.MethodName)) ∈ nz_G := nz_inG (List.mem_append_right _ (List.mem_of_getElem? (i := 535) (by decide +kernel))) rfl
theorem nz_w594 : (Jvm.Cond.static ({ cls := "NestFinder", name := "inLeastTerms", desc := "(IIZ)I" } : Jvm.MethodName)) ∈ nz_G := nz_inG (List.mem_append_right _ (List.mem_of_getElem? (i := 536) (by decide +kernel))) rfl
theorem nz_w595 : (Jvm.Cond.code ({ cls := "NestFinder", name := "inLeastTerms", desc := "(IIZ)I" } : Jvm.MethodName) prog_1_method_45_code (5 : Nat) (Option.some Jvm.ClassFile.FieldType.int)) ∈ nz_G := nz_inG (List.mem_append_right _ (List.mem_of_getElem? (i := 537) (by decide +kernel))) rfl
theorem nz_w596 : (Jvm.Cond.methodLink "NestFinder" (285 : Nat) ({ cls := "java/lang/Math", name := "abs", desc := "(I)I" } : Jvm.MethodName)) ∈ nz_G := nz_inG (List.mem_append_right _ (List.mem_of_getElem? (i := 538) (by decide +kernel))) rfl
theorem nz_w597 : (Jvm.Cond.static ({ cls := "java/lang/Math", name := "abs", desc := "(I)I" } : Jvm.MethodName)) ∈ nz_G := nz_inG (List.mem_append_right _ (List.mem_of_getElem? (i := 539) (by decide +kernel))) rfl
theorem nz_w598 : (Jvm.Cond.code ({ cls := "java/lang/Math", name := "abs", desc := "(I)I" } : Jvm.MethodName) prog_12_method_59_code (1 : Nat) (Option.some Jvm.ClassFile.FieldType.int)) ∈ nz_G := nz_inG (List.mem_append_right _ (List.mem_of_getElem? (i := 540) (by decide +kernel))) rfl
theorem nz_w599 : (Jvm.Cond.methodLink "NestFinder" (290 : Nat) ({ cls := "NestFinder", name := "greatestDivisor", desc := "(II)I" } : Jvm.MethodName)) ∈ nz_G := nz_inG (List.mem_append_right _ (List.mem_of_getElem? (i := 541) (by decide +kernel))) rfl
theorem nz_w600 : (Jvm.Cond.static ({ cls := "NestFinder", name := "greatestDivisor", desc := "(II)I" } : Jvm.MethodName)) ∈ nz_G := nz_inG (List.mem_append_right _ (List.mem_of_getElem? (i := 542) (by decide +kernel))) rfl
theorem nz_w601 : (Jvm.Cond.code ({ cls := "NestFinder", name := "greatestDivisor", desc := "(II)I" } : Jvm.MethodName) prog_1_method_46_code (4 : Nat) (Option.some Jvm.ClassFile.FieldType.int)) ∈ nz_G := nz_inG (List.mem_append_right _ (List.mem_of_getElem? (i := 543) (by decide +kernel))) rfl
theorem nz_w602 : (Jvm.Cond.methodLink "NestFinderLaw" (89 : Nat) ({ cls := "NestFinder", name := "see", desc := "(III)I" } : Jvm.MethodName)) ∈ nz_G := nz_inG (List.mem_append_right _ (List.mem_of_getElem? (i := 544) (by decide +kernel))) rfl
theorem nz_w603 : (Jvm.Cond.instanceMethod ({ cls := "NestFinder", name := "see", desc := "(III)I" } : Jvm.MethodName)) ∈ nz_G := nz_inG (List.mem_append_right _ (List.mem_of_getElem? (i := 545) (by decide +kernel))) rfl
theorem nz_w604 : (Jvm.Cond.selects "NestFinder" ({ cls := "NestFinder", name := "see", desc := "(III)I" } : Jvm.MethodName) ({ cls := "NestFinder", name := "see", desc := "(III)I" } : Jvm.MethodName)) ∈ nz_G := nz_inG (List.mem_append_right _ (List.mem_of_getElem? (i := 546) (by decide +kernel))) rfl
theorem nz_w605 : (Jvm.Cond.code ({ cls := "NestFinder", name := "see", desc := "(III)I" } : Jvm.MethodName) prog_1_method_30_code (4 : Nat) (Option.some Jvm.ClassFile.FieldType.int)) ∈ nz_G := nz_inG (List.mem_append_right _ (List.mem_of_getElem? (i := 547) (by decide +kernel))) rfl
theorem nz_w606 : (Jvm.Cond.methodLink "NestFinder" (248 : Nat) ({ cls := "NestFinder$Sights", name := "append", desc := "(III)I" } : Jvm.MethodName)) ∈ nz_G := nz_inG (List.mem_append_right _ (List.mem_of_getElem? (i := 548) (by decide +kernel))) rfl
theorem nz_w607 : (Jvm.Cond.instanceMethod ({ cls := "NestFinder$Sights", name := "append", desc := "(III)I" } : Jvm.MethodName)) ∈ nz_G := nz_inG (List.mem_append_right _ (List.mem_of_getElem? (i := 549) (by decide +kernel))) rfl
theorem nz_w608 : (Jvm.Cond.selects "NestFinder$Sights" ({ cls := "NestFinder$Sights", name := "append", desc := "(III)I" } : Jvm.MethodName) ({ cls := "NestFinder$Sights", name := "append", desc := "(III)I" } : Jvm.MethodName)) ∈ nz_G := nz_inG (List.mem_append_right _ (List.mem_of_getElem? (i := 550) (by decide +kernel))) rfl
theorem nz_w609 : (Jvm.Cond.code ({ cls := "NestFinder$Sights", name := "append", desc := "(III)I" } : Jvm.MethodName) prog_5_method_2_code (4 : Nat) (Option.some Jvm.ClassFile.FieldType.int)) ∈ nz_G := nz_inG (List.mem_append_right _ (List.mem_of_getElem? (i := 551) (by decide +kernel))) rfl
theorem nz_w610 : (Jvm.Cond.methodLink "NestFinderLaw" (93 : Nat) ({ cls := "NestFinder", name := "unsee", desc := "()I" } : Jvm.MethodName)) ∈ nz_G := nz_inG (List.mem_append_right _ (List.mem_of_getElem? (i := 552) (by decide +kernel))) rfl
theorem nz_w611 : (Jvm.Cond.instanceMethod ({ cls := "NestFinder", name := "unsee", desc := "()I" } : Jvm.MethodName)) ∈ nz_G := nz_inG (List.mem_append_right _ (List.mem_of_getElem? (i := 553) (by decide +kernel))) rfl
theorem nz_w612 : (Jvm.Cond.selects "NestFinder" ({ cls := "NestFinder", name := "unsee", desc := "()I" } : Jvm.MethodName) ({ cls := "NestFinder", name := "unsee", desc := "()I" } : Jvm.MethodName)) ∈ nz_G := nz_inG (List.mem_append_right _ (List.mem_of_getElem? (i := 554) (by decide +kernel))) rfl
theorem nz_w613 : (Jvm.Cond.code ({ cls := "NestFinder", name := "unsee", desc := "()I" } : Jvm.MethodName) prog_1_method_31_code (1 : Nat) (Option.some Jvm.ClassFile.FieldType.int)) ∈ nz_G := nz_inG (List.mem_append_right _ (List.mem_of_getElem? (i := 555) (by decide +kernel))) rfl
theorem nz_w614 : (Jvm.Cond.methodLink "NestFinder" (251 : Nat) ({ cls := "NestFinder$Sights", name := "clear", desc := "()I" } : Jvm.MethodName)) ∈ nz_G := nz_inG (List.mem_append_right _ (List.mem_of_getElem? (i := 556) (by decide +kernel))) rfl
theorem nz_w615 : (Jvm.Cond.instanceMethod ({ cls := "NestFinder$Sights", name := "clear", desc := "()I" } : Jvm.MethodName)) ∈ nz_G := nz_inG (List.mem_append_right _ (List.mem_of_getElem? (i := 557) (by decide +kernel))) rfl
theorem nz_w616 : (Jvm.Cond.selects "NestFinder$Sights" ({ cls := "NestFinder$Sights", name := "clear", desc := "()I" } : Jvm.MethodName) ({ cls := "NestFinder$Sights", name := "clear", desc := "()I" } : Jvm.MethodName)) ∈ nz_G := nz_inG (List.mem_append_right _ (List.mem_of_getElem? (i := 558) (by decide +kernel))) rfl
theorem nz_w617 : (Jvm.Cond.code ({ cls := "NestFinder$Sights", name := "clear", desc := "()I" } : Jvm.MethodName) prog_5_method_3_code (2 : Nat) (Option.some Jvm.ClassFile.FieldType.int)) ∈ nz_G := nz_inG (List.mem_append_right _ (List.mem_of_getElem? (i := 559) (by decide +kernel))) rfl
theorem nz_w618 : (Jvm.Cond.methodLink "NestFinderLaw" (97 : Nat) ({ cls := "NestFinder", name := "rows", desc := "(I)I" } : Jvm.MethodName)) ∈ nz_G := nz_inG (List.mem_append_right _ (List.mem_of_getElem? (i := 560) (by decide +kernel))) rfl
theorem nz_w619 : (Jvm.Cond.instanceMethod ({ cls := "NestFinder", name := "rows", desc := "(I)I" } : Jvm.MethodName)) ∈ nz_G := nz_inG (List.mem_append_right _ (List.mem_of_getElem? (i := 561) (by decide +kernel))) rfl
theorem nz_w620 : (Jvm.Cond.selects "NestFinder" ({ cls := "NestFinder", name := "rows", desc := "(I)I" } : Jvm.MethodName) ({ cls := "NestFinder", name := "rows", desc := "(I)I" } : Jvm.MethodName)) ∈ nz_G := nz_inG (List.mem_append_right _ (List.mem_of_getElem? (i := 562) (by decide +kernel))) rfl
theorem nz_w621 : (Jvm.Cond.code ({ cls := "NestFinder", name := "rows", desc := "(I)I" } : Jvm.MethodName) prog_1_method_32_code (6 : Nat) (Option.some Jvm.ClassFile.FieldType.int)) ∈ nz_G := nz_inG (List.mem_append_right _ (List.mem_of_getElem? (i := 563) (by decide +kernel))) rfl
theorem nz_w622 : (Jvm.Cond.methodLink "NestFinder" (252 : Nat) ({ cls := "NestFinder", name := "choicesOf", desc := "(I)I" } : Jvm.MethodName)) ∈ nz_G := nz_inG (List.mem_append_right _ (List.mem_of_getElem? (i := 564) (by decide +kernel))) rfl
theorem nz_w623 : (Jvm.Cond.static ({ cls := "NestFinder", name := "choicesOf", desc := "(I)I" } : Jvm.MethodName)) ∈ nz_G := nz_inG (List.mem_append_right _ (List.mem_of_getElem? (i := 565) (by decide +kernel))) rfl
theorem nz_w624 : (Jvm.Cond.code ({ cls := "NestFinder", name := "choicesOf", desc := "(I)I" } : Jvm.MethodName) prog_1_method_33_code (1 : Nat) (Option.some Jvm.ClassFile.FieldType.int)) ∈ nz_G := nz_inG (List.mem_append_right _ (List.mem_of_getElem? (i := 566) (by decide +kernel))) rfl
theorem nz_w625 : (Jvm.Cond.methodLink "NestFinder" (255 : Nat) ({ cls := "NestFinder", name := "agreesWithSights", desc := "(I)Z" } : Jvm.MethodName)) ∈ nz_G := nz_inG (List.mem_append_right _ (List.mem_of_getElem? (i := 567) (by decide +kernel))) rfl
theorem nz_w627 : (Jvm.Cond.instanceMethod ({ cls := "NestFinder", name := "agreesWithSights", desc := "(I)Z" } : Jvm.MethodName)) ∈ nz_G := nz_inG (List.mem_append_right _ (List.mem_of_getElem? (i := 569) (by decide +kernel))) rfl
theorem nz_w628 : (Jvm.Cond.code ({ cls := "NestFinder", name := "agreesWithSights", desc := "(I)Z" } : Jvm.MethodName) prog_1_method_34_code (4 : Nat) (Option.some Jvm.ClassFile.FieldType.boolean)) ∈ nz_G := nz_inG (List.mem_append_right _ (List.mem_of_getElem? (i := 570) (by decide +kernel))) rfl
theorem nz_w629 : (Jvm.Cond.methodLink "NestFinder" (258 : Nat) ({ cls := "NestFinder$Sights", name := "agree", desc := "(II)Z" } : Jvm.MethodName)) ∈ nz_G := nz_inG (List.mem_append_right _ (List.mem_of_getElem? (i := 571) (by decide +kernel))) rfl
theorem nz_w630 : (Jvm.Cond.instanceMethod ({ cls := "NestFinder$Sights", name := "agree", desc := "(II)Z" } : Jvm.MethodName)) ∈ nz_G := nz_inG (List.mem_append_right _ (List.mem_of_getElem? (i := 572) (by decide +kernel))) rfl
theorem nz_w631 : (Jvm.Cond.selects "NestFinder$Sights" ({ cls := "NestFinder$Sights", name := "agree", desc := "(II)Z" } : Jvm.MethodName) ({ cls := "NestFinder$Sights", name := "agree", desc := "(II)Z" } : Jvm.MethodName)) ∈ nz_G := nz_inG (List.mem_append_right _ (List.mem_of_getElem? (i := 573) (by decide +kernel))) rfl
theorem nz_w632 : (Jvm.Cond.code ({ cls := "NestFinder$Sights", name := "agree", desc := "(II)Z" } : Jvm.MethodName) prog_5_method_4_code (4 : Nat) (Option.some Jvm.ClassFile.FieldType.boolean)) ∈ nz_G := nz_inG (List.mem_append_right _ (List.mem_of_getElem? (i := 574) (by decide +kernel))) rfl
theorem nz_w633 : (Jvm.Cond.methodLink "NestFinderLaw" (101 : Nat) ({ cls := "NestFinder", name := "torn", desc := "(IIZ)I" } : Jvm.MethodName)) ∈ nz_G := nz_inG (List.mem_append_right _ (List.mem_of_getElem? (i := 575) (by decide +kernel))) rfl
theorem nz_w634 : (Jvm.Cond.instanceMethod ({ cls := "NestFinder", name := "torn", desc := "(IIZ)I" } : Jvm.MethodName)) ∈ nz_G := nz_inG (List.mem_append_right _ (List.mem_of_getElem? (i := 576) (by decide +kernel))) rfl
theorem nz_w635 : (Jvm.Cond.selects "NestFinder" ({ cls := "NestFinder", name := "torn", desc := "(IIZ)I" } : Jvm.MethodName) ({ cls := "NestFinder", name := "torn", desc := "(IIZ)I" } : Jvm.MethodName)) ∈ nz_G := nz_inG (List.mem_append_right _ (List.mem_of_getElem? (i := 577) (by decide +kernel))) rfl
theorem nz_w636 : (Jvm.Cond.code ({ cls := "NestFinder", name := "torn", desc := "(IIZ)I" } : Jvm.MethodName) prog_1_method_35_code (8 : Nat) (Option.some Jvm.ClassFile.FieldType.int)) ∈ nz_G := nz_inG (List.mem_append_right _ (List.mem_of_getElem? (i := 578) (by decide +kernel))) rfl
theorem nz_w637 : (Jvm.Cond.methodLink "NestFinder" (261 : Nat) ({ cls := "NestFinder", name := "power", desc := "(II)I" } : Jvm.MethodName)) ∈ nz_G := nz_inG (List.mem_append_right _ (List.mem_of_getElem? (i := 579) (by decide +kernel))) rfl
theorem nz_w638 : (Jvm.Cond.static ({ cls := "NestFinder", name := "power", desc := "(II)I" } : Jvm.MethodName)) ∈ nz_G := nz_inG (List.mem_append_right _ (List.mem_of_getElem? (i := 580) (by decide +kernel))) rfl
theorem nz_w639 : (Jvm.Cond.code ({ cls := "NestFinder", name := "power", desc := "(II)I" } : Jvm.MethodName) prog_1_method_43_code (4 : Nat) (Option.some Jvm.ClassFile.FieldType.int)) ∈ nz_G := nz_inG (List.mem_append_right _ (List.mem_of_getElem? (i := 581) (by decide +kernel))) rfl
theorem nz_w640 : (Jvm.Cond.methodLink "NestFinderLaw" (105 : Nat) ({ cls := "NestFinder", name := "seed", desc := "(J)J" } : Jvm.MethodName)) ∈ nz_G := nz_inG (List.mem_append_right _ (List.mem_of_getElem? (i := 582) (by decide +kernel))) rfl
theorem nz_w641 : (Jvm.Cond.instanceMethod ({ cls := "NestFinder", name := "seed", desc := "(J)J" } : Jvm.MethodName)) ∈ nz_G := nz_inG (List.mem_append_right _ (List.mem_of_getElem? (i := 583) (by decide +kernel))) rfl
theorem nz_w642 : (Jvm.Cond.selects "NestFinder" ({ cls := "NestFinder", name := "seed", desc := "(J)J" } : Jvm.MethodName) ({ cls := "NestFinder", name := "seed", desc := "(J)J" } : Jvm.MethodName)) ∈ nz_G := nz_inG (List.mem_append_right _ (List.mem_of_getElem? (i := 584) (by decide +kernel))) rfl
theorem nz_w643 : (Jvm.Cond.code ({ cls := "NestFinder", name := "seed", desc := "(J)J" } : Jvm.MethodName) prog_1_method_36_code (5 : Nat) (Option.some Jvm.ClassFile.FieldType.long)) ∈ nz_G := nz_inG (List.mem_append_right _ (List.mem_of_getElem? (i := 585) (by decide +kernel))) rfl
theorem nz_w644 : (Jvm.Cond.methodLink "NestFinderLaw" (110 : Nat) ({ cls := "NestFinder", name := "drawn", desc := "(I)I" } : Jvm.MethodName)) ∈ nz_G := nz_inG (List.mem_append_right _ (List.mem_of_getElem? (i := 586) (by decide +kernel))) rfl
theorem nz_w645 : (Jvm.Cond.instanceMethod ({ cls := "NestFinder", name := "drawn", desc := "(I)I" } : Jvm.MethodName)) ∈ nz_G := nz_inG (List.mem_append_right _ (List.mem_of_getElem? (i := 587) (by decide +kernel))) rfl
theorem nz_w646 : (Jvm.Cond.selects "NestFinder" ({ cls := "NestFinder", name := "drawn", desc := "(I)I" } : Jvm.MethodName) ({ cls := "NestFinder", name := "drawn", desc := "(I)I" } : Jvm.MethodName)) ∈ nz_G := nz_inG (List.mem_append_right _ (List.mem_of_getElem? (i := 588) (by decide +kernel))) rfl
theorem nz_w647 : (Jvm.Cond.code ({ cls := "NestFinder", name := "drawn", desc := "(I)I" } : Jvm.MethodName) prog_1_method_37_code (4 : Nat) (Option.some Jvm.ClassFile.FieldType.int)) ∈ nz_G := nz_inG (List.mem_append_right _ (List.mem_of_getElem? (i := 589) (by decide +kernel))) rfl
theorem nz_w648 : (Jvm.Cond.constantLong "NestFinder" (264 : Nat) (6364136223846793005 : Int64)) ∈ nz_G := nz_inG (List.mem_append_right _ (List.mem_of_getElem? (i := 590) (by decide +kernel))) rfl
theorem nz_w649 : (Jvm.Cond.constantLong "NestFinder" (266 : Nat) (1442695040888963407 : Int64)) ∈ nz_G := nz_inG (List.mem_append_right _ (List.mem_of_getElem? (i := 591) (by decide +kernel))) rfl
theorem nz_w650 : (Jvm.Cond.methodLink "NestFinder" (268 : Nat) ({ cls := "NestFinder", name := "changeByDraw", desc := "(I)V" } : Jvm.MethodName)) ∈ nz_G := nz_inG (List.mem_append_right _ (List.mem_of_getElem? (i := 592) (by decide +kernel))) rfl
theorem nz_w652 : (Jvm.Cond.instanceMethod ({ cls := "NestFinder", name := "changeByDraw", desc := "(I)V" } : Jvm.MethodName)) ∈ nz_G := nz_inG (List.mem_append_right _ (List.mem_of_getElem? (i := 594) (by decide +kernel))) rfl
theorem nz_w653 : (Jvm.Cond.code ({ cls := "NestFinder", name := "changeByDraw", desc := "(I)V" } : Jvm.MethodName) prog_1_method_38_code (4 : Nat) (Option.none : Option Jvm.ClassFile.FieldType)) ∈ nz_G := nz_inG (List.mem_append_right _ (List.mem_of_getElem? (i := 595) (by decide +kernel))) rfl
theorem nz_w654 : (Jvm.Cond.methodLink "NestFinderLaw" (114 : Nat) ({ cls := "NestFinder", name := "keep", desc := "(I)I" } : Jvm.MethodName)) ∈ nz_G := nz_inG (List.mem_append_right _ (List.mem_of_getElem? (i := 596) (by decide +kernel))) rfl
theorem nz_w655 : (Jvm.Cond.instanceMethod ({ cls := "NestFinder", name := "keep", desc := "(I)I" } : Jvm.MethodName)) ∈ nz_G := nz_inG (List.mem_append_right _ (List.mem_of_getElem? (i := 597) (by decide +kernel))) rfl
theorem nz_w656 : (Jvm.Cond.selects "NestFinder" ({ cls := "NestFinder", name := "keep", desc := "(I)I" } : Jvm.MethodName) ({ cls := "NestFinder", name := "keep", desc := "(I)I" } : Jvm.MethodName)) ∈ nz_G := nz_inG (List.mem_append_right _ (List.mem_of_getElem? (i := 598) (by decide +kernel))) rfl
theorem nz_w657 : (Jvm.Cond.code ({ cls := "NestFinder", name := "keep", desc := "(I)I" } : Jvm.MethodName) prog_1_method_39_code (2 : Nat) (Option.some Jvm.ClassFile.FieldType.int)) ∈ nz_G := nz_inG (List.mem_append_right _ (List.mem_of_getElem? (i := 599) (by decide +kernel))) rfl
theorem nz_w658 : (Jvm.Cond.methodLink "NestFinder" (272 : Nat) ({ cls := "NestFinder$Slots", name := "store", desc := "(ILNestFinder$Graph;)V" } : Jvm.MethodName)) ∈ nz_G := nz_inG (List.mem_append_right _ (List.mem_of_getElem? (i := 600) (by decide +kernel))) rfl
theorem nz_w659 : (Jvm.Cond.instanceMethod ({ cls := "NestFinder$Slots", name := "store", desc := "(ILNestFinder$Graph;)V" } : Jvm.MethodName)) ∈ nz_G := nz_inG (List.mem_append_right _ (List.mem_of_getElem? (i := 601) (by decide +kernel))) rfl
theorem nz_w660 : (Jvm.Cond.selects "NestFinder$Slots" ({ cls := "NestFinder$Slots", name := "store", desc := "(ILNestFinder$Graph;)V" } : Jvm.MethodName) ({ cls := "NestFinder$Slots", name := "store", desc := "(ILNestFinder$Graph;)V" } : Jvm.MethodName)) ∈ nz_G := nz_inG (List.mem_append_right _ (List.mem_of_getElem? (i := 602) (by decide +kernel))) rfl
theorem nz_w661 : (Jvm.Cond.code ({ cls := "NestFinder$Slots", name := "store", desc := "(ILNestFinder$Graph;)V" } : Jvm.MethodName) prog_6_method_3_code (3 : Nat) (Option.none : Option Jvm.ClassFile.FieldType)) ∈ nz_G := nz_inG (List.mem_append_right _ (List.mem_of_getElem? (i := 603) (by decide +kernel))) rfl
theorem nz_w662 : (Jvm.Cond.methodLink "NestFinder$Slots" (24 : Nat) ({ cls := "NestFinder$Shelf", name := "store", desc := "(ILNestFinder$Graph;)V" } : Jvm.MethodName)) ∈ nz_G := nz_inG (List.mem_append_right _ (List.mem_of_getElem? (i := 604) (by decide +kernel))) rfl
theorem nz_w663 : (Jvm.Cond.methodLink "NestFinderLaw" (118 : Nat) ({ cls := "NestFinder", name := "again", desc := "(I)I" } : Jvm.MethodName)) ∈ nz_G := nz_inG (List.mem_append_right _ (List.mem_of_getElem? (i := 605) (by decide +kernel))) rfl
theorem nz_w664 : (Jvm.Cond.instanceMethod ({ cls := "NestFinder", name := "again", desc := "(I)I" } : Jvm.MethodName)) ∈ nz_G := nz_inG (List.mem_append_right _ (List.mem_of_getElem? (i := 606) (by decide +kernel))) rfl
theorem nz_w665 : (Jvm.Cond.selects "NestFinder" ({ cls := "NestFinder", name := "again", desc := "(I)I" } : Jvm.MethodName) ({ cls := "NestFinder", name := "again", desc := "(I)I" } : Jvm.MethodName)) ∈ nz_G := nz_inG (List.mem_append_right _ (List.mem_of_getElem? (i := 607) (by decide +kernel))) rfl
theorem nz_w666 : (Jvm.Cond.code ({ cls := "NestFinder", name := "again", desc := "(I)I" } : Jvm.MethodName) prog_1_method_40_code (2 : Nat) (Option.some Jvm.ClassFile.FieldType.int)) ∈ nz_G := nz_inG (List.mem_append_right _ (List.mem_of_getElem? (i := 608) (by decide +kernel))) rfl
theorem nz_w667 : (Jvm.Cond.methodLink "NestFinder" (280 : Nat) ({ cls := "NestFinder$Slots", name := "bringBack", desc := "(ILNestFinder$Graph;)V" } : Jvm.MethodName)) ∈ nz_G := nz_inG (List.mem_append_right _ (List.mem_of_getElem? (i := 609) (by decide +kernel))) rfl
theorem nz_w668 : (Jvm.Cond.instanceMethod ({ cls := "NestFinder$Slots", name := "bringBack", desc := "(ILNestFinder$Graph;)V" } : Jvm.MethodName)) ∈ nz_G := nz_inG (List.mem_append_right _ (List.mem_of_getElem? (i := 610) (by decide +kernel))) rfl
theorem nz_w669 : (Jvm.Cond.selects "NestFinder$Slots" ({ cls := "NestFinder$Slots", name := "bringBack", desc := "(ILNestFinder$Graph;)V" } : Jvm.MethodName) ({ cls := "NestFinder$Slots", name := "bringBack", desc := "(ILNestFinder$Graph;)V" } : Jvm.MethodName)) ∈ nz_G := nz_inG (List.mem_append_right _ (List.mem_of_getElem? (i := 611) (by decide +kernel))) rfl
theorem nz_w670 : (Jvm.Cond.code ({ cls := "NestFinder$Slots", name := "bringBack", desc := "(ILNestFinder$Graph;)V" } : Jvm.MethodName) prog_6_method_4_code (3 : Nat) (Option.none : Option Jvm.ClassFile.FieldType)) ∈ nz_G := nz_inG (List.mem_append_right _ (List.mem_of_getElem? (i := 612) (by decide +kernel))) rfl
theorem nz_w671 : (Jvm.Cond.methodLink "NestFinder$Slots" (28 : Nat) ({ cls := "NestFinder$Shelf", name := "bringBack", desc := "(ILNestFinder$Graph;)V" } : Jvm.MethodName)) ∈ nz_G := nz_inG (List.mem_append_right _ (List.mem_of_getElem? (i := 613) (by decide +kernel))) rfl
theorem nz_w672 : (Jvm.Cond.classLink "NestFinderLaw" (10 : Nat) "NestFinderModel") ∈ nz_G := nz_inG (List.mem_append_right _ (List.mem_of_getElem? (i := 614) (by decide +kernel))) rfl
theorem nz_w673 : (Jvm.Cond.instantiable "NestFinderModel" (28 : Nat)) ∈ nz_G := nz_inG (List.mem_append_right _ (List.mem_of_getElem? (i := 615) (by decide +kernel))) rfl
theorem nz_w674 : (Jvm.Cond.methodLink "NestFinderLaw" (12 : Nat) ({ cls := "NestFinderModel", name := "<init>", desc := "()V" } : Jvm.MethodName)) ∈ nz_G := nz_inG (List.mem_append_right _ (List.mem_of_getElem? (i := 616) (by decide +kernel))) rfl
theorem nz_w675 : (Jvm.Cond.instanceMethod ({ cls := "NestFinderModel", name := "<init>", desc := "()V" } : Jvm.MethodName)) ∈ nz_G := nz_inG (List.mem_append_right _ (List.mem_of_getElem? (i := 617) (by decide +kernel))) rfl
theorem nz_w676 : (Jvm.Cond.code ({ cls := "NestFinderModel", name := "<init>", desc := "()V" } : Jvm.MethodName) prog_10_method_1_code (1 : Nat) (Option.none : Option Jvm.ClassFile.FieldType)) ∈ nz_G := nz_inG (List.mem_append_right _ (List.mem_of_getElem? (i := 618) (by decide +kernel))) rfl
theorem nz_w677 : (Jvm.Cond.methodLink "NestFinderModel" (1 : Nat) ({ cls := "java/lang/Object", name := "<init>", desc := "()V" } : Jvm.MethodName)) ∈ nz_G := nz_inG (List.mem_append_right _ (List.mem_of_getElem? (i := 619) (by decide +kernel))) rfl
theorem nz_w678 : (Jvm.Cond.fieldLink "NestFinderModel" (68 : Nat) "NestFinderModel" "thrown" "I") ∈ nz_G := nz_inG (List.mem_append_right _ (List.mem_of_getElem? (i := 620) (by decide +kernel))) rfl
theorem nz_w679 : (Jvm.Cond.fieldLink "NestFinderModel" (7 : Nat) "NestFinderModel" "text" "[I") ∈ nz_G := nz_inG (List.mem_append_right _ (List.mem_of_getElem? (i := 621) (by decide +kernel))) rfl
theorem nz_w680 : (Jvm.Cond.fieldLink "NestFinderModel" (82 : Nat) "NestFinderModel" "textSize" "I") ∈ nz_G := nz_inG (List.mem_append_right _ (List.mem_of_getElem? (i := 622) (by decide +kernel))) rfl
theorem nz_w681 : (Jvm.Cond.fieldLink "NestFinderModel" (85 : Nat) "NestFinderModel" "place" "I") ∈ nz_G := nz_inG (List.mem_append_right _ (List.mem_of_getElem? (i := 623) (by decide +kernel))) rfl
theorem nz_w682 : (Jvm.Cond.fieldLink "NestFinderModel" (13 : Nat) "NestFinderModel" "readPage" "[I") ∈ nz_G := nz_inG (List.mem_append_right _ (List.mem_of_getElem? (i := 624) (by decide +kernel))) rfl
theorem nz_w683 : (Jvm.Cond.fieldLink "NestFinderModel" (16 : Nat) "NestFinderModel" "page" "[I") ∈ nz_G := nz_inG (List.mem_append_right _ (List.mem_of_getElem? (i := 625) (by decide +kernel))) rfl
theorem nz_w684 : (Jvm.Cond.fieldLink "NestFinderModel" (19 : Nat) "NestFinderModel" "trial" "[I") ∈ nz_G := nz_inG (List.mem_append_right _ (List.mem_of_getElem? (i := 626) (by decide +kernel))) rfl
theorem nz_w685 : (Jvm.Cond.fieldLink "NestFinderModel" (22 : Nat) "NestFinderModel" "book" "[I") ∈ nz_G := nz_inG (List.mem_append_right _ (List.mem_of_getElem? (i := 627) (by decide +kernel))) rfl
theorem nz_w686 : (Jvm.Cond.fieldLink "NestFinderModel" (106 : Nat) "NestFinderModel" "doings" "I") ∈ nz_G := nz_inG (List.mem_append_right _ (List.mem_of_getElem? (i := 628) (by decide +kernel))) rfl
theorem nz_w687 : (Jvm.Cond.fieldLink "NestFinderModel" (25 : Nat) "NestFinderModel" "kept" "[I") ∈ nz_G := nz_inG (List.mem_append_right _ (List.mem_of_getElem? (i := 629) (by decide +kernel))) rfl
theorem nz_w688 : (Jvm.Cond.fieldLink "NestFinderModel" (28 : Nat) "NestFinderModel" "isKept" "[Z") ∈ nz_G := nz_inG (List.mem_append_right _ (List.mem_of_getElem? (i := 630) (by decide +kernel))) rfl
theorem nz_w689 : (Jvm.Cond.fieldLink "NestFinderModel" (176 : Nat) "NestFinderModel" "seen" "I") ∈ nz_G := nz_inG (List.mem_append_right _ (List.mem_of_getElem? (i := 631) (by decide +kernel))) rfl
theorem nz_w690 : (Jvm.Cond.fieldLink "NestFinderModel" (32 : Nat) "NestFinderModel" "seenWhen" "[I") ∈ nz_G := nz_inG (List.mem_append_right _ (List.mem_of_getElem? (i := 632) (by decide +kernel))) rfl
theorem nz_w691 : (Jvm.Cond.fieldLink "NestFinderModel" (35 : Nat) "NestFinderModel" "seenLetter" "[I") ∈ nz_G := nz_inG (List.mem_append_right _ (List.mem_of_getElem? (i := 633) (by decide +kernel))) rfl
theorem nz_w692 : (Jvm.Cond.fieldLink "NestFinderModel" (38 : Nat) "NestFinderModel" "seenIs" "[I") ∈ nz_G := nz_inG (List.mem_append_right _ (List.mem_of_getElem? (i := 634) (by decide +kernel))) rfl
theorem nz_w693 : (Jvm.Cond.fieldLink "NestFinderModel" (287 : Nat) "NestFinderModel" "seed" "J") ∈ nz_G := nz_inG (List.mem_append_right _ (List.mem_of_getElem? (i := 635) (by decide +kernel))) rfl
theorem nz_w694 : (Jvm.Cond.fieldLink "NestFinderModel" (109 : Nat) "NestFinderModel" "orders" "I") ∈ nz_G := nz_inG (List.mem_append_right _ (List.mem_of_getElem? (i := 636) (by decide +kernel))) rfl
theorem nz_w695 : (Jvm.Cond.fieldLink "NestFinderModel" (41 : Nat) "NestFinderModel" "order" "[I") ∈ nz_G := nz_inG (List.mem_append_right _ (List.mem_of_getElem? (i := 637) (by decide +kernel))) rfl
theorem nz_w696 : (Jvm.Cond.fieldLink "NestFinderModel" (44 : Nat) "NestFinderModel" "last" "[I") ∈ nz_G := nz_inG (List.mem_append_right _ (List.mem_of_getElem? (i := 638) (by decide +kernel))) rfl
theorem nz_w697 : (Jvm.Cond.fieldLink "NestFinderModel" (47 : Nat) "NestFinderModel" "stack" "[I") ∈ nz_G := nz_inG (List.mem_append_right _ (List.mem_of_getElem? (i := 639) (by decide +kernel))) rfl
theorem nz_w698 : (Jvm.Cond.fieldLink "NestFinderModel" (50 : Nat) "NestFinderModel" "next" "[I") ∈ nz_G := nz_inG (List.mem_append_right _ (List.mem_of_getElem? (i := 640) (by decide +kernel))) rfl
theorem nz_w699 : (Jvm.Cond.fieldLink "NestFinderModel" (53 : Nat) "NestFinderModel" "header" "[I") ∈ nz_G := nz_inG (List.mem_append_right _ (List.mem_of_getElem? (i := 641) (by decide +kernel))) rfl
theorem nz_w700 : (Jvm.Cond.fieldLink "NestFinderModel" (56 : Nat) "NestFinderModel" "kind" "[I") ∈ nz_G := nz_inG (List.mem_append_right _ (List.mem_of_getElem? (i := 642) (by decide +kernel))) rfl
theorem nz_w701 : (Jvm.Cond.fieldLink "NestFinderModel" (59 : Nat) "NestFinderModel" "entries" "[I") ∈ nz_G := nz_inG (List.mem_append_right _ (List.mem_of_getElem? (i := 643) (by decide +kernel))) rfl
theorem nz_w702 : (Jvm.Cond.fieldLink "NestFinderModel" (62 : Nat) "NestFinderModel" "part" "[I") ∈ nz_G := nz_inG (List.mem_append_right _ (List.mem_of_getElem? (i := 644) (by decide +kernel))) rfl
theorem nz_w703 : (Jvm.Cond.fieldLink "NestFinderModel" (273 : Nat) "NestFinderModel" "rowMany" "I") ∈ nz_G := nz_inG (List.mem_append_right _ (List.mem_of_getElem? (i := 645) (by decide +kernel))) rfl
end
section
theorem nz_w704 : (Jvm.Cond.fieldLink "NestFinderModel" (276 : Nat) "NestFinderModel" "rowFirst" "I") ∈ nz_G := nz_inG (List.mem_append_right _ (List.mem_of_getElem? (i := 646) (by decide +kernel))) rfl
theorem nz_w705 : (Jvm.Cond.fieldLink "NestFinderModel" (65 : Nat) "NestFinderModel" "value" "[I") ∈ nz_G := nz_inG (List.mem_append_right _ (List.mem_of_getElem? (i := 647) (by decide +kernel))) rfl
theorem nz_w706 : (Jvm.Cond.lays "NestFinderModel" "NestFinderModel" "thrown" "I") ∈ nz_G := nz_inG (List.mem_append_right _ (List.mem_of_getElem? (i := 648) (by decide +kernel))) rfl
theorem nz_w708 : (Jvm.Cond.laysFinal "NestFinderModel" "NestFinderModel" "text" "[I") ∈ nz_G := nz_inG (List.mem_append_right _ (List.mem_of_getElem? (i := 650) (by decide +kernel))) rfl
theorem nz_w710 : (Jvm.Cond.lays "NestFinderModel" "NestFinderModel" "textSize" "I") ∈ nz_G := nz_inG (List.mem_append_right _ (List.mem_of_getElem? (i := 652) (by decide +kernel))) rfl
theorem nz_w712 : (Jvm.Cond.lays "NestFinderModel" "NestFinderModel" "place" "I") ∈ nz_G := nz_inG (List.mem_append_right _ (List.mem_of_getElem? (i := 654) (by decide +kernel))) rfl
theorem nz_w714 : (Jvm.Cond.laysFinal "NestFinderModel" "NestFinderModel" "readPage" "[I") ∈ nz_G := nz_inG (List.mem_append_right _ (List.mem_of_getElem? (i := 656) (by decide +kernel))) rfl
theorem nz_w716 : (Jvm.Cond.laysFinal "NestFinderModel" "NestFinderModel" "page" "[I") ∈ nz_G := nz_inG (List.mem_append_right _ (List.mem_of_getElem? (i := 658) (by decide +kernel))) rfl
theorem nz_w718 : (Jvm.Cond.laysFinal "NestFinderModel" "NestFinderModel" "trial" "[I") ∈ nz_G := nz_inG (List.mem_append_right _ (List.mem_of_getElem? (i := 660) (by decide +kernel))) rfl
theorem nz_w720 : (Jvm.Cond.laysFinal "NestFinderModel" "NestFinderModel" "book" "[I") ∈ nz_G := nz_inG (List.mem_append_right _ (List.mem_of_getElem? (i := 662) (by decide +kernel))) rfl
theorem nz_w722 : (Jvm.Cond.lays "NestFinderModel" "NestFinderModel" "doings" "I") ∈ nz_G := nz_inG (List.mem_append_right _ (List.mem_of_getElem? (i := 664) (by decide +kernel))) rfl
theorem nz_w724 : (Jvm.Cond.laysFinal "NestFinderModel" "NestFinderModel" "kept" "[I") ∈ nz_G := nz_inG (List.mem_append_right _ (List.mem_of_getElem? (i := 666) (by decide +kernel))) rfl
theorem nz_w726 : (Jvm.Cond.laysFinal "NestFinderModel" "NestFinderModel" "isKept" "[Z") ∈ nz_G := nz_inG (List.mem_append_right _ (List.mem_of_getElem? (i := 668) (by decide +kernel))) rfl
theorem nz_w728 : (Jvm.Cond.lays "NestFinderModel" "NestFinderModel" "seen" "I") ∈ nz_G := nz_inG (List.mem_append_right _ (List.mem_of_getElem? (i := 670) (by decide +kernel))) rfl
theorem nz_w730 : (Jvm.Cond.laysFinal "NestFinderModel" "NestFinderModel" "seenWhen" "[I") ∈ nz_G := nz_inG (List.mem_append_right _ (List.mem_of_getElem? (i := 672) (by decide +kernel))) rfl
theorem nz_w732 : (Jvm.Cond.laysFinal "NestFinderModel" "NestFinderModel" "seenLetter" "[I") ∈ nz_G := nz_inG (List.mem_append_right _ (List.mem_of_getElem? (i := 674) (by decide +kernel))) rfl
theorem nz_w734 : (Jvm.Cond.laysFinal "NestFinderModel" "NestFinderModel" "seenIs" "[I") ∈ nz_G := nz_inG (List.mem_append_right _ (List.mem_of_getElem? (i := 676) (by decide +kernel))) rfl
theorem nz_w736 : (Jvm.Cond.lays "NestFinderModel" "NestFinderModel" "seed" "J") ∈ nz_G := nz_inG (List.mem_append_right _ (List.mem_of_getElem? (i := 678) (by decide +kernel))) rfl
theorem nz_w738 : (Jvm.Cond.lays "NestFinderModel" "NestFinderModel" "orders" "I") ∈ nz_G := nz_inG (List.mem_append_right _ (List.mem_of_getElem? (i := 680) (by decide +kernel))) rfl
theorem nz_w740 : (Jvm.Cond.laysFinal "NestFinderModel" "NestFinderModel" "order" "[I") ∈ nz_G := nz_inG (List.mem_append_right _ (List.mem_of_getElem? (i := 682) (by decide +kernel))) rfl
theorem nz_w742 : (Jvm.Cond.laysFinal "NestFinderModel" "NestFinderModel" "last" "[I") ∈ nz_G := nz_inG (List.mem_append_right _ (List.mem_of_getElem? (i := 684) (by decide +kernel))) rfl
theorem nz_w744 : (Jvm.Cond.laysFinal "NestFinderModel" "NestFinderModel" "stack" "[I") ∈ nz_G := nz_inG (List.mem_append_right _ (List.mem_of_getElem? (i := 686) (by decide +kernel))) rfl
theorem nz_w746 : (Jvm.Cond.laysFinal "NestFinderModel" "NestFinderModel" "next" "[I") ∈ nz_G := nz_inG (List.mem_append_right _ (List.mem_of_getElem? (i := 688) (by decide +kernel))) rfl
theorem nz_w748 : (Jvm.Cond.laysFinal "NestFinderModel" "NestFinderModel" "header" "[I") ∈ nz_G := nz_inG (List.mem_append_right _ (List.mem_of_getElem? (i := 690) (by decide +kernel))) rfl
theorem nz_w750 : (Jvm.Cond.laysFinal "NestFinderModel" "NestFinderModel" "kind" "[I") ∈ nz_G := nz_inG (List.mem_append_right _ (List.mem_of_getElem? (i := 692) (by decide +kernel))) rfl
theorem nz_w752 : (Jvm.Cond.laysFinal "NestFinderModel" "NestFinderModel" "entries" "[I") ∈ nz_G := nz_inG (List.mem_append_right _ (List.mem_of_getElem? (i := 694) (by decide +kernel))) rfl
theorem nz_w754 : (Jvm.Cond.laysFinal "NestFinderModel" "NestFinderModel" "part" "[I") ∈ nz_G := nz_inG (List.mem_append_right _ (List.mem_of_getElem? (i := 696) (by decide +kernel))) rfl
theorem nz_w756 : (Jvm.Cond.lays "NestFinderModel" "NestFinderModel" "rowMany" "I") ∈ nz_G := nz_inG (List.mem_append_right _ (List.mem_of_getElem? (i := 698) (by decide +kernel))) rfl
theorem nz_w758 : (Jvm.Cond.lays "NestFinderModel" "NestFinderModel" "rowFirst" "I") ∈ nz_G := nz_inG (List.mem_append_right _ (List.mem_of_getElem? (i := 700) (by decide +kernel))) rfl
theorem nz_w760 : (Jvm.Cond.laysFinal "NestFinderModel" "NestFinderModel" "value" "[I") ∈ nz_G := nz_inG (List.mem_append_right _ (List.mem_of_getElem? (i := 702) (by decide +kernel))) rfl
theorem nz_w763 : (Jvm.Cond.methodLink "NestFinderLaw" (17 : Nat) ({ cls := "NestFinderModel", name := "write", desc := "(I)I" } : Jvm.MethodName)) ∈ nz_G := nz_inG (List.mem_append_right _ (List.mem_of_getElem? (i := 705) (by decide +kernel))) rfl
theorem nz_w764 : (Jvm.Cond.instanceMethod ({ cls := "NestFinderModel", name := "write", desc := "(I)I" } : Jvm.MethodName)) ∈ nz_G := nz_inG (List.mem_append_right _ (List.mem_of_getElem? (i := 706) (by decide +kernel))) rfl
theorem nz_w765 : (Jvm.Cond.selects "NestFinderModel" ({ cls := "NestFinderModel", name := "write", desc := "(I)I" } : Jvm.MethodName) ({ cls := "NestFinderModel", name := "write", desc := "(I)I" } : Jvm.MethodName)) ∈ nz_G := nz_inG (List.mem_append_right _ (List.mem_of_getElem? (i := 707) (by decide +kernel))) rfl
theorem nz_w766 : (Jvm.Cond.code ({ cls := "NestFinderModel", name := "write", desc := "(I)I" } : Jvm.MethodName) prog_10_method_9_code (2 : Nat) (Option.some Jvm.ClassFile.FieldType.int)) ∈ nz_G := nz_inG (List.mem_append_right _ (List.mem_of_getElem? (i := 708) (by decide +kernel))) rfl
theorem nz_w767 : (Jvm.Cond.constantLong "NestFinderModel" (80 : Nat) (255 : Int64)) ∈ nz_G := nz_inG (List.mem_append_right _ (List.mem_of_getElem? (i := 709) (by decide +kernel))) rfl
theorem nz_w768 : (Jvm.Cond.methodLink "NestFinderModel" (72 : Nat) ({ cls := "NestFinderModel", name := "in", desc := "(JJJ)Z" } : Jvm.MethodName)) ∈ nz_G := nz_inG (List.mem_append_right _ (List.mem_of_getElem? (i := 710) (by decide +kernel))) rfl
theorem nz_w769 : (Jvm.Cond.static ({ cls := "NestFinderModel", name := "in", desc := "(JJJ)Z" } : Jvm.MethodName)) ∈ nz_G := nz_inG (List.mem_append_right _ (List.mem_of_getElem? (i := 711) (by decide +kernel))) rfl
theorem nz_w770 : (Jvm.Cond.code ({ cls := "NestFinderModel", name := "in", desc := "(JJJ)Z" } : Jvm.MethodName) prog_10_method_3_code (6 : Nat) (Option.some Jvm.ClassFile.FieldType.boolean)) ∈ nz_G := nz_inG (List.mem_append_right _ (List.mem_of_getElem? (i := 712) (by decide +kernel))) rfl
theorem nz_w771 : (Jvm.Cond.methodLink "NestFinderLaw" (22 : Nat) ({ cls := "NestFinderModel", name := "wipe", desc := "()I" } : Jvm.MethodName)) ∈ nz_G := nz_inG (List.mem_append_right _ (List.mem_of_getElem? (i := 713) (by decide +kernel))) rfl
theorem nz_w772 : (Jvm.Cond.instanceMethod ({ cls := "NestFinderModel", name := "wipe", desc := "()I" } : Jvm.MethodName)) ∈ nz_G := nz_inG (List.mem_append_right _ (List.mem_of_getElem? (i := 714) (by decide +kernel))) rfl
theorem nz_w773 : (Jvm.Cond.selects "NestFinderModel" ({ cls := "NestFinderModel", name := "wipe", desc := "()I" } : Jvm.MethodName) ({ cls := "NestFinderModel", name := "wipe", desc := "()I" } : Jvm.MethodName)) ∈ nz_G := nz_inG (List.mem_append_right _ (List.mem_of_getElem? (i := 715) (by decide +kernel))) rfl
theorem nz_w774 : (Jvm.Cond.code ({ cls := "NestFinderModel", name := "wipe", desc := "()I" } : Jvm.MethodName) prog_10_method_10_code (2 : Nat) (Option.some Jvm.ClassFile.FieldType.int)) ∈ nz_G := nz_inG (List.mem_append_right _ (List.mem_of_getElem? (i := 716) (by decide +kernel))) rfl
theorem nz_w775 : (Jvm.Cond.methodLink "NestFinderLaw" (26 : Nat) ({ cls := "NestFinderModel", name := "fault", desc := "()I" } : Jvm.MethodName)) ∈ nz_G := nz_inG (List.mem_append_right _ (List.mem_of_getElem? (i := 717) (by decide +kernel))) rfl
theorem nz_w776 : (Jvm.Cond.instanceMethod ({ cls := "NestFinderModel", name := "fault", desc := "()I" } : Jvm.MethodName)) ∈ nz_G := nz_inG (List.mem_append_right _ (List.mem_of_getElem? (i := 718) (by decide +kernel))) rfl
theorem nz_w777 : (Jvm.Cond.selects "NestFinderModel" ({ cls := "NestFinderModel", name := "fault", desc := "()I" } : Jvm.MethodName) ({ cls := "NestFinderModel", name := "fault", desc := "()I" } : Jvm.MethodName)) ∈ nz_G := nz_inG (List.mem_append_right _ (List.mem_of_getElem? (i := 719) (by decide +kernel))) rfl
theorem nz_w778 : (Jvm.Cond.code ({ cls := "NestFinderModel", name := "fault", desc := "()I" } : Jvm.MethodName) prog_10_method_14_code (1 : Nat) (Option.some Jvm.ClassFile.FieldType.int)) ∈ nz_G := nz_inG (List.mem_append_right _ (List.mem_of_getElem? (i := 720) (by decide +kernel))) rfl
theorem nz_w779 : (Jvm.Cond.methodLink "NestFinderModel" (102 : Nat) ({ cls := "NestFinderModel", name := "readGraph", desc := "()I" } : Jvm.MethodName)) ∈ nz_G := nz_inG (List.mem_append_right _ (List.mem_of_getElem? (i := 721) (by decide +kernel))) rfl
theorem nz_w781 : (Jvm.Cond.instanceMethod ({ cls := "NestFinderModel", name := "readGraph", desc := "()I" } : Jvm.MethodName)) ∈ nz_G := nz_inG (List.mem_append_right _ (List.mem_of_getElem? (i := 723) (by decide +kernel))) rfl
theorem nz_w782 : (Jvm.Cond.code ({ cls := "NestFinderModel", name := "readGraph", desc := "()I" } : Jvm.MethodName) prog_10_method_13_code (3 : Nat) (Option.some Jvm.ClassFile.FieldType.int)) ∈ nz_G := nz_inG (List.mem_append_right _ (List.mem_of_getElem? (i := 724) (by decide +kernel))) rfl
theorem nz_w783 : (Jvm.Cond.methodLink "NestFinderModel" (88 : Nat) ({ cls := "NestFinderModel", name := "letterAt", desc := "(I)I" } : Jvm.MethodName)) ∈ nz_G := nz_inG (List.mem_append_right _ (List.mem_of_getElem? (i := 725) (by decide +kernel))) rfl
theorem nz_w785 : (Jvm.Cond.instanceMethod ({ cls := "NestFinderModel", name := "letterAt", desc := "(I)I" } : Jvm.MethodName)) ∈ nz_G := nz_inG (List.mem_append_right _ (List.mem_of_getElem? (i := 727) (by decide +kernel))) rfl
theorem nz_w786 : (Jvm.Cond.code ({ cls := "NestFinderModel", name := "letterAt", desc := "(I)I" } : Jvm.MethodName) prog_10_method_11_code (2 : Nat) (Option.some Jvm.ClassFile.FieldType.int)) ∈ nz_G := nz_inG (List.mem_append_right _ (List.mem_of_getElem? (i := 728) (by decide +kernel))) rfl
theorem nz_w787 : (Jvm.Cond.constantLong "NestFinderModel" (96 : Nat) (8 : Int64)) ∈ nz_G := nz_inG (List.mem_append_right _ (List.mem_of_getElem? (i := 729) (by decide +kernel))) rfl
theorem nz_w788 : (Jvm.Cond.methodLink "NestFinderModel" (98 : Nat) ({ cls := "NestFinderModel", name := "readBlock", desc := "(II)Z" } : Jvm.MethodName)) ∈ nz_G := nz_inG (List.mem_append_right _ (List.mem_of_getElem? (i := 730) (by decide +kernel))) rfl
theorem nz_w790 : (Jvm.Cond.instanceMethod ({ cls := "NestFinderModel", name := "readBlock", desc := "(II)Z" } : Jvm.MethodName)) ∈ nz_G := nz_inG (List.mem_append_right _ (List.mem_of_getElem? (i := 732) (by decide +kernel))) rfl
theorem nz_w791 : (Jvm.Cond.code ({ cls := "NestFinderModel", name := "readBlock", desc := "(II)Z" } : Jvm.MethodName) prog_10_method_12_code (3 : Nat) (Option.some Jvm.ClassFile.FieldType.boolean)) ∈ nz_G := nz_inG (List.mem_append_right _ (List.mem_of_getElem? (i := 733) (by decide +kernel))) rfl
theorem nz_w792 : (Jvm.Cond.constantLong "NestFinderModel" (92 : Nat) (97 : Int64)) ∈ nz_G := nz_inG (List.mem_append_right _ (List.mem_of_getElem? (i := 734) (by decide +kernel))) rfl
theorem nz_w793 : (Jvm.Cond.constantLong "NestFinderModel" (94 : Nat) (122 : Int64)) ∈ nz_G := nz_inG (List.mem_append_right _ (List.mem_of_getElem? (i := 735) (by decide +kernel))) rfl
theorem nz_w794 : (Jvm.Cond.methodLink "NestFinderLaw" (30 : Nat) ({ cls := "NestFinderModel", name := "graph", desc := "()I" } : Jvm.MethodName)) ∈ nz_G := nz_inG (List.mem_append_right _ (List.mem_of_getElem? (i := 736) (by decide +kernel))) rfl
theorem nz_w795 : (Jvm.Cond.instanceMethod ({ cls := "NestFinderModel", name := "graph", desc := "()I" } : Jvm.MethodName)) ∈ nz_G := nz_inG (List.mem_append_right _ (List.mem_of_getElem? (i := 737) (by decide +kernel))) rfl
theorem nz_w796 : (Jvm.Cond.selects "NestFinderModel" ({ cls := "NestFinderModel", name := "graph", desc := "()I" } : Jvm.MethodName) ({ cls := "NestFinderModel", name := "graph", desc := "()I" } : Jvm.MethodName)) ∈ nz_G := nz_inG (List.mem_append_right _ (List.mem_of_getElem? (i := 738) (by decide +kernel))) rfl
theorem nz_w797 : (Jvm.Cond.code ({ cls := "NestFinderModel", name := "graph", desc := "()I" } : Jvm.MethodName) prog_10_method_15_code (2 : Nat) (Option.some Jvm.ClassFile.FieldType.int)) ∈ nz_G := nz_inG (List.mem_append_right _ (List.mem_of_getElem? (i := 739) (by decide +kernel))) rfl
theorem nz_w798 : (Jvm.Cond.methodLink "NestFinderLaw" (34 : Nat) ({ cls := "NestFinderModel", name := "about", desc := "(I)I" } : Jvm.MethodName)) ∈ nz_G := nz_inG (List.mem_append_right _ (List.mem_of_getElem? (i := 740) (by decide +kernel))) rfl
theorem nz_w799 : (Jvm.Cond.instanceMethod ({ cls := "NestFinderModel", name := "about", desc := "(I)I" } : Jvm.MethodName)) ∈ nz_G := nz_inG (List.mem_append_right _ (List.mem_of_getElem? (i := 741) (by decide +kernel))) rfl
theorem nz_w800 : (Jvm.Cond.selects "NestFinderModel" ({ cls := "NestFinderModel", name := "about", desc := "(I)I" } : Jvm.MethodName) ({ cls := "NestFinderModel", name := "about", desc := "(I)I" } : Jvm.MethodName)) ∈ nz_G := nz_inG (List.mem_append_right _ (List.mem_of_getElem? (i := 742) (by decide +kernel))) rfl
theorem nz_w801 : (Jvm.Cond.code ({ cls := "NestFinderModel", name := "about", desc := "(I)I" } : Jvm.MethodName) prog_10_method_35_code (2 : Nat) (Option.some Jvm.ClassFile.FieldType.int)) ∈ nz_G := nz_inG (List.mem_append_right _ (List.mem_of_getElem? (i := 743) (by decide +kernel))) rfl
theorem nz_w802 : (Jvm.Cond.methodLink "NestFinderModel" (156 : Nat) ({ cls := "NestFinderModel", name := "find", desc := "([I)V" } : Jvm.MethodName)) ∈ nz_G := nz_inG (List.mem_append_right _ (List.mem_of_getElem? (i := 744) (by decide +kernel))) rfl
theorem nz_w804 : (Jvm.Cond.instanceMethod ({ cls := "NestFinderModel", name := "find", desc := "([I)V" } : Jvm.MethodName)) ∈ nz_G := nz_inG (List.mem_append_right _ (List.mem_of_getElem? (i := 746) (by decide +kernel))) rfl
theorem nz_w805 : (Jvm.Cond.code ({ cls := "NestFinderModel", name := "find", desc := "([I)V" } : Jvm.MethodName) prog_10_method_25_code (6 : Nat) (Option.none : Option Jvm.ClassFile.FieldType)) ∈ nz_G := nz_inG (List.mem_append_right _ (List.mem_of_getElem? (i := 747) (by decide +kernel))) rfl
theorem nz_w806 : (Jvm.Cond.methodLink "NestFinderModel" (137 : Nat) ({ cls := "NestFinderModel", name := "walk", desc := "([I)V" } : Jvm.MethodName)) ∈ nz_G := nz_inG (List.mem_append_right _ (List.mem_of_getElem? (i := 748) (by decide +kernel))) rfl
theorem nz_w808 : (Jvm.Cond.instanceMethod ({ cls := "NestFinderModel", name := "walk", desc := "([I)V" } : Jvm.MethodName)) ∈ nz_G := nz_inG (List.mem_append_right _ (List.mem_of_getElem? (i := 750) (by decide +kernel))) rfl
theorem nz_w809 : (Jvm.Cond.code ({ cls := "NestFinderModel", name := "walk", desc := "([I)V" } : Jvm.MethodName) prog_10_method_18_code (5 : Nat) (Option.none : Option Jvm.ClassFile.FieldType)) ∈ nz_G := nz_inG (List.mem_append_right _ (List.mem_of_getElem? (i := 751) (by decide +kernel))) rfl
theorem nz_w810 : (Jvm.Cond.methodLink "NestFinderModel" (112 : Nat) ({ cls := "NestFinderModel", name := "comeTo", desc := "(II)V" } : Jvm.MethodName)) ∈ nz_G := nz_inG (List.mem_append_right _ (List.mem_of_getElem? (i := 752) (by decide +kernel))) rfl
theorem nz_w812 : (Jvm.Cond.instanceMethod ({ cls := "NestFinderModel", name := "comeTo", desc := "(II)V" } : Jvm.MethodName)) ∈ nz_G := nz_inG (List.mem_append_right _ (List.mem_of_getElem? (i := 754) (by decide +kernel))) rfl
theorem nz_w813 : (Jvm.Cond.code ({ cls := "NestFinderModel", name := "comeTo", desc := "(II)V" } : Jvm.MethodName) prog_10_method_17_code (3 : Nat) (Option.none : Option Jvm.ClassFile.FieldType)) ∈ nz_G := nz_inG (List.mem_append_right _ (List.mem_of_getElem? (i := 755) (by decide +kernel))) rfl
theorem nz_w814 : (Jvm.Cond.methodLink "NestFinderModel" (141 : Nat) ({ cls := "NestFinderModel", name := "layEntries", desc := "([I)V" } : Jvm.MethodName)) ∈ nz_G := nz_inG (List.mem_append_right _ (List.mem_of_getElem? (i := 756) (by decide +kernel))) rfl
theorem nz_w816 : (Jvm.Cond.instanceMethod ({ cls := "NestFinderModel", name := "layEntries", desc := "([I)V" } : Jvm.MethodName)) ∈ nz_G := nz_inG (List.mem_append_right _ (List.mem_of_getElem? (i := 758) (by decide +kernel))) rfl
theorem nz_w817 : (Jvm.Cond.code ({ cls := "NestFinderModel", name := "layEntries", desc := "([I)V" } : Jvm.MethodName) prog_10_method_21_code (4 : Nat) (Option.none : Option Jvm.ClassFile.FieldType)) ∈ nz_G := nz_inG (List.mem_append_right _ (List.mem_of_getElem? (i := 759) (by decide +kernel))) rfl
theorem nz_w818 : (Jvm.Cond.methodLink "NestFinderModel" (116 : Nat) ({ cls := "NestFinderModel", name := "goes", desc := "([III)Z" } : Jvm.MethodName)) ∈ nz_G := nz_inG (List.mem_append_right _ (List.mem_of_getElem? (i := 760) (by decide +kernel))) rfl
theorem nz_w819 : (Jvm.Cond.static ({ cls := "NestFinderModel", name := "goes", desc := "([III)Z" } : Jvm.MethodName)) ∈ nz_G := nz_inG (List.mem_append_right _ (List.mem_of_getElem? (i := 761) (by decide +kernel))) rfl
theorem nz_w820 : (Jvm.Cond.code ({ cls := "NestFinderModel", name := "goes", desc := "([III)Z" } : Jvm.MethodName) prog_10_method_16_code (5 : Nat) (Option.some Jvm.ClassFile.FieldType.boolean)) ∈ nz_G := nz_inG (List.mem_append_right _ (List.mem_of_getElem? (i := 762) (by decide +kernel))) rfl
theorem nz_w821 : (Jvm.Cond.methodLink "NestFinderModel" (120 : Nat) ({ cls := "NestFinderModel", name := "isAbove", desc := "(II)Z" } : Jvm.MethodName)) ∈ nz_G := nz_inG (List.mem_append_right _ (List.mem_of_getElem? (i := 763) (by decide +kernel))) rfl
theorem nz_w823 : (Jvm.Cond.instanceMethod ({ cls := "NestFinderModel", name := "isAbove", desc := "(II)Z" } : Jvm.MethodName)) ∈ nz_G := nz_inG (List.mem_append_right _ (List.mem_of_getElem? (i := 765) (by decide +kernel))) rfl
theorem nz_w824 : (Jvm.Cond.code ({ cls := "NestFinderModel", name := "isAbove", desc := "(II)Z" } : Jvm.MethodName) prog_10_method_19_code (3 : Nat) (Option.some Jvm.ClassFile.FieldType.boolean)) ∈ nz_G := nz_inG (List.mem_append_right _ (List.mem_of_getElem? (i := 766) (by decide +kernel))) rfl
theorem nz_w825 : (Jvm.Cond.methodLink "NestFinderModel" (144 : Nat) ({ cls := "NestFinderModel", name := "bodyOf", desc := "([II)I" } : Jvm.MethodName)) ∈ nz_G := nz_inG (List.mem_append_right _ (List.mem_of_getElem? (i := 767) (by decide +kernel))) rfl
theorem nz_w827 : (Jvm.Cond.instanceMethod ({ cls := "NestFinderModel", name := "bodyOf", desc := "([II)I" } : Jvm.MethodName)) ∈ nz_G := nz_inG (List.mem_append_right _ (List.mem_of_getElem? (i := 769) (by decide +kernel))) rfl
theorem nz_w828 : (Jvm.Cond.code ({ cls := "NestFinderModel", name := "bodyOf", desc := "([II)I" } : Jvm.MethodName) prog_10_method_24_code (7 : Nat) (Option.some Jvm.ClassFile.FieldType.int)) ∈ nz_G := nz_inG (List.mem_append_right _ (List.mem_of_getElem? (i := 770) (by decide +kernel))) rfl
theorem nz_w829 : (Jvm.Cond.methodLink "NestFinderModel" (129 : Nat) ({ cls := "NestFinderModel", name := "backs", desc := "([II)I" } : Jvm.MethodName)) ∈ nz_G := nz_inG (List.mem_append_right _ (List.mem_of_getElem? (i := 771) (by decide +kernel))) rfl
theorem nz_w831 : (Jvm.Cond.instanceMethod ({ cls := "NestFinderModel", name := "backs", desc := "([II)I" } : Jvm.MethodName)) ∈ nz_G := nz_inG (List.mem_append_right _ (List.mem_of_getElem? (i := 773) (by decide +kernel))) rfl
theorem nz_w832 : (Jvm.Cond.code ({ cls := "NestFinderModel", name := "backs", desc := "([II)I" } : Jvm.MethodName) prog_10_method_22_code (5 : Nat) (Option.some Jvm.ClassFile.FieldType.int)) ∈ nz_G := nz_inG (List.mem_append_right _ (List.mem_of_getElem? (i := 774) (by decide +kernel))) rfl
theorem nz_w833 : (Jvm.Cond.methodLink "NestFinderModel" (123 : Nat) ({ cls := "NestFinderModel", name := "has", desc := "(II)Z" } : Jvm.MethodName)) ∈ nz_G := nz_inG (List.mem_append_right _ (List.mem_of_getElem? (i := 775) (by decide +kernel))) rfl
theorem nz_w834 : (Jvm.Cond.static ({ cls := "NestFinderModel", name := "has", desc := "(II)Z" } : Jvm.MethodName)) ∈ nz_G := nz_inG (List.mem_append_right _ (List.mem_of_getElem? (i := 776) (by decide +kernel))) rfl
theorem nz_w835 : (Jvm.Cond.code ({ cls := "NestFinderModel", name := "has", desc := "(II)Z" } : Jvm.MethodName) prog_10_method_4_code (2 : Nat) (Option.some Jvm.ClassFile.FieldType.boolean)) ∈ nz_G := nz_inG (List.mem_append_right _ (List.mem_of_getElem? (i := 777) (by decide +kernel))) rfl
theorem nz_w836 : (Jvm.Cond.methodLink "NestFinderModel" (126 : Nat) ({ cls := "NestFinderModel", name := "leader", desc := "(I)I" } : Jvm.MethodName)) ∈ nz_G := nz_inG (List.mem_append_right _ (List.mem_of_getElem? (i := 778) (by decide +kernel))) rfl
theorem nz_w838 : (Jvm.Cond.instanceMethod ({ cls := "NestFinderModel", name := "leader", desc := "(I)I" } : Jvm.MethodName)) ∈ nz_G := nz_inG (List.mem_append_right _ (List.mem_of_getElem? (i := 780) (by decide +kernel))) rfl
theorem nz_w839 : (Jvm.Cond.code ({ cls := "NestFinderModel", name := "leader", desc := "(I)I" } : Jvm.MethodName) prog_10_method_20_code (3 : Nat) (Option.some Jvm.ClassFile.FieldType.int)) ∈ nz_G := nz_inG (List.mem_append_right _ (List.mem_of_getElem? (i := 781) (by decide +kernel))) rfl
theorem nz_w840 : (Jvm.Cond.methodLink "NestFinderModel" (133 : Nat) ({ cls := "NestFinderModel", name := "drawnBy", desc := "(II)I" } : Jvm.MethodName)) ∈ nz_G := nz_inG (List.mem_append_right _ (List.mem_of_getElem? (i := 782) (by decide +kernel))) rfl
theorem nz_w842 : (Jvm.Cond.instanceMethod ({ cls := "NestFinderModel", name := "drawnBy", desc := "(II)I" } : Jvm.MethodName)) ∈ nz_G := nz_inG (List.mem_append_right _ (List.mem_of_getElem? (i := 784) (by decide +kernel))) rfl
theorem nz_w843 : (Jvm.Cond.code ({ cls := "NestFinderModel", name := "drawnBy", desc := "(II)I" } : Jvm.MethodName) prog_10_method_23_code (7 : Nat) (Option.some Jvm.ClassFile.FieldType.int)) ∈ nz_G := nz_inG (List.mem_append_right _ (List.mem_of_getElem? (i := 785) (by decide +kernel))) rfl
theorem nz_w844 : (Jvm.Cond.methodLink "NestFinderModel" (159 : Nat) ({ cls := "NestFinderModel", name := "arcs", desc := "([I)I" } : Jvm.MethodName)) ∈ nz_G := nz_inG (List.mem_append_right _ (List.mem_of_getElem? (i := 786) (by decide +kernel))) rfl
theorem nz_w845 : (Jvm.Cond.static ({ cls := "NestFinderModel", name := "arcs", desc := "([I)I" } : Jvm.MethodName)) ∈ nz_G := nz_inG (List.mem_append_right _ (List.mem_of_getElem? (i := 787) (by decide +kernel))) rfl
theorem nz_w846 : (Jvm.Cond.code ({ cls := "NestFinderModel", name := "arcs", desc := "([I)I" } : Jvm.MethodName) prog_10_method_31_code (3 : Nat) (Option.some Jvm.ClassFile.FieldType.int)) ∈ nz_G := nz_inG (List.mem_append_right _ (List.mem_of_getElem? (i := 788) (by decide +kernel))) rfl
theorem nz_w847 : (Jvm.Cond.methodLink "NestFinderModel" (163 : Nat) ({ cls := "NestFinderModel", name := "kinds", desc := "(I)I" } : Jvm.MethodName)) ∈ nz_G := nz_inG (List.mem_append_right _ (List.mem_of_getElem? (i := 789) (by decide +kernel))) rfl
theorem nz_w849 : (Jvm.Cond.instanceMethod ({ cls := "NestFinderModel", name := "kinds", desc := "(I)I" } : Jvm.MethodName)) ∈ nz_G := nz_inG (List.mem_append_right _ (List.mem_of_getElem? (i := 791) (by decide +kernel))) rfl
theorem nz_w850 : (Jvm.Cond.code ({ cls := "NestFinderModel", name := "kinds", desc := "(I)I" } : Jvm.MethodName) prog_10_method_32_code (4 : Nat) (Option.some Jvm.ClassFile.FieldType.int)) ∈ nz_G := nz_inG (List.mem_append_right _ (List.mem_of_getElem? (i := 792) (by decide +kernel))) rfl
theorem nz_w851 : (Jvm.Cond.methodLink "NestFinderModel" (166 : Nat) ({ cls := "NestFinderModel", name := "deepest", desc := "()I" } : Jvm.MethodName)) ∈ nz_G := nz_inG (List.mem_append_right _ (List.mem_of_getElem? (i := 793) (by decide +kernel))) rfl
theorem nz_w853 : (Jvm.Cond.instanceMethod ({ cls := "NestFinderModel", name := "deepest", desc := "()I" } : Jvm.MethodName)) ∈ nz_G := nz_inG (List.mem_append_right _ (List.mem_of_getElem? (i := 795) (by decide +kernel))) rfl
theorem nz_w854 : (Jvm.Cond.code ({ cls := "NestFinderModel", name := "deepest", desc := "()I" } : Jvm.MethodName) prog_10_method_33_code (4 : Nat) (Option.some Jvm.ClassFile.FieldType.int)) ∈ nz_G := nz_inG (List.mem_append_right _ (List.mem_of_getElem? (i := 796) (by decide +kernel))) rfl
theorem nz_w855 : (Jvm.Cond.methodLink "NestFinderModel" (153 : Nat) ({ cls := "NestFinderModel", name := "depth", desc := "(I)I" } : Jvm.MethodName)) ∈ nz_G := nz_inG (List.mem_append_right _ (List.mem_of_getElem? (i := 797) (by decide +kernel))) rfl
theorem nz_w857 : (Jvm.Cond.instanceMethod ({ cls := "NestFinderModel", name := "depth", desc := "(I)I" } : Jvm.MethodName)) ∈ nz_G := nz_inG (List.mem_append_right _ (List.mem_of_getElem? (i := 799) (by decide +kernel))) rfl
theorem nz_w858 : (Jvm.Cond.code ({ cls := "NestFinderModel", name := "depth", desc := "(I)I" } : Jvm.MethodName) prog_10_method_26_code (4 : Nat) (Option.some Jvm.ClassFile.FieldType.int)) ∈ nz_G := nz_inG (List.mem_append_right _ (List.mem_of_getElem? (i := 800) (by decide +kernel))) rfl
theorem nz_w859 : (Jvm.Cond.methodLink "NestFinderModel" (169 : Nat) ({ cls := "NestFinderModel", name := "isTame", desc := "([I)Z" } : Jvm.MethodName)) ∈ nz_G := nz_inG (List.mem_append_right _ (List.mem_of_getElem? (i := 801) (by decide +kernel))) rfl
theorem nz_w861 : (Jvm.Cond.instanceMethod ({ cls := "NestFinderModel", name := "isTame", desc := "([I)Z" } : Jvm.MethodName)) ∈ nz_G := nz_inG (List.mem_append_right _ (List.mem_of_getElem? (i := 803) (by decide +kernel))) rfl
theorem nz_w862 : (Jvm.Cond.code ({ cls := "NestFinderModel", name := "isTame", desc := "([I)Z" } : Jvm.MethodName) prog_10_method_30_code (5 : Nat) (Option.some Jvm.ClassFile.FieldType.boolean)) ∈ nz_G := nz_inG (List.mem_append_right _ (List.mem_of_getElem? (i := 804) (by decide +kernel))) rfl
theorem nz_w863 : (Jvm.Cond.methodLink "NestFinderModel" (150 : Nat) ({ cls := "NestFinderModel", name := "passed", desc := "([II)I" } : Jvm.MethodName)) ∈ nz_G := nz_inG (List.mem_append_right _ (List.mem_of_getElem? (i := 805) (by decide +kernel))) rfl
theorem nz_w864 : (Jvm.Cond.static ({ cls := "NestFinderModel", name := "passed", desc := "([II)I" } : Jvm.MethodName)) ∈ nz_G := nz_inG (List.mem_append_right _ (List.mem_of_getElem? (i := 806) (by decide +kernel))) rfl
theorem nz_w865 : (Jvm.Cond.code ({ cls := "NestFinderModel", name := "passed", desc := "([II)I" } : Jvm.MethodName) prog_10_method_29_code (3 : Nat) (Option.some Jvm.ClassFile.FieldType.int)) ∈ nz_G := nz_inG (List.mem_append_right _ (List.mem_of_getElem? (i := 807) (by decide +kernel))) rfl
theorem nz_w866 : (Jvm.Cond.methodLink "NestFinderModel" (147 : Nat) ({ cls := "NestFinderModel", name := "reached", desc := "([II)I" } : Jvm.MethodName)) ∈ nz_G := nz_inG (List.mem_append_right _ (List.mem_of_getElem? (i := 808) (by decide +kernel))) rfl
theorem nz_w867 : (Jvm.Cond.static ({ cls := "NestFinderModel", name := "reached", desc := "([II)I" } : Jvm.MethodName)) ∈ nz_G := nz_inG (List.mem_append_right _ (List.mem_of_getElem? (i := 809) (by decide +kernel))) rfl
theorem nz_w868 : (Jvm.Cond.code ({ cls := "NestFinderModel", name := "reached", desc := "([II)I" } : Jvm.MethodName) prog_10_method_28_code (7 : Nat) (Option.some Jvm.ClassFile.FieldType.int)) ∈ nz_G := nz_inG (List.mem_append_right _ (List.mem_of_getElem? (i := 810) (by decide +kernel))) rfl
theorem nz_w869 : (Jvm.Cond.methodLink "NestFinderModel" (173 : Nat) ({ cls := "NestFinderModel", name := "backArcs", desc := "([I)I" } : Jvm.MethodName)) ∈ nz_G := nz_inG (List.mem_append_right _ (List.mem_of_getElem? (i := 811) (by decide +kernel))) rfl
theorem nz_w871 : (Jvm.Cond.instanceMethod ({ cls := "NestFinderModel", name := "backArcs", desc := "([I)I" } : Jvm.MethodName)) ∈ nz_G := nz_inG (List.mem_append_right _ (List.mem_of_getElem? (i := 813) (by decide +kernel))) rfl
theorem nz_w872 : (Jvm.Cond.code ({ cls := "NestFinderModel", name := "backArcs", desc := "([I)I" } : Jvm.MethodName) prog_10_method_34_code (5 : Nat) (Option.some Jvm.ClassFile.FieldType.int)) ∈ nz_G := nz_inG (List.mem_append_right _ (List.mem_of_getElem? (i := 814) (by decide +kernel))) rfl
theorem nz_w873 : (Jvm.Cond.methodLink "NestFinderLaw" (39 : Nat) ({ cls := "NestFinderModel", name := "block", desc := "(II)I" } : Jvm.MethodName)) ∈ nz_G := nz_inG (List.mem_append_right _ (List.mem_of_getElem? (i := 815) (by decide +kernel))) rfl
theorem nz_w874 : (Jvm.Cond.instanceMethod ({ cls := "NestFinderModel", name := "block", desc := "(II)I" } : Jvm.MethodName)) ∈ nz_G := nz_inG (List.mem_append_right _ (List.mem_of_getElem? (i := 816) (by decide +kernel))) rfl
theorem nz_w875 : (Jvm.Cond.selects "NestFinderModel" ({ cls := "NestFinderModel", name := "block", desc := "(II)I" } : Jvm.MethodName) ({ cls := "NestFinderModel", name := "block", desc := "(II)I" } : Jvm.MethodName)) ∈ nz_G := nz_inG (List.mem_append_right _ (List.mem_of_getElem? (i := 817) (by decide +kernel))) rfl
theorem nz_w876 : (Jvm.Cond.code ({ cls := "NestFinderModel", name := "block", desc := "(II)I" } : Jvm.MethodName) prog_10_method_36_code (3 : Nat) (Option.some Jvm.ClassFile.FieldType.int)) ∈ nz_G := nz_inG (List.mem_append_right _ (List.mem_of_getElem? (i := 818) (by decide +kernel))) rfl
theorem nz_w877 : (Jvm.Cond.methodLink "NestFinderModel" (76 : Nat) ({ cls := "NestFinderModel", name := "noBlock", desc := "(I)Z" } : Jvm.MethodName)) ∈ nz_G := nz_inG (List.mem_append_right _ (List.mem_of_getElem? (i := 819) (by decide +kernel))) rfl
theorem nz_w879 : (Jvm.Cond.instanceMethod ({ cls := "NestFinderModel", name := "noBlock", desc := "(I)Z" } : Jvm.MethodName)) ∈ nz_G := nz_inG (List.mem_append_right _ (List.mem_of_getElem? (i := 821) (by decide +kernel))) rfl
theorem nz_w880 : (Jvm.Cond.code ({ cls := "NestFinderModel", name := "noBlock", desc := "(I)Z" } : Jvm.MethodName) prog_10_method_7_code (2 : Nat) (Option.some Jvm.ClassFile.FieldType.boolean)) ∈ nz_G := nz_inG (List.mem_append_right _ (List.mem_of_getElem? (i := 822) (by decide +kernel))) rfl
theorem nz_w881 : (Jvm.Cond.methodLink "NestFinderLaw" (43 : Nat) ({ cls := "NestFinderModel", name := "arc", desc := "(II)I" } : Jvm.MethodName)) ∈ nz_G := nz_inG (List.mem_append_right _ (List.mem_of_getElem? (i := 823) (by decide +kernel))) rfl
theorem nz_w882 : (Jvm.Cond.instanceMethod ({ cls := "NestFinderModel", name := "arc", desc := "(II)I" } : Jvm.MethodName)) ∈ nz_G := nz_inG (List.mem_append_right _ (List.mem_of_getElem? (i := 824) (by decide +kernel))) rfl
theorem nz_w883 : (Jvm.Cond.selects "NestFinderModel" ({ cls := "NestFinderModel", name := "arc", desc := "(II)I" } : Jvm.MethodName) ({ cls := "NestFinderModel", name := "arc", desc := "(II)I" } : Jvm.MethodName)) ∈ nz_G := nz_inG (List.mem_append_right _ (List.mem_of_getElem? (i := 825) (by decide +kernel))) rfl
theorem nz_w884 : (Jvm.Cond.code ({ cls := "NestFinderModel", name := "arc", desc := "(II)I" } : Jvm.MethodName) prog_10_method_37_code (3 : Nat) (Option.some Jvm.ClassFile.FieldType.int)) ∈ nz_G := nz_inG (List.mem_append_right _ (List.mem_of_getElem? (i := 826) (by decide +kernel))) rfl
theorem nz_w885 : (Jvm.Cond.methodLink "NestFinderModel" (179 : Nat) ({ cls := "NestFinderModel", name := "noArc", desc := "(II)Z" } : Jvm.MethodName)) ∈ nz_G := nz_inG (List.mem_append_right _ (List.mem_of_getElem? (i := 827) (by decide +kernel))) rfl
theorem nz_w887 : (Jvm.Cond.instanceMethod ({ cls := "NestFinderModel", name := "noArc", desc := "(II)Z" } : Jvm.MethodName)) ∈ nz_G := nz_inG (List.mem_append_right _ (List.mem_of_getElem? (i := 829) (by decide +kernel))) rfl
theorem nz_w888 : (Jvm.Cond.code ({ cls := "NestFinderModel", name := "noArc", desc := "(II)Z" } : Jvm.MethodName) prog_10_method_8_code (3 : Nat) (Option.some Jvm.ClassFile.FieldType.boolean)) ∈ nz_G := nz_inG (List.mem_append_right _ (List.mem_of_getElem? (i := 830) (by decide +kernel))) rfl
theorem nz_w889 : (Jvm.Cond.methodLink "NestFinderLaw" (47 : Nat) ({ cls := "NestFinderModel", name := "sets", desc := "(II)I" } : Jvm.MethodName)) ∈ nz_G := nz_inG (List.mem_append_right _ (List.mem_of_getElem? (i := 831) (by decide +kernel))) rfl
theorem nz_w890 : (Jvm.Cond.instanceMethod ({ cls := "NestFinderModel", name := "sets", desc := "(II)I" } : Jvm.MethodName)) ∈ nz_G := nz_inG (List.mem_append_right _ (List.mem_of_getElem? (i := 832) (by decide +kernel))) rfl
theorem nz_w891 : (Jvm.Cond.selects "NestFinderModel" ({ cls := "NestFinderModel", name := "sets", desc := "(II)I" } : Jvm.MethodName) ({ cls := "NestFinderModel", name := "sets", desc := "(II)I" } : Jvm.MethodName)) ∈ nz_G := nz_inG (List.mem_append_right _ (List.mem_of_getElem? (i := 833) (by decide +kernel))) rfl
theorem nz_w892 : (Jvm.Cond.code ({ cls := "NestFinderModel", name := "sets", desc := "(II)I" } : Jvm.MethodName) prog_10_method_39_code (3 : Nat) (Option.some Jvm.ClassFile.FieldType.int)) ∈ nz_G := nz_inG (List.mem_append_right _ (List.mem_of_getElem? (i := 834) (by decide +kernel))) rfl
theorem nz_w893 : (Jvm.Cond.constantLong "NestFinderModel" (182 : Nat) (3 : Int64)) ∈ nz_G := nz_inG (List.mem_append_right _ (List.mem_of_getElem? (i := 835) (by decide +kernel))) rfl
theorem nz_w894 : (Jvm.Cond.methodLink "NestFinderModel" (184 : Nat) ({ cls := "NestFinderModel", name := "aboveSet", desc := "(I)I" } : Jvm.MethodName)) ∈ nz_G := nz_inG (List.mem_append_right _ (List.mem_of_getElem? (i := 836) (by decide +kernel))) rfl
theorem nz_w896 : (Jvm.Cond.instanceMethod ({ cls := "NestFinderModel", name := "aboveSet", desc := "(I)I" } : Jvm.MethodName)) ∈ nz_G := nz_inG (List.mem_append_right _ (List.mem_of_getElem? (i := 838) (by decide +kernel))) rfl
theorem nz_w897 : (Jvm.Cond.code ({ cls := "NestFinderModel", name := "aboveSet", desc := "(I)I" } : Jvm.MethodName) prog_10_method_38_code (4 : Nat) (Option.some Jvm.ClassFile.FieldType.int)) ∈ nz_G := nz_inG (List.mem_append_right _ (List.mem_of_getElem? (i := 839) (by decide +kernel))) rfl
theorem nz_w898 : (Jvm.Cond.methodLink "NestFinderModel" (187 : Nat) ({ cls := "NestFinderModel", name := "nest", desc := "(I)I" } : Jvm.MethodName)) ∈ nz_G := nz_inG (List.mem_append_right _ (List.mem_of_getElem? (i := 840) (by decide +kernel))) rfl
theorem nz_w900 : (Jvm.Cond.instanceMethod ({ cls := "NestFinderModel", name := "nest", desc := "(I)I" } : Jvm.MethodName)) ∈ nz_G := nz_inG (List.mem_append_right _ (List.mem_of_getElem? (i := 842) (by decide +kernel))) rfl
theorem nz_w901 : (Jvm.Cond.code ({ cls := "NestFinderModel", name := "nest", desc := "(I)I" } : Jvm.MethodName) prog_10_method_27_code (5 : Nat) (Option.some Jvm.ClassFile.FieldType.int)) ∈ nz_G := nz_inG (List.mem_append_right _ (List.mem_of_getElem? (i := 843) (by decide +kernel))) rfl
theorem nz_w902 : (Jvm.Cond.methodLink "NestFinderLaw" (51 : Nat) ({ cls := "NestFinderModel", name := "add", desc := "(II)I" } : Jvm.MethodName)) ∈ nz_G := nz_inG (List.mem_append_right _ (List.mem_of_getElem? (i := 844) (by decide +kernel))) rfl
theorem nz_w903 : (Jvm.Cond.instanceMethod ({ cls := "NestFinderModel", name := "add", desc := "(II)I" } : Jvm.MethodName)) ∈ nz_G := nz_inG (List.mem_append_right _ (List.mem_of_getElem? (i := 845) (by decide +kernel))) rfl
theorem nz_w904 : (Jvm.Cond.selects "NestFinderModel" ({ cls := "NestFinderModel", name := "add", desc := "(II)I" } : Jvm.MethodName) ({ cls := "NestFinderModel", name := "add", desc := "(II)I" } : Jvm.MethodName)) ∈ nz_G := nz_inG (List.mem_append_right _ (List.mem_of_getElem? (i := 846) (by decide +kernel))) rfl
theorem nz_w905 : (Jvm.Cond.code ({ cls := "NestFinderModel", name := "add", desc := "(II)I" } : Jvm.MethodName) prog_10_method_44_code (3 : Nat) (Option.some Jvm.ClassFile.FieldType.int)) ∈ nz_G := nz_inG (List.mem_append_right _ (List.mem_of_getElem? (i := 847) (by decide +kernel))) rfl
theorem nz_w906 : (Jvm.Cond.methodLink "NestFinderModel" (190 : Nat) ({ cls := "NestFinderModel", name := "note", desc := "()V" } : Jvm.MethodName)) ∈ nz_G := nz_inG (List.mem_append_right _ (List.mem_of_getElem? (i := 848) (by decide +kernel))) rfl
theorem nz_w908 : (Jvm.Cond.instanceMethod ({ cls := "NestFinderModel", name := "note", desc := "()V" } : Jvm.MethodName)) ∈ nz_G := nz_inG (List.mem_append_right _ (List.mem_of_getElem? (i := 850) (by decide +kernel))) rfl
theorem nz_w909 : (Jvm.Cond.code ({ cls := "NestFinderModel", name := "note", desc := "()V" } : Jvm.MethodName) prog_10_method_40_code (2 : Nat) (Option.none : Option Jvm.ClassFile.FieldType)) ∈ nz_G := nz_inG (List.mem_append_right _ (List.mem_of_getElem? (i := 851) (by decide +kernel))) rfl
theorem nz_w910 : (Jvm.Cond.methodLink "NestFinderModel" (193 : Nat) ({ cls := "NestFinderModel", name := "goAdd", desc := "([III)V" } : Jvm.MethodName)) ∈ nz_G := nz_inG (List.mem_append_right _ (List.mem_of_getElem? (i := 852) (by decide +kernel))) rfl
theorem nz_w911 : (Jvm.Cond.static ({ cls := "NestFinderModel", name := "goAdd", desc := "([III)V" } : Jvm.MethodName)) ∈ nz_G := nz_inG (List.mem_append_right _ (List.mem_of_getElem? (i := 853) (by decide +kernel))) rfl
theorem nz_w912 : (Jvm.Cond.code ({ cls := "NestFinderModel", name := "goAdd", desc := "([III)V" } : Jvm.MethodName) prog_10_method_41_code (3 : Nat) (Option.none : Option Jvm.ClassFile.FieldType)) ∈ nz_G := nz_inG (List.mem_append_right _ (List.mem_of_getElem? (i := 854) (by decide +kernel))) rfl
theorem nz_w913 : (Jvm.Cond.methodLink "NestFinderLaw" (55 : Nat) ({ cls := "NestFinderModel", name := "cut", desc := "(II)I" } : Jvm.MethodName)) ∈ nz_G := nz_inG (List.mem_append_right _ (List.mem_of_getElem? (i := 855) (by decide +kernel))) rfl
theorem nz_w914 : (Jvm.Cond.instanceMethod ({ cls := "NestFinderModel", name := "cut", desc := "(II)I" } : Jvm.MethodName)) ∈ nz_G := nz_inG (List.mem_append_right _ (List.mem_of_getElem? (i := 856) (by decide +kernel))) rfl
theorem nz_w915 : (Jvm.Cond.selects "NestFinderModel" ({ cls := "NestFinderModel", name := "cut", desc := "(II)I" } : Jvm.MethodName) ({ cls := "NestFinderModel", name := "cut", desc := "(II)I" } : Jvm.MethodName)) ∈ nz_G := nz_inG (List.mem_append_right _ (List.mem_of_getElem? (i := 857) (by decide +kernel))) rfl
theorem nz_w916 : (Jvm.Cond.code ({ cls := "NestFinderModel", name := "cut", desc := "(II)I" } : Jvm.MethodName) prog_10_method_45_code (3 : Nat) (Option.some Jvm.ClassFile.FieldType.int)) ∈ nz_G := nz_inG (List.mem_append_right _ (List.mem_of_getElem? (i := 858) (by decide +kernel))) rfl
theorem nz_w917 : (Jvm.Cond.methodLink "NestFinderModel" (197 : Nat) ({ cls := "NestFinderModel", name := "goCut", desc := "([III)I" } : Jvm.MethodName)) ∈ nz_G := nz_inG (List.mem_append_right _ (List.mem_of_getElem? (i := 859) (by decide +kernel))) rfl
theorem nz_w918 : (Jvm.Cond.static ({ cls := "NestFinderModel", name := "goCut", desc := "([III)I" } : Jvm.MethodName)) ∈ nz_G := nz_inG (List.mem_append_right _ (List.mem_of_getElem? (i := 860) (by decide +kernel))) rfl
theorem nz_w919 : (Jvm.Cond.code ({ cls := "NestFinderModel", name := "goCut", desc := "([III)I" } : Jvm.MethodName) prog_10_method_42_code (6 : Nat) (Option.some Jvm.ClassFile.FieldType.int)) ∈ nz_G := nz_inG (List.mem_append_right _ (List.mem_of_getElem? (i := 861) (by decide +kernel))) rfl
theorem nz_w920 : (Jvm.Cond.methodLink "NestFinderLaw" (59 : Nat) ({ cls := "NestFinderModel", name := "split", desc := "(II)I" } : Jvm.MethodName)) ∈ nz_G := nz_inG (List.mem_append_right _ (List.mem_of_getElem? (i := 862) (by decide +kernel))) rfl
theorem nz_w921 : (Jvm.Cond.instanceMethod ({ cls := "NestFinderModel", name := "split", desc := "(II)I" } : Jvm.MethodName)) ∈ nz_G := nz_inG (List.mem_append_right _ (List.mem_of_getElem? (i := 863) (by decide +kernel))) rfl
theorem nz_w922 : (Jvm.Cond.selects "NestFinderModel" ({ cls := "NestFinderModel", name := "split", desc := "(II)I" } : Jvm.MethodName) ({ cls := "NestFinderModel", name := "split", desc := "(II)I" } : Jvm.MethodName)) ∈ nz_G := nz_inG (List.mem_append_right _ (List.mem_of_getElem? (i := 864) (by decide +kernel))) rfl
theorem nz_w923 : (Jvm.Cond.code ({ cls := "NestFinderModel", name := "split", desc := "(II)I" } : Jvm.MethodName) prog_10_method_46_code (3 : Nat) (Option.some Jvm.ClassFile.FieldType.int)) ∈ nz_G := nz_inG (List.mem_append_right _ (List.mem_of_getElem? (i := 865) (by decide +kernel))) rfl
theorem nz_w924 : (Jvm.Cond.methodLink "NestFinderModel" (201 : Nat) ({ cls := "NestFinderModel", name := "goSplit", desc := "([III)I" } : Jvm.MethodName)) ∈ nz_G := nz_inG (List.mem_append_right _ (List.mem_of_getElem? (i := 866) (by decide +kernel))) rfl
theorem nz_w925 : (Jvm.Cond.static ({ cls := "NestFinderModel", name := "goSplit", desc := "([III)I" } : Jvm.MethodName)) ∈ nz_G := nz_inG (List.mem_append_right _ (List.mem_of_getElem? (i := 867) (by decide +kernel))) rfl
theorem nz_w926 : (Jvm.Cond.code ({ cls := "NestFinderModel", name := "goSplit", desc := "([III)I" } : Jvm.MethodName) prog_10_method_43_code (6 : Nat) (Option.some Jvm.ClassFile.FieldType.int)) ∈ nz_G := nz_inG (List.mem_append_right _ (List.mem_of_getElem? (i := 868) (by decide +kernel))) rfl
theorem nz_w927 : (Jvm.Cond.methodLink "NestFinderLaw" (63 : Nat) ({ cls := "NestFinderModel", name := "mend", desc := "()I" } : Jvm.MethodName)) ∈ nz_G := nz_inG (List.mem_append_right _ (List.mem_of_getElem? (i := 869) (by decide +kernel))) rfl
theorem nz_w928 : (Jvm.Cond.instanceMethod ({ cls := "NestFinderModel", name := "mend", desc := "()I" } : Jvm.MethodName)) ∈ nz_G := nz_inG (List.mem_append_right _ (List.mem_of_getElem? (i := 870) (by decide +kernel))) rfl
theorem nz_w929 : (Jvm.Cond.selects "NestFinderModel" ({ cls := "NestFinderModel", name := "mend", desc := "()I" } : Jvm.MethodName) ({ cls := "NestFinderModel", name := "mend", desc := "()I" } : Jvm.MethodName)) ∈ nz_G := nz_inG (List.mem_append_right _ (List.mem_of_getElem? (i := 871) (by decide +kernel))) rfl
theorem nz_w930 : (Jvm.Cond.code ({ cls := "NestFinderModel", name := "mend", desc := "()I" } : Jvm.MethodName) prog_10_method_51_code (1 : Nat) (Option.some Jvm.ClassFile.FieldType.int)) ∈ nz_G := nz_inG (List.mem_append_right _ (List.mem_of_getElem? (i := 872) (by decide +kernel))) rfl
theorem nz_w931 : (Jvm.Cond.methodLink "NestFinderModel" (204 : Nat) ({ cls := "NestFinderModel", name := "worst", desc := "()I" } : Jvm.MethodName)) ∈ nz_G := nz_inG (List.mem_append_right _ (List.mem_of_getElem? (i := 873) (by decide +kernel))) rfl
theorem nz_w933 : (Jvm.Cond.instanceMethod ({ cls := "NestFinderModel", name := "worst", desc := "()I" } : Jvm.MethodName)) ∈ nz_G := nz_inG (List.mem_append_right _ (List.mem_of_getElem? (i := 875) (by decide +kernel))) rfl
theorem nz_w934 : (Jvm.Cond.code ({ cls := "NestFinderModel", name := "worst", desc := "()I" } : Jvm.MethodName) prog_10_method_47_code (4 : Nat) (Option.some Jvm.ClassFile.FieldType.int)) ∈ nz_G := nz_inG (List.mem_append_right _ (List.mem_of_getElem? (i := 876) (by decide +kernel))) rfl
theorem nz_w935 : (Jvm.Cond.methodLink "NestFinderModel" (213 : Nat) ({ cls := "NestFinderModel", name := "goMend", desc := "([I)I" } : Jvm.MethodName)) ∈ nz_G := nz_inG (List.mem_append_right _ (List.mem_of_getElem? (i := 877) (by decide +kernel))) rfl
theorem nz_w937 : (Jvm.Cond.instanceMethod ({ cls := "NestFinderModel", name := "goMend", desc := "([I)I" } : Jvm.MethodName)) ∈ nz_G := nz_inG (List.mem_append_right _ (List.mem_of_getElem? (i := 879) (by decide +kernel))) rfl
theorem nz_w938 : (Jvm.Cond.code ({ cls := "NestFinderModel", name := "goMend", desc := "([I)I" } : Jvm.MethodName) prog_10_method_50_code (3 : Nat) (Option.some Jvm.ClassFile.FieldType.int)) ∈ nz_G := nz_inG (List.mem_append_right _ (List.mem_of_getElem? (i := 880) (by decide +kernel))) rfl
theorem nz_w939 : (Jvm.Cond.methodLink "NestFinderModel" (210 : Nat) ({ cls := "NestFinderModel", name := "mends", desc := "([I)Z" } : Jvm.MethodName)) ∈ nz_G := nz_inG (List.mem_append_right _ (List.mem_of_getElem? (i := 881) (by decide +kernel))) rfl
theorem nz_w941 : (Jvm.Cond.instanceMethod ({ cls := "NestFinderModel", name := "mends", desc := "([I)Z" } : Jvm.MethodName)) ∈ nz_G := nz_inG (List.mem_append_right _ (List.mem_of_getElem? (i := 883) (by decide +kernel))) rfl
theorem nz_w942 : (Jvm.Cond.code ({ cls := "NestFinderModel", name := "mends", desc := "([I)Z" } : Jvm.MethodName) prog_10_method_49_code (6 : Nat) (Option.some Jvm.ClassFile.FieldType.boolean)) ∈ nz_G := nz_inG (List.mem_append_right _ (List.mem_of_getElem? (i := 884) (by decide +kernel))) rfl
theorem nz_w943 : (Jvm.Cond.methodLink "NestFinderModel" (207 : Nat) ({ cls := "NestFinderModel", name := "comes", desc := "([III)I" } : Jvm.MethodName)) ∈ nz_G := nz_inG (List.mem_append_right _ (List.mem_of_getElem? (i := 885) (by decide +kernel))) rfl
theorem nz_w945 : (Jvm.Cond.instanceMethod ({ cls := "NestFinderModel", name := "comes", desc := "([III)I" } : Jvm.MethodName)) ∈ nz_G := nz_inG (List.mem_append_right _ (List.mem_of_getElem? (i := 887) (by decide +kernel))) rfl
theorem nz_w946 : (Jvm.Cond.code ({ cls := "NestFinderModel", name := "comes", desc := "([III)I" } : Jvm.MethodName) prog_10_method_48_code (5 : Nat) (Option.some Jvm.ClassFile.FieldType.int)) ∈ nz_G := nz_inG (List.mem_append_right _ (List.mem_of_getElem? (i := 888) (by decide +kernel))) rfl
theorem nz_w947 : (Jvm.Cond.methodLink "NestFinderLaw" (67 : Nat) ({ cls := "NestFinderModel", name := "undo", desc := "()I" } : Jvm.MethodName)) ∈ nz_G := nz_inG (List.mem_append_right _ (List.mem_of_getElem? (i := 889) (by decide +kernel))) rfl
theorem nz_w948 : (Jvm.Cond.instanceMethod ({ cls := "NestFinderModel", name := "undo", desc := "()I" } : Jvm.MethodName)) ∈ nz_G := nz_inG (List.mem_append_right _ (List.mem_of_getElem? (i := 890) (by decide +kernel))) rfl
theorem nz_w949 : (Jvm.Cond.selects "NestFinderModel" ({ cls := "NestFinderModel", name := "undo", desc := "()I" } : Jvm.MethodName) ({ cls := "NestFinderModel", name := "undo", desc := "()I" } : Jvm.MethodName)) ∈ nz_G := nz_inG (List.mem_append_right _ (List.mem_of_getElem? (i := 891) (by decide +kernel))) rfl
theorem nz_w950 : (Jvm.Cond.code ({ cls := "NestFinderModel", name := "undo", desc := "()I" } : Jvm.MethodName) prog_10_method_52_code (2 : Nat) (Option.some Jvm.ClassFile.FieldType.int)) ∈ nz_G := nz_inG (List.mem_append_right _ (List.mem_of_getElem? (i := 892) (by decide +kernel))) rfl
theorem nz_w951 : (Jvm.Cond.methodLink "NestFinderLaw" (72 : Nat) ({ cls := "NestFinderModel", name := "run", desc := "(III)I" } : Jvm.MethodName)) ∈ nz_G := nz_inG (List.mem_append_right _ (List.mem_of_getElem? (i := 893) (by decide +kernel))) rfl
theorem nz_w952 : (Jvm.Cond.instanceMethod ({ cls := "NestFinderModel", name := "run", desc := "(III)I" } : Jvm.MethodName)) ∈ nz_G := nz_inG (List.mem_append_right _ (List.mem_of_getElem? (i := 894) (by decide +kernel))) rfl
theorem nz_w953 : (Jvm.Cond.selects "NestFinderModel" ({ cls := "NestFinderModel", name := "run", desc := "(III)I" } : Jvm.MethodName) ({ cls := "NestFinderModel", name := "run", desc := "(III)I" } : Jvm.MethodName)) ∈ nz_G := nz_inG (List.mem_append_right _ (List.mem_of_getElem? (i := 895) (by decide +kernel))) rfl
theorem nz_w954 : (Jvm.Cond.code ({ cls := "NestFinderModel", name := "run", desc := "(III)I" } : Jvm.MethodName) prog_10_method_56_code (5 : Nat) (Option.some Jvm.ClassFile.FieldType.int)) ∈ nz_G := nz_inG (List.mem_append_right _ (List.mem_of_getElem? (i := 896) (by decide +kernel))) rfl
theorem nz_w955 : (Jvm.Cond.methodLink "NestFinderModel" (222 : Nat) ({ cls := "NestFinderModel", name := "areChoices", desc := "(II)Z" } : Jvm.MethodName)) ∈ nz_G := nz_inG (List.mem_append_right _ (List.mem_of_getElem? (i := 897) (by decide +kernel))) rfl
theorem nz_w956 : (Jvm.Cond.static ({ cls := "NestFinderModel", name := "areChoices", desc := "(II)Z" } : Jvm.MethodName)) ∈ nz_G := nz_inG (List.mem_append_right _ (List.mem_of_getElem? (i := 898) (by decide +kernel))) rfl
theorem nz_w957 : (Jvm.Cond.code ({ cls := "NestFinderModel", name := "areChoices", desc := "(II)Z" } : Jvm.MethodName) prog_10_method_54_code (4 : Nat) (Option.some Jvm.ClassFile.FieldType.boolean)) ∈ nz_G := nz_inG (List.mem_append_right _ (List.mem_of_getElem? (i := 899) (by decide +kernel))) rfl
theorem nz_w958 : (Jvm.Cond.methodLink "NestFinderModel" (216 : Nat) ({ cls := "NestFinderModel", name := "power", desc := "(II)I" } : Jvm.MethodName)) ∈ nz_G := nz_inG (List.mem_append_right _ (List.mem_of_getElem? (i := 900) (by decide +kernel))) rfl
theorem nz_w959 : (Jvm.Cond.static ({ cls := "NestFinderModel", name := "power", desc := "(II)I" } : Jvm.MethodName)) ∈ nz_G := nz_inG (List.mem_append_right _ (List.mem_of_getElem? (i := 901) (by decide +kernel))) rfl
theorem nz_w960 : (Jvm.Cond.code ({ cls := "NestFinderModel", name := "power", desc := "(II)I" } : Jvm.MethodName) prog_10_method_6_code (4 : Nat) (Option.some Jvm.ClassFile.FieldType.int)) ∈ nz_G := nz_inG (List.mem_append_right _ (List.mem_of_getElem? (i := 902) (by decide +kernel))) rfl
theorem nz_w961 : (Jvm.Cond.methodLink "NestFinderModel" (225 : Nat) ({ cls := "NestFinderModel", name := "runs", desc := "(II)I" } : Jvm.MethodName)) ∈ nz_G := nz_inG (List.mem_append_right _ (List.mem_of_getElem? (i := 903) (by decide +kernel))) rfl
theorem nz_w963 : (Jvm.Cond.instanceMethod ({ cls := "NestFinderModel", name := "runs", desc := "(II)I" } : Jvm.MethodName)) ∈ nz_G := nz_inG (List.mem_append_right _ (List.mem_of_getElem? (i := 905) (by decide +kernel))) rfl
theorem nz_w964 : (Jvm.Cond.code ({ cls := "NestFinderModel", name := "runs", desc := "(II)I" } : Jvm.MethodName) prog_10_method_55_code (5 : Nat) (Option.some Jvm.ClassFile.FieldType.int)) ∈ nz_G := nz_inG (List.mem_append_right _ (List.mem_of_getElem? (i := 906) (by decide +kernel))) rfl
theorem nz_w965 : (Jvm.Cond.methodLink "NestFinderModel" (219 : Nat) ({ cls := "NestFinderModel", name := "step", desc := "(II)I" } : Jvm.MethodName)) ∈ nz_G := nz_inG (List.mem_append_right _ (List.mem_of_getElem? (i := 907) (by decide +kernel))) rfl
theorem nz_w967 : (Jvm.Cond.instanceMethod ({ cls := "NestFinderModel", name := "step", desc := "(II)I" } : Jvm.MethodName)) ∈ nz_G := nz_inG (List.mem_append_right _ (List.mem_of_getElem? (i := 909) (by decide +kernel))) rfl
theorem nz_w968 : (Jvm.Cond.code ({ cls := "NestFinderModel", name := "step", desc := "(II)I" } : Jvm.MethodName) prog_10_method_53_code (4 : Nat) (Option.some Jvm.ClassFile.FieldType.int)) ∈ nz_G := nz_inG (List.mem_append_right _ (List.mem_of_getElem? (i := 910) (by decide +kernel))) rfl
theorem nz_w969 : (Jvm.Cond.methodLink "NestFinderLaw" (76 : Nat) ({ cls := "NestFinderModel", name := "would", desc := "(I)I" } : Jvm.MethodName)) ∈ nz_G := nz_inG (List.mem_append_right _ (List.mem_of_getElem? (i := 911) (by decide +kernel))) rfl
theorem nz_w970 : (Jvm.Cond.instanceMethod ({ cls := "NestFinderModel", name := "would", desc := "(I)I" } : Jvm.MethodName)) ∈ nz_G := nz_inG (List.mem_append_right _ (List.mem_of_getElem? (i := 912) (by decide +kernel))) rfl
theorem nz_w971 : (Jvm.Cond.selects "NestFinderModel" ({ cls := "NestFinderModel", name := "would", desc := "(I)I" } : Jvm.MethodName) ({ cls := "NestFinderModel", name := "would", desc := "(I)I" } : Jvm.MethodName)) ∈ nz_G := nz_inG (List.mem_append_right _ (List.mem_of_getElem? (i := 913) (by decide +kernel))) rfl
theorem nz_w972 : (Jvm.Cond.code ({ cls := "NestFinderModel", name := "would", desc := "(I)I" } : Jvm.MethodName) prog_10_method_58_code (3 : Nat) (Option.some Jvm.ClassFile.FieldType.int)) ∈ nz_G := nz_inG (List.mem_append_right _ (List.mem_of_getElem? (i := 914) (by decide +kernel))) rfl
theorem nz_w973 : (Jvm.Cond.constantLong "NestFinderModel" (228 : Nat) (2 : Int64)) ∈ nz_G := nz_inG (List.mem_append_right _ (List.mem_of_getElem? (i := 915) (by decide +kernel))) rfl
theorem nz_w974 : (Jvm.Cond.methodLink "NestFinderModel" (230 : Nat) ({ cls := "NestFinderModel", name := "begin", desc := "()V" } : Jvm.MethodName)) ∈ nz_G := nz_inG (List.mem_append_right _ (List.mem_of_getElem? (i := 916) (by decide +kernel))) rfl
theorem nz_w976 : (Jvm.Cond.instanceMethod ({ cls := "NestFinderModel", name := "begin", desc := "()V" } : Jvm.MethodName)) ∈ nz_G := nz_inG (List.mem_append_right _ (List.mem_of_getElem? (i := 918) (by decide +kernel))) rfl
theorem nz_w977 : (Jvm.Cond.code ({ cls := "NestFinderModel", name := "begin", desc := "()V" } : Jvm.MethodName) prog_10_method_57_code (2 : Nat) (Option.none : Option Jvm.ClassFile.FieldType)) ∈ nz_G := nz_inG (List.mem_append_right _ (List.mem_of_getElem? (i := 919) (by decide +kernel))) rfl
theorem nz_w978 : (Jvm.Cond.methodLink "NestFinderLaw" (83 : Nat) ({ cls := "NestFinderModel", name := "judge", desc := "(IJ)I" } : Jvm.MethodName)) ∈ nz_G := nz_inG (List.mem_append_right _ (List.mem_of_getElem? (i := 920) (by decide +kernel))) rfl
theorem nz_w979 : (Jvm.Cond.instanceMethod ({ cls := "NestFinderModel", name := "judge", desc := "(IJ)I" } : Jvm.MethodName)) ∈ nz_G := nz_inG (List.mem_append_right _ (List.mem_of_getElem? (i := 921) (by decide +kernel))) rfl
theorem nz_w980 : (Jvm.Cond.selects "NestFinderModel" ({ cls := "NestFinderModel", name := "judge", desc := "(IJ)I" } : Jvm.MethodName) ({ cls := "NestFinderModel", name := "judge", desc := "(IJ)I" } : Jvm.MethodName)) ∈ nz_G := nz_inG (List.mem_append_right _ (List.mem_of_getElem? (i := 922) (by decide +kernel))) rfl
theorem nz_w981 : (Jvm.Cond.code ({ cls := "NestFinderModel", name := "judge", desc := "(IJ)I" } : Jvm.MethodName) prog_10_method_65_code (5 : Nat) (Option.some Jvm.ClassFile.FieldType.int)) ∈ nz_G := nz_inG (List.mem_append_right _ (List.mem_of_getElem? (i := 923) (by decide +kernel))) rfl
theorem nz_w982 : (Jvm.Cond.constantLong "NestFinderModel" (246 : Nat) (4 : Int64)) ∈ nz_G := nz_inG (List.mem_append_right _ (List.mem_of_getElem? (i := 924) (by decide +kernel))) rfl
theorem nz_w983 : (Jvm.Cond.constantLong "NestFinderModel" (248 : Nat) (1000 : Int64)) ∈ nz_G := nz_inG (List.mem_append_right _ (List.mem_of_getElem? (i := 925) (by decide +kernel))) rfl
theorem nz_w984 : (Jvm.Cond.methodLink "NestFinderModel" (250 : Nat) ({ cls := "NestFinderModel", name := "longPower", desc := "(JI)J" } : Jvm.MethodName)) ∈ nz_G := nz_inG (List.mem_append_right _ (List.mem_of_getElem? (i := 926) (by decide +kernel))) rfl
theorem nz_w985 : (Jvm.Cond.static ({ cls := "NestFinderModel", name := "longPower", desc := "(JI)J" } : Jvm.MethodName)) ∈ nz_G := nz_inG (List.mem_append_right _ (List.mem_of_getElem? (i := 927) (by decide +kernel))) rfl
theorem nz_w986 : (Jvm.Cond.code ({ cls := "NestFinderModel", name := "longPower", desc := "(JI)J" } : Jvm.MethodName) prog_10_method_59_code (6 : Nat) (Option.some Jvm.ClassFile.FieldType.long)) ∈ nz_G := nz_inG (List.mem_append_right _ (List.mem_of_getElem? (i := 928) (by decide +kernel))) rfl
theorem nz_w987 : (Jvm.Cond.methodLink "NestFinderModel" (254 : Nat) ({ cls := "NestFinderModel", name := "does", desc := "(I)Z" } : Jvm.MethodName)) ∈ nz_G := nz_inG (List.mem_append_right _ (List.mem_of_getElem? (i := 929) (by decide +kernel))) rfl
theorem nz_w989 : (Jvm.Cond.instanceMethod ({ cls := "NestFinderModel", name := "does", desc := "(I)Z" } : Jvm.MethodName)) ∈ nz_G := nz_inG (List.mem_append_right _ (List.mem_of_getElem? (i := 931) (by decide +kernel))) rfl
theorem nz_w990 : (Jvm.Cond.code ({ cls := "NestFinderModel", name := "does", desc := "(I)Z" } : Jvm.MethodName) prog_10_method_64_code (5 : Nat) (Option.some Jvm.ClassFile.FieldType.boolean)) ∈ nz_G := nz_inG (List.mem_append_right _ (List.mem_of_getElem? (i := 932) (by decide +kernel))) rfl
theorem nz_w991 : (Jvm.Cond.methodLink "NestFinderModel" (233 : Nat) ({ cls := "NestFinderModel", name := "adds", desc := "(II)Z" } : Jvm.MethodName)) ∈ nz_G := nz_inG (List.mem_append_right _ (List.mem_of_getElem? (i := 933) (by decide +kernel))) rfl
theorem nz_w993 : (Jvm.Cond.instanceMethod ({ cls := "NestFinderModel", name := "adds", desc := "(II)Z" } : Jvm.MethodName)) ∈ nz_G := nz_inG (List.mem_append_right _ (List.mem_of_getElem? (i := 935) (by decide +kernel))) rfl
theorem nz_w994 : (Jvm.Cond.code ({ cls := "NestFinderModel", name := "adds", desc := "(II)Z" } : Jvm.MethodName) prog_10_method_60_code (4 : Nat) (Option.some Jvm.ClassFile.FieldType.boolean)) ∈ nz_G := nz_inG (List.mem_append_right _ (List.mem_of_getElem? (i := 936) (by decide +kernel))) rfl
theorem nz_w995 : (Jvm.Cond.methodLink "NestFinderModel" (236 : Nat) ({ cls := "NestFinderModel", name := "cuts", desc := "(II)Z" } : Jvm.MethodName)) ∈ nz_G := nz_inG (List.mem_append_right _ (List.mem_of_getElem? (i := 937) (by decide +kernel))) rfl
theorem nz_w997 : (Jvm.Cond.instanceMethod ({ cls := "NestFinderModel", name := "cuts", desc := "(II)Z" } : Jvm.MethodName)) ∈ nz_G := nz_inG (List.mem_append_right _ (List.mem_of_getElem? (i := 939) (by decide +kernel))) rfl
theorem nz_w998 : (Jvm.Cond.code ({ cls := "NestFinderModel", name := "cuts", desc := "(II)Z" } : Jvm.MethodName) prog_10_method_61_code (4 : Nat) (Option.some Jvm.ClassFile.FieldType.boolean)) ∈ nz_G := nz_inG (List.mem_append_right _ (List.mem_of_getElem? (i := 940) (by decide +kernel))) rfl
theorem nz_w999 : (Jvm.Cond.methodLink "NestFinderModel" (239 : Nat) ({ cls := "NestFinderModel", name := "splits", desc := "(II)Z" } : Jvm.MethodName)) ∈ nz_G := nz_inG (List.mem_append_right _ (List.mem_of_getElem? (i := 941) (by decide +kernel))) rfl
theorem nz_w1001 : (Jvm.Cond.instanceMethod ({ cls := "NestFinderModel", name := "splits", desc := "(II)Z" } : Jvm.MethodName)) ∈ nz_G := nz_inG (List.mem_append_right _ (List.mem_of_getElem? (i := 943) (by decide +kernel))) rfl
theorem nz_w1002 : (Jvm.Cond.code ({ cls := "NestFinderModel", name := "splits", desc := "(II)Z" } : Jvm.MethodName) prog_10_method_62_code (4 : Nat) (Option.some Jvm.ClassFile.FieldType.boolean)) ∈ nz_G := nz_inG (List.mem_append_right _ (List.mem_of_getElem? (i := 944) (by decide +kernel))) rfl
theorem nz_w1003 : (Jvm.Cond.methodLink "NestFinderModel" (242 : Nat) ({ cls := "NestFinderModel", name := "isSo", desc := "(III)Z" } : Jvm.MethodName)) ∈ nz_G := nz_inG (List.mem_append_right _ (List.mem_of_getElem? (i := 945) (by decide +kernel))) rfl
theorem nz_w1005 : (Jvm.Cond.instanceMethod ({ cls := "NestFinderModel", name := "isSo", desc := "(III)Z" } : Jvm.MethodName)) ∈ nz_G := nz_inG (List.mem_append_right _ (List.mem_of_getElem? (i := 947) (by decide +kernel))) rfl
theorem nz_w1006 : (Jvm.Cond.code ({ cls := "NestFinderModel", name := "isSo", desc := "(III)Z" } : Jvm.MethodName) prog_10_method_63_code (4 : Nat) (Option.some Jvm.ClassFile.FieldType.boolean)) ∈ nz_G := nz_inG (List.mem_append_right _ (List.mem_of_getElem? (i := 948) (by decide +kernel))) rfl
theorem nz_w1007 : (Jvm.Cond.methodLink "NestFinderLaw" (88 : Nat) ({ cls := "NestFinderModel", name := "share", desc := "(IIZ)I" } : Jvm.MethodName)) ∈ nz_G := nz_inG (List.mem_append_right _ (List.mem_of_getElem? (i := 949) (by decide +kernel))) rfl
theorem nz_w1008 : (Jvm.Cond.instanceMethod ({ cls := "NestFinderModel", name := "share", desc := "(IIZ)I" } : Jvm.MethodName)) ∈ nz_G := nz_inG (List.mem_append_right _ (List.mem_of_getElem? (i := 950) (by decide +kernel))) rfl
theorem nz_w1009 : (Jvm.Cond.selects "NestFinderModel" ({ cls := "NestFinderModel", name := "share", desc := "(IIZ)I" } : Jvm.MethodName) ({ cls := "NestFinderModel", name := "share", desc := "(IIZ)I" } : Jvm.MethodName)) ∈ nz_G := nz_inG (List.mem_append_right _ (List.mem_of_getElem? (i := 951) (by decide +kernel))) rfl
theorem nz_w1010 : (Jvm.Cond.code ({ cls := "NestFinderModel", name := "share", desc := "(IIZ)I" } : Jvm.MethodName) prog_10_method_70_code (8 : Nat) (Option.some Jvm.ClassFile.FieldType.int)) ∈ nz_G := nz_inG (List.mem_append_right _ (List.mem_of_getElem? (i := 952) (by decide +kernel))) rfl
theorem nz_w1011 : (Jvm.Cond.methodLink "NestFinderModel" (260 : Nat) ({ cls := "NestFinderModel", name := "keepArcs", desc := "(II)V" } : Jvm.MethodName)) ∈ nz_G := nz_inG (List.mem_append_right _ (List.mem_of_getElem? (i := 953) (by decide +kernel))) rfl
theorem nz_w1013 : (Jvm.Cond.instanceMethod ({ cls := "NestFinderModel", name := "keepArcs", desc := "(II)V" } : Jvm.MethodName)) ∈ nz_G := nz_inG (List.mem_append_right _ (List.mem_of_getElem? (i := 955) (by decide +kernel))) rfl
theorem nz_w1014 : (Jvm.Cond.code ({ cls := "NestFinderModel", name := "keepArcs", desc := "(II)V" } : Jvm.MethodName) prog_10_method_69_code (4 : Nat) (Option.none : Option Jvm.ClassFile.FieldType)) ∈ nz_G := nz_inG (List.mem_append_right _ (List.mem_of_getElem? (i := 956) (by decide +kernel))) rfl
theorem nz_w1015 : (Jvm.Cond.methodLink "NestFinderModel" (263 : Nat) ({ cls := "NestFinderModel", name := "many", desc := "(I)I" } : Jvm.MethodName)) ∈ nz_G := nz_inG (List.mem_append_right _ (List.mem_of_getElem? (i := 957) (by decide +kernel))) rfl
theorem nz_w1016 : (Jvm.Cond.static ({ cls := "NestFinderModel", name := "many", desc := "(I)I" } : Jvm.MethodName)) ∈ nz_G := nz_inG (List.mem_append_right _ (List.mem_of_getElem? (i := 958) (by decide +kernel))) rfl
theorem nz_w1017 : (Jvm.Cond.code ({ cls := "NestFinderModel", name := "many", desc := "(I)I" } : Jvm.MethodName) prog_10_method_5_code (3 : Nat) (Option.some Jvm.ClassFile.FieldType.int)) ∈ nz_G := nz_inG (List.mem_append_right _ (List.mem_of_getElem? (i := 959) (by decide +kernel))) rfl
theorem nz_w1018 : (Jvm.Cond.methodLink "NestFinderModel" (266 : Nat) ({ cls := "NestFinderModel", name := "ways", desc := "(I)I" } : Jvm.MethodName)) ∈ nz_G := nz_inG (List.mem_append_right _ (List.mem_of_getElem? (i := 960) (by decide +kernel))) rfl
theorem nz_w1019 : (Jvm.Cond.static ({ cls := "NestFinderModel", name := "ways", desc := "(I)I" } : Jvm.MethodName)) ∈ nz_G := nz_inG (List.mem_append_right _ (List.mem_of_getElem? (i := 961) (by decide +kernel))) rfl
theorem nz_w1020 : (Jvm.Cond.code ({ cls := "NestFinderModel", name := "ways", desc := "(I)I" } : Jvm.MethodName) prog_10_method_66_code (3 : Nat) (Option.some Jvm.ClassFile.FieldType.int)) ∈ nz_G := nz_inG (List.mem_append_right _ (List.mem_of_getElem? (i := 962) (by decide +kernel))) rfl
theorem nz_w1021 : (Jvm.Cond.methodLink "NestFinderModel" (269 : Nat) ({ cls := "NestFinderModel", name := "fraction", desc := "(IIZ)I" } : Jvm.MethodName)) ∈ nz_G := nz_inG (List.mem_append_right _ (List.mem_of_getElem? (i := 963) (by decide +kernel))) rfl
theorem nz_w1022 : (Jvm.Cond.static ({ cls := "NestFinderModel", name := "fraction", desc := "(IIZ)I" } : Jvm.MethodName)) ∈ nz_G := nz_inG (List.mem_append_right _ (List.mem_of_getElem? (i := 964) (by decide +kernel))) rfl
theorem nz_w1023 : (Jvm.Cond.code ({ cls := "NestFinderModel", name := "fraction", desc := "(IIZ)I" } : Jvm.MethodName) prog_10_method_68_code (4 : Nat) (Option.some Jvm.ClassFile.FieldType.int)) ∈ nz_G := nz_inG (List.mem_append_right _ (List.mem_of_getElem? (i := 965) (by decide +kernel))) rfl
theorem nz_w1024 : (Jvm.Cond.methodLink "NestFinderModel" (257 : Nat) ({ cls := "NestFinderModel", name := "divisor", desc := "(II)I" } : Jvm.MethodName)) ∈ nz_G := nz_inG (List.mem_append_right _ (List.mem_of_getElem? (i := 966) (by decide +kernel))) rfl
theorem nz_w1025 : (Jvm.Cond.static ({ cls := "NestFinderModel", name := "divisor", desc := "(II)I" } : Jvm.MethodName)) ∈ nz_G := nz_inG (List.mem_append_right _ (List.mem_of_getElem? (i := 967) (by decide +kernel))) rfl
theorem nz_w1026 : (Jvm.Cond.code ({ cls := "NestFinderModel", name := "divisor", desc := "(II)I" } : Jvm.MethodName) prog_10_method_67_code (5 : Nat) (Option.some Jvm.ClassFile.FieldType.int)) ∈ nz_G := nz_inG (List.mem_append_right _ (List.mem_of_getElem? (i := 968) (by decide +kernel))) rfl
theorem nz_w1027 : (Jvm.Cond.methodLink "NestFinderLaw" (92 : Nat) ({ cls := "NestFinderModel", name := "see", desc := "(III)I" } : Jvm.MethodName)) ∈ nz_G := nz_inG (List.mem_append_right _ (List.mem_of_getElem? (i := 969) (by decide +kernel))) rfl
theorem nz_w1028 : (Jvm.Cond.instanceMethod ({ cls := "NestFinderModel", name := "see", desc := "(III)I" } : Jvm.MethodName)) ∈ nz_G := nz_inG (List.mem_append_right _ (List.mem_of_getElem? (i := 970) (by decide +kernel))) rfl
theorem nz_w1029 : (Jvm.Cond.selects "NestFinderModel" ({ cls := "NestFinderModel", name := "see", desc := "(III)I" } : Jvm.MethodName) ({ cls := "NestFinderModel", name := "see", desc := "(III)I" } : Jvm.MethodName)) ∈ nz_G := nz_inG (List.mem_append_right _ (List.mem_of_getElem? (i := 971) (by decide +kernel))) rfl
theorem nz_w1030 : (Jvm.Cond.code ({ cls := "NestFinderModel", name := "see", desc := "(III)I" } : Jvm.MethodName) prog_10_method_71_code (4 : Nat) (Option.some Jvm.ClassFile.FieldType.int)) ∈ nz_G := nz_inG (List.mem_append_right _ (List.mem_of_getElem? (i := 972) (by decide +kernel))) rfl
theorem nz_w1031 : (Jvm.Cond.methodLink "NestFinderLaw" (96 : Nat) ({ cls := "NestFinderModel", name := "unsee", desc := "()I" } : Jvm.MethodName)) ∈ nz_G := nz_inG (List.mem_append_right _ (List.mem_of_getElem? (i := 973) (by decide +kernel))) rfl
theorem nz_w1032 : (Jvm.Cond.instanceMethod ({ cls := "NestFinderModel", name := "unsee", desc := "()I" } : Jvm.MethodName)) ∈ nz_G := nz_inG (List.mem_append_right _ (List.mem_of_getElem? (i := 974) (by decide +kernel))) rfl
theorem nz_w1033 : (Jvm.Cond.selects "NestFinderModel" ({ cls := "NestFinderModel", name := "unsee", desc := "()I" } : Jvm.MethodName) ({ cls := "NestFinderModel", name := "unsee", desc := "()I" } : Jvm.MethodName)) ∈ nz_G := nz_inG (List.mem_append_right _ (List.mem_of_getElem? (i := 975) (by decide +kernel))) rfl
theorem nz_w1034 : (Jvm.Cond.code ({ cls := "NestFinderModel", name := "unsee", desc := "()I" } : Jvm.MethodName) prog_10_method_72_code (2 : Nat) (Option.some Jvm.ClassFile.FieldType.int)) ∈ nz_G := nz_inG (List.mem_append_right _ (List.mem_of_getElem? (i := 976) (by decide +kernel))) rfl
theorem nz_w1035 : (Jvm.Cond.methodLink "NestFinderLaw" (100 : Nat) ({ cls := "NestFinderModel", name := "rows", desc := "(I)I" } : Jvm.MethodName)) ∈ nz_G := nz_inG (List.mem_append_right _ (List.mem_of_getElem? (i := 977) (by decide +kernel))) rfl
theorem nz_w1036 : (Jvm.Cond.instanceMethod ({ cls := "NestFinderModel", name := "rows", desc := "(I)I" } : Jvm.MethodName)) ∈ nz_G := nz_inG (List.mem_append_right _ (List.mem_of_getElem? (i := 978) (by decide +kernel))) rfl
theorem nz_w1037 : (Jvm.Cond.selects "NestFinderModel" ({ cls := "NestFinderModel", name := "rows", desc := "(I)I" } : Jvm.MethodName) ({ cls := "NestFinderModel", name := "rows", desc := "(I)I" } : Jvm.MethodName)) ∈ nz_G := nz_inG (List.mem_append_right _ (List.mem_of_getElem? (i := 979) (by decide +kernel))) rfl
theorem nz_w1038 : (Jvm.Cond.code ({ cls := "NestFinderModel", name := "rows", desc := "(I)I" } : Jvm.MethodName) prog_10_method_75_code (5 : Nat) (Option.some Jvm.ClassFile.FieldType.int)) ∈ nz_G := nz_inG (List.mem_append_right _ (List.mem_of_getElem? (i := 980) (by decide +kernel))) rfl
theorem nz_w1039 : (Jvm.Cond.methodLink "NestFinderModel" (279 : Nat) ({ cls := "NestFinderModel", name := "actBehind", desc := "(II)I" } : Jvm.MethodName)) ∈ nz_G := nz_inG (List.mem_append_right _ (List.mem_of_getElem? (i := 981) (by decide +kernel))) rfl
theorem nz_w1041 : (Jvm.Cond.instanceMethod ({ cls := "NestFinderModel", name := "actBehind", desc := "(II)I" } : Jvm.MethodName)) ∈ nz_G := nz_inG (List.mem_append_right _ (List.mem_of_getElem? (i := 983) (by decide +kernel))) rfl
theorem nz_w1042 : (Jvm.Cond.code ({ cls := "NestFinderModel", name := "actBehind", desc := "(II)I" } : Jvm.MethodName) prog_10_method_73_code (5 : Nat) (Option.some Jvm.ClassFile.FieldType.int)) ∈ nz_G := nz_inG (List.mem_append_right _ (List.mem_of_getElem? (i := 984) (by decide +kernel))) rfl
theorem nz_w1043 : (Jvm.Cond.methodLink "NestFinderModel" (282 : Nat) ({ cls := "NestFinderModel", name := "figures", desc := "(I)I" } : Jvm.MethodName)) ∈ nz_G := nz_inG (List.mem_append_right _ (List.mem_of_getElem? (i := 985) (by decide +kernel))) rfl
theorem nz_w1044 : (Jvm.Cond.static ({ cls := "NestFinderModel", name := "figures", desc := "(I)I" } : Jvm.MethodName)) ∈ nz_G := nz_inG (List.mem_append_right _ (List.mem_of_getElem? (i := 986) (by decide +kernel))) rfl
theorem nz_w1045 : (Jvm.Cond.code ({ cls := "NestFinderModel", name := "figures", desc := "(I)I" } : Jvm.MethodName) prog_10_method_74_code (1 : Nat) (Option.some Jvm.ClassFile.FieldType.int)) ∈ nz_G := nz_inG (List.mem_append_right _ (List.mem_of_getElem? (i := 987) (by decide +kernel))) rfl
theorem nz_w1046 : (Jvm.Cond.methodLink "NestFinderLaw" (104 : Nat) ({ cls := "NestFinderModel", name := "torn", desc := "(IIZ)I" } : Jvm.MethodName)) ∈ nz_G := nz_inG (List.mem_append_right _ (List.mem_of_getElem? (i := 988) (by decide +kernel))) rfl
theorem nz_w1047 : (Jvm.Cond.instanceMethod ({ cls := "NestFinderModel", name := "torn", desc := "(IIZ)I" } : Jvm.MethodName)) ∈ nz_G := nz_inG (List.mem_append_right _ (List.mem_of_getElem? (i := 989) (by decide +kernel))) rfl
theorem nz_w1048 : (Jvm.Cond.selects "NestFinderModel" ({ cls := "NestFinderModel", name := "torn", desc := "(IIZ)I" } : Jvm.MethodName) ({ cls := "NestFinderModel", name := "torn", desc := "(IIZ)I" } : Jvm.MethodName)) ∈ nz_G := nz_inG (List.mem_append_right _ (List.mem_of_getElem? (i := 990) (by decide +kernel))) rfl
theorem nz_w1049 : (Jvm.Cond.code ({ cls := "NestFinderModel", name := "torn", desc := "(IIZ)I" } : Jvm.MethodName) prog_10_method_76_code (8 : Nat) (Option.some Jvm.ClassFile.FieldType.int)) ∈ nz_G := nz_inG (List.mem_append_right _ (List.mem_of_getElem? (i := 991) (by decide +kernel))) rfl
theorem nz_w1050 : (Jvm.Cond.constantLong "NestFinderModel" (285 : Nat) (10 : Int64)) ∈ nz_G := nz_inG (List.mem_append_right _ (List.mem_of_getElem? (i := 992) (by decide +kernel))) rfl
theorem nz_w1051 : (Jvm.Cond.methodLink "NestFinderLaw" (109 : Nat) ({ cls := "NestFinderModel", name := "seed", desc := "(J)J" } : Jvm.MethodName)) ∈ nz_G := nz_inG (List.mem_append_right _ (List.mem_of_getElem? (i := 993) (by decide +kernel))) rfl
theorem nz_w1052 : (Jvm.Cond.instanceMethod ({ cls := "NestFinderModel", name := "seed", desc := "(J)J" } : Jvm.MethodName)) ∈ nz_G := nz_inG (List.mem_append_right _ (List.mem_of_getElem? (i := 994) (by decide +kernel))) rfl
theorem nz_w1053 : (Jvm.Cond.selects "NestFinderModel" ({ cls := "NestFinderModel", name := "seed", desc := "(J)J" } : Jvm.MethodName) ({ cls := "NestFinderModel", name := "seed", desc := "(J)J" } : Jvm.MethodName)) ∈ nz_G := nz_inG (List.mem_append_right _ (List.mem_of_getElem? (i := 995) (by decide +kernel))) rfl
theorem nz_w1054 : (Jvm.Cond.code ({ cls := "NestFinderModel", name := "seed", desc := "(J)J" } : Jvm.MethodName) prog_10_method_77_code (5 : Nat) (Option.some Jvm.ClassFile.FieldType.long)) ∈ nz_G := nz_inG (List.mem_append_right _ (List.mem_of_getElem? (i := 996) (by decide +kernel))) rfl
theorem nz_w1055 : (Jvm.Cond.methodLink "NestFinderLaw" (113 : Nat) ({ cls := "NestFinderModel", name := "drawn", desc := "(I)I" } : Jvm.MethodName)) ∈ nz_G := nz_inG (List.mem_append_right _ (List.mem_of_getElem? (i := 997) (by decide +kernel))) rfl
theorem nz_w1056 : (Jvm.Cond.instanceMethod ({ cls := "NestFinderModel", name := "drawn", desc := "(I)I" } : Jvm.MethodName)) ∈ nz_G := nz_inG (List.mem_append_right _ (List.mem_of_getElem? (i := 998) (by decide +kernel))) rfl
theorem nz_w1057 : (Jvm.Cond.selects "NestFinderModel" ({ cls := "NestFinderModel", name := "drawn", desc := "(I)I" } : Jvm.MethodName) ({ cls := "NestFinderModel", name := "drawn", desc := "(I)I" } : Jvm.MethodName)) ∈ nz_G := nz_inG (List.mem_append_right _ (List.mem_of_getElem? (i := 999) (by decide +kernel))) rfl
theorem nz_w1058 : (Jvm.Cond.code ({ cls := "NestFinderModel", name := "drawn", desc := "(I)I" } : Jvm.MethodName) prog_10_method_78_code (5 : Nat) (Option.some Jvm.ClassFile.FieldType.int)) ∈ nz_G := nz_inG (List.mem_append_right _ (List.mem_of_getElem? (i := 1000) (by decide +kernel))) rfl
theorem nz_w1059 : (Jvm.Cond.constantLong "NestFinderModel" (291 : Nat) (20 : Int64)) ∈ nz_G := nz_inG (List.mem_append_right _ (List.mem_of_getElem? (i := 1001) (by decide +kernel))) rfl
theorem nz_w1060 : (Jvm.Cond.constantLong "NestFinderModel" (293 : Nat) (6364136223846793005 : Int64)) ∈ nz_G := nz_inG (List.mem_append_right _ (List.mem_of_getElem? (i := 1002) (by decide +kernel))) rfl
theorem nz_w1061 : (Jvm.Cond.constantLong "NestFinderModel" (295 : Nat) (1442695040888963407 : Int64)) ∈ nz_G := nz_inG (List.mem_append_right _ (List.mem_of_getElem? (i := 1003) (by decide +kernel))) rfl
theorem nz_w1062 : (Jvm.Cond.methodLink "NestFinderLaw" (117 : Nat) ({ cls := "NestFinderModel", name := "keep", desc := "(I)I" } : Jvm.MethodName)) ∈ nz_G := nz_inG (List.mem_append_right _ (List.mem_of_getElem? (i := 1004) (by decide +kernel))) rfl
theorem nz_w1063 : (Jvm.Cond.instanceMethod ({ cls := "NestFinderModel", name := "keep", desc := "(I)I" } : Jvm.MethodName)) ∈ nz_G := nz_inG (List.mem_append_right _ (List.mem_of_getElem? (i := 1005) (by decide +kernel))) rfl
theorem nz_w1064 : (Jvm.Cond.selects "NestFinderModel" ({ cls := "NestFinderModel", name := "keep", desc := "(I)I" } : Jvm.MethodName) ({ cls := "NestFinderModel", name := "keep", desc := "(I)I" } : Jvm.MethodName)) ∈ nz_G := nz_inG (List.mem_append_right _ (List.mem_of_getElem? (i := 1006) (by decide +kernel))) rfl
theorem nz_w1065 : (Jvm.Cond.code ({ cls := "NestFinderModel", name := "keep", desc := "(I)I" } : Jvm.MethodName) prog_10_method_79_code (3 : Nat) (Option.some Jvm.ClassFile.FieldType.int)) ∈ nz_G := nz_inG (List.mem_append_right _ (List.mem_of_getElem? (i := 1007) (by decide +kernel))) rfl
theorem nz_w1066 : (Jvm.Cond.methodLink "NestFinderLaw" (121 : Nat) ({ cls := "NestFinderModel", name := "again", desc := "(I)I" } : Jvm.MethodName)) ∈ nz_G := nz_inG (List.mem_append_right _ (List.mem_of_getElem? (i := 1008) (by decide +kernel))) rfl
theorem nz_w1067 : (Jvm.Cond.instanceMethod ({ cls := "NestFinderModel", name := "again", desc := "(I)I" } : Jvm.MethodName)) ∈ nz_G := nz_inG (List.mem_append_right _ (List.mem_of_getElem? (i := 1009) (by decide +kernel))) rfl
theorem nz_w1068 : (Jvm.Cond.selects "NestFinderModel" ({ cls := "NestFinderModel", name := "again", desc := "(I)I" } : Jvm.MethodName) ({ cls := "NestFinderModel", name := "again", desc := "(I)I" } : Jvm.MethodName)) ∈ nz_G := nz_inG (List.mem_append_right _ (List.mem_of_getElem? (i := 1010) (by decide +kernel))) rfl
theorem nz_w1069 : (Jvm.Cond.code ({ cls := "NestFinderModel", name := "again", desc := "(I)I" } : Jvm.MethodName) prog_10_method_80_code (3 : Nat) (Option.some Jvm.ClassFile.FieldType.int)) ∈ nz_G := nz_inG (List.mem_append_right _ (List.mem_of_getElem? (i := 1011) (by decide +kernel))) rfl
theorem nz_w1070 : (Jvm.Cond.constantLong "NestFinderLaw" (77 : Nat) (4294967295 : Int64)) ∈ nz_G := nz_inG (List.mem_append_right _ (List.mem_of_getElem? (i := 1012) (by decide +kernel))) rfl
theorem nz_uX0 : ∀ w ∈ wsX00, w ∈ nz_G := by decide +kernel
theorem nz_uX1 : ∀ w ∈ wsX10, w ∈ nz_G := by decide +kernel
theorem nz_uX2 : ∀ w ∈ wsX20, w ∈ nz_G := by decide +kernel
theorem nz_uX3 : ∀ w ∈ wsX30, w ∈ nz_G := by decide +kernel
theorem nz_uX4 : ∀ w ∈ wsX40, w ∈ nz_G := by decide +kernel
theorem nz_uX5 : ∀ w ∈ wsX50, w ∈ nz_G := by decide +kernel
theorem nz_uX6 : ∀ w ∈ wsX60, w ∈ nz_G := by decide +kernel
theorem nz_uX7 : ∀ w ∈ wsX70, w ∈ nz_G := by decide +kernel
theorem nz_uX8 : ∀ w ∈ wsX80, w ∈ nz_G := by decide +kernel
end
section
/-! ONE WORLD: cells of a fixed table tb (rows of ints or booleans; objects whose fields are ints, the one long, or cells of the table), at the addresses q; their contents are the state x: x.1 cell place, x.2 the long. -/
abbrev nz_S : Type := (Nat → Nat → Int32) × Int64
abbrev nz_K : Type := (Nat × Bool) ⊕ (Nat × List (Bool ⊕ Nat))
abbrev nz_O : Type := va_G × ClassId × ClassId
abbrev nz_C : Type := (Program × Launch × Env × Room × State) × (MethodId × Array Value × List Frame × Method × Code) × ((State → Prop) × nz_O)
abbrev nz_cl : List vw_C := [(RX0, TX0, 4), (RX1, TX1, 3), (RX2, TX2, 4), (RX3, TX3, 4), (RX4, TX4, 2), (RX5, TX5, 11), (RX6, TX6, 2), (RX7, TX7, 8), (RX8, TX8, 28)]
def nz_set (x : nz_S) (c : Nat) (f : Nat → Int32) : nz_S := (va_up x.1 c f, x.2)
def nz_put (x : nz_S) (c i : Nat) (v : Int32) : nz_S := nz_set x c (upd (x.1 c) i v)
def nz_lng (x : nz_S) (v : Int64) : nz_S := (x.1, v)
def nz_fv (q : Nat → Nat) (x : nz_S) (c k : Nat) (f : Bool ⊕ Nat) : Value := match f with
  | .inl false => .int (x.1 c k)
  | .inl true => .long x.2
  | .inr d => .ref (q d)
def nz_fs (q : Nat → Nat) (x : nz_S) (c : Nat) : Nat → List (Bool ⊕ Nat) → List Value
  | _, [] => []
  | k, f :: fs => nz_fv q x c k f :: nz_fs q x c (k + 1) fs
def nz_E (w : nz_O) (q : Nat → Nat) (x : nz_S) (c : Nat) (d : nz_K) : va_E := match d with
  | .inl (n, false) => .inl (w.2.1, n, .inl (x.1 c))
  | .inl (n, true) => .inl (w.2.2, n, .inl (x.1 c))
  | .inr (ci, fs) => .inr (ci, nz_fs q x c 0 fs)
def nz_Wl (w : nz_O) (q : Nat → Nat) (x : nz_S) : Nat → List nz_K → va_W
  | _, [] => []
  | k, d :: ds => (q k, nz_E w q x k d) :: nz_Wl w q x (k + 1) ds
abbrev nz_W (w : nz_O) (q : Nat → Nat) (x : nz_S) (tb : List nz_K) : va_W := nz_Wl w q x 0 tb
def nz_A (tb : List nz_K) (q : Nat → Nat) (sz : Nat) : Nat → Prop := fun a => (∃ k, k < tb.length ∧ a = q k) ∨ sz ≤ a
abbrev nz_ty (w : nz_O) : List (ClassId × FieldType) := [(w.2.1, .int), (w.2.2, .boolean)]
theorem nz_fs_get (q : Nat → Nat) (x : nz_S) (c : Nat) : ∀ (fs : List (Bool ⊕ Nat)) (k i : Nat), (nz_fs q x c k fs)[i]? = (fs[i]?).map (nz_fv q x c (k + i))
  | [], _, _ => by simp [nz_fs]
  | f :: fs, k, 0 => by simp [nz_fs]
  | f :: fs, k, i + 1 => by
    have h := nz_fs_get q x c fs (k + 1) i
    simp only [nz_fs, List.getElem?_cons_succ, h]
    rw [show k + 1 + i = k + (i + 1) by omega]
theorem nz_fs_len (q : Nat → Nat) (x : nz_S) (c : Nat) : ∀ (fs : List (Bool ⊕ Nat)) (k : Nat), (nz_fs q x c k fs).length = fs.length
  | [], _ => rfl
  | f :: fs, k => by simp [nz_fs, nz_fs_len q x c fs (k + 1)]
theorem nz_Wl_get (w : nz_O) (q : Nat → Nat) (x : nz_S) : ∀ (ds : List nz_K) (k i : Nat), (nz_Wl w q x k ds)[i]? = (ds[i]?).map (fun d => (q (k + i), nz_E w q x (k + i) d))
  | [], _, _ => by simp [nz_Wl]
  | d :: ds, k, 0 => by simp [nz_Wl]
  | d :: ds, k, i + 1 => by
    have h := nz_Wl_get w q x ds (k + 1) i
    simp only [nz_Wl, List.getElem?_cons_succ, h]
    rw [show k + 1 + i = k + (i + 1) by omega]
theorem nz_Wl_len (w : nz_O) (q : Nat → Nat) (x : nz_S) : ∀ (ds : List nz_K) (k : Nat), (nz_Wl w q x k ds).length = ds.length
  | [], _ => rfl
  | d :: ds, k => by simp [nz_Wl, nz_Wl_len w q x ds (k + 1)]
theorem nz_at {w : nz_O} {q : Nat → Nat} {x : nz_S} {tb : List nz_K} {c : Nat} {d : nz_K} (h : tb[c]? = some d) : (nz_W w q x tb)[c]? = some (q c, nz_E w q x c d) := by
  rw [nz_Wl_get, h]; simp
theorem nz_setW {w : nz_O} {q : Nat → Nat} {x x' : nz_S} {tb : List nz_K} {c : Nat} {d : nz_K} (h : tb[c]? = some d) (ho : ∀ c' d', c' ≠ c → tb[c']? = some d' → nz_E w q x' c' d' = nz_E w q x c' d') : (nz_W w q x tb).set c (q c, nz_E w q x' c d) = nz_W w q x' tb := by
  apply List.ext_getElem?
  intro i
  rw [List.getElem?_set, nz_Wl_get, nz_Wl_get, nz_Wl_len]
  by_cases hi : c = i
  · subst hi
    obtain ⟨hl, he⟩ := List.getElem?_eq_some_iff.mp h
    simp [hl, he]
  · rw [if_neg hi]
    cases hd : tb[i]? with
    | none => rfl
    | some d' => simp only [Option.map_some, Nat.zero_add]; rw [ho i d' (fun e => hi e.symm) hd]
theorem nz_fs_cong {q : Nat → Nat} {x x' : nz_S} {c : Nat} (h1 : x'.1 c = x.1 c) (h2 : x'.2 = x.2) : ∀ (fs : List (Bool ⊕ Nat)) (k : Nat), nz_fs q x' c k fs = nz_fs q x c k fs
  | [], _ => rfl
  | f :: fs, k => by
    rw [nz_fs, nz_fs, nz_fs_cong h1 h2 fs (k + 1)]
    congr 1
    rcases f with (_ | _) | d <;> simp [nz_fv, h1, h2]
theorem nz_E_cong {w : nz_O} {q : Nat → Nat} {x x' : nz_S} {c : Nat} {d : nz_K} (h1 : x'.1 c = x.1 c) (h2 : x'.2 = x.2) : nz_E w q x' c d = nz_E w q x c d := by
  rcases d with ⟨n, (_ | _)⟩ | ⟨ci, fs⟩
  · simp [nz_E, h1]
  · simp [nz_E, h1]
  · simp [nz_E, nz_fs_cong h1 h2]
theorem nz_set_ne {x : nz_S} {c c' : Nat} {f : Nat → Int32} (h : c' ≠ c) : (nz_set x c f).1 c' = x.1 c' := by simp [nz_set, va_up, h]
theorem nz_set_eq {x : nz_S} {c : Nat} {f : Nat → Int32} : (nz_set x c f).1 c = f := by simp [nz_set, va_up]
theorem nz_set_2 {x : nz_S} {c : Nat} {f : Nat → Int32} : (nz_set x c f).2 = x.2 := rfl
theorem nz_setA {w : nz_O} {q : Nat → Nat} {x : nz_S} {tb : List nz_K} {c n : Nat} {f : Nat → Int32} (h : tb[c]? = some (.inl (n, false))) : (nz_W w q x tb).set c (q c, .inl (w.2.1, n, .inl f)) = nz_W w q (nz_set x c f) tb := by
  have e := nz_setW (w := w) (q := q) (x := x) (x' := nz_set x c f) h (fun c' d' hc _ => nz_E_cong (nz_set_ne hc) rfl)
  rw [← e]
  simp [nz_E, nz_set_eq]
theorem nz_setZ {w : nz_O} {q : Nat → Nat} {x : nz_S} {tb : List nz_K} {c n : Nat} {f : Nat → Int32} (h : tb[c]? = some (.inl (n, true))) : (nz_W w q x tb).set c (q c, .inl (w.2.2, n, .inl f)) = nz_W w q (nz_set x c f) tb := by
  have e := nz_setW (w := w) (q := q) (x := x) (x' := nz_set x c f) h (fun c' d' hc _ => nz_E_cong (nz_set_ne hc) rfl)
  rw [← e]
  simp [nz_E, nz_set_eq]
theorem nz_setF {w : nz_O} {q : Nat → Nat} {x : nz_S} {tb : List nz_K} {c ci k : Nat} {fs : List (Bool ⊕ Nat)} {v : Int32} (h : tb[c]? = some (.inr (ci, fs))) (hk : fs[k]? = some (.inl false)) : (nz_W w q x tb).set c (q c, .inr (ci, (nz_fs q x c 0 fs).set k (.int v))) = nz_W w q (nz_put x c k v) tb := by
  have e := nz_setW (w := w) (q := q) (x := x) (x' := nz_put x c k v) h (fun c' d' hc _ => nz_E_cong (nz_set_ne hc) rfl)
  rw [← e]
  have e2 : (nz_fs q x c 0 fs).set k (.int v) = nz_fs q (nz_put x c k v) c 0 fs := by
    apply List.ext_getElem?
    intro i
    rw [List.getElem?_set, nz_fs_get, nz_fs_get, nz_fs_len]
    by_cases hi : k = i
    · subst hi
      obtain ⟨hl, he⟩ := List.getElem?_eq_some_iff.mp hk
      simp [hl, he, nz_fv, nz_put, nz_set_eq, upd]
    · rw [if_neg hi]
      cases hd : fs[i]? with
      | none => rfl
      | some f =>
        have hi' : i ≠ k := fun e => hi e.symm
        rcases f with (_ | _) | d <;> simp [nz_fv, nz_put, nz_set_eq, upd, hi', nz_set_2]
  rw [e2]
  rfl
def nz_nol (tb : List nz_K) (c : Nat) : Bool := (List.range tb.length).all (fun k => k == c || match tb[k]? with
  | some (.inr (_, fs)) => fs.all (fun f => match f with | .inl true => false | _ => true)
  | _ => true)
theorem nz_fs_congL {q : Nat → Nat} {x : nz_S} {v : Int64} {c : Nat} : ∀ (fs : List (Bool ⊕ Nat)) (k : Nat), fs.all (fun f => match f with | .inl true => false | _ => true) = true → nz_fs q (nz_lng x v) c k fs = nz_fs q x c k fs
  | [], _, _ => rfl
  | f :: fs, k, h => by
    rw [List.all_cons, Bool.and_eq_true] at h
    rw [nz_fs, nz_fs, nz_fs_congL fs (k + 1) h.2]
    congr 1
    rcases f with (_ | _) | d
    · rfl
    · exact absurd h.1 (by simp)
    · rfl
theorem nz_setL {w : nz_O} {q : Nat → Nat} {x : nz_S} {tb : List nz_K} {c ci k : Nat} {fs : List (Bool ⊕ Nat)} {v : Int64} (h : tb[c]? = some (.inr (ci, fs))) (hk : fs[k]? = some (.inl true)) (h1 : ∀ j, fs[j]? = some (.inl true) → j = k) (hn : nz_nol tb c = true) : (nz_W w q x tb).set c (q c, .inr (ci, (nz_fs q x c 0 fs).set k (.long v))) = nz_W w q (nz_lng x v) tb := by
  have e := nz_setW (w := w) (q := q) (x := x) (x' := nz_lng x v) h (fun c' d' hc hd => by
    rcases d' with ⟨n, (_ | _)⟩ | ⟨ci', fs'⟩
    · rfl
    · rfl
    · have hl : c' < tb.length := (List.getElem?_eq_some_iff.mp hd).1
      have h2 := List.all_eq_true.mp hn c' (List.mem_range.mpr hl)
      rw [hd] at h2
      have h3 : (c' == c) = false := by simpa using hc
      rw [h3, Bool.false_or] at h2
      simp only [nz_E]
      rw [nz_fs_congL fs' 0 h2])
  rw [← e]
  have e2 : (nz_fs q x c 0 fs).set k (.long v) = nz_fs q (nz_lng x v) c 0 fs := by
    apply List.ext_getElem?
    intro i
    rw [List.getElem?_set, nz_fs_get, nz_fs_get, nz_fs_len]
    by_cases hi : k = i
    · subst hi
      obtain ⟨hl, he⟩ := List.getElem?_eq_some_iff.mp hk
      simp [hl, he, nz_fv, nz_lng]
    · rw [if_neg hi]
      cases hd : fs[i]? with
      | none => rfl
      | some f =>
        rcases f with (_ | _) | d
        · rfl
        · exact absurd (h1 i hd).symm hi
        · rfl
  rw [e2]
  rfl
/-! locals: a list in which the first entry of a place counts -/
def nz_lk : List (Nat × Value) → Nat → Option Value
  | [], _ => none
  | (j, v) :: r, i => match Nat.beq j i with
    | true => some v
    | false => nz_lk r i
def nz_has (ls : Array Slot) (nL : Nat) (lv : List (Nat × Value)) : Prop := ls.size = nL ∧ lv_wf ls ∧ ∀ i v, nz_lk lv i = some v → ls[i]? = some (.val v)
theorem nz_lk_mem : ∀ {lv : List (Nat × Value)} {i : Nat} {v : Value}, nz_lk lv i = some v → (i, v) ∈ lv
  | [], _, _, h => by cases h
  | (j, w) :: r, i, v, h => by
    unfold nz_lk at h
    cases hb : Nat.beq j i with
    | true =>
      rw [hb] at h
      have e := Nat.eq_of_beq_eq_true hb
      cases h
      subst e
      exact List.mem_cons_self
    | false =>
      rw [hb] at h
      exact List.mem_cons_of_mem _ (nz_lk_mem h)
theorem nz_has_of {ls : Array Slot} {nL : Nat} {lv : List (Nat × Value)} (h : lv_has ls nL lv) : nz_has ls nL lv := ⟨h.1, h.2.1, fun _ _ hi => h.2.2 _ (nz_lk_mem hi)⟩
def nz_nm (lv : List (Nat × Value)) : List (Nat × Value) := lv.filter (fun p => match nz_lk lv p.1 with | some v => true | none => false)
/-- the entries that count, as a list -/
def nz_cn : List (Nat × Value) → List Nat → List (Nat × Value)
  | [], _ => []
  | (j, v) :: r, seen => if j ∈ seen then nz_cn r seen else (j, v) :: nz_cn r (j :: seen)
theorem nz_cn_mem : ∀ (lv : List (Nat × Value)) (seen : List Nat) (p : Nat × Value), p ∈ nz_cn lv seen → p.1 ∉ seen ∧ nz_lk lv p.1 = some p.2
  | [], _, p, h => by cases h
  | (j, v) :: r, seen, p, h => by
    unfold nz_cn at h
    by_cases hj : j ∈ seen
    · rw [if_pos hj] at h
      obtain ⟨h1, h2⟩ := nz_cn_mem r seen p h
      refine ⟨h1, ?_⟩
      unfold nz_lk
      have : Nat.beq j p.1 = false := by
        cases hb : Nat.beq j p.1 with
        | false => rfl
        | true => exact absurd (Nat.eq_of_beq_eq_true hb ▸ hj) h1
      rw [this]; exact h2
    · rw [if_neg hj] at h
      rcases List.mem_cons.mp h with rfl | h
      · refine ⟨hj, ?_⟩
        unfold nz_lk
        simp
      · obtain ⟨h1, h2⟩ := nz_cn_mem r (j :: seen) p h
        refine ⟨fun q => h1 (List.mem_cons_of_mem _ q), ?_⟩
        unfold nz_lk
        have : Nat.beq j p.1 = false := by
          cases hb : Nat.beq j p.1 with
          | false => rfl
          | true => exact absurd (by rw [Nat.eq_of_beq_eq_true hb]; exact List.mem_cons_self) h1
        rw [this]; exact h2
theorem nz_cn_of : ∀ (lv : List (Nat × Value)) (seen : List Nat) (i : Nat) (v : Value), i ∉ seen → nz_lk lv i = some v → (i, v) ∈ nz_cn lv seen
  | [], _, _, _, _, h => by cases h
  | (j, w) :: r, seen, i, v, hi, h => by
    unfold nz_lk at h
    unfold nz_cn
    cases hb : Nat.beq j i with
    | true =>
      rw [hb] at h
      have e := Nat.eq_of_beq_eq_true hb
      cases h
      subst e
      rw [if_neg hi]
      exact List.mem_cons_self
    | false =>
      rw [hb] at h
      have hne : j ≠ i := fun e => by rw [e] at hb; simp at hb
      by_cases hj : j ∈ seen
      · rw [if_pos hj]; exact nz_cn_of r seen i v hi h
      · rw [if_neg hj]
        exact List.mem_cons_of_mem _ (nz_cn_of r (j :: seen) i v (fun q => (List.mem_cons.mp q).elim (fun e => hne e.symm) hi) h)
theorem nz_has_list {ls : Array Slot} {nL : Nat} {lv : List (Nat × Value)} (h : nz_has ls nL lv) : lv_has ls nL (nz_cn lv []) := ⟨h.1, h.2.1, fun p hp => h.2.2 _ _ (nz_cn_mem lv [] p hp).2⟩
def nz_c1 (o : Option Value) : Bool := match o with
  | some (.long _) => false
  | some (.double _) => false
  | _ => true
def nz_okS (lv : List (Nat × Value)) : Nat → Bool
  | 0 => true
  | i + 1 => nz_c1 (nz_lk lv i)
theorem nz_c1_cat {v : Value} (h : nz_c1 (some v) = true) : v.category = 1 := by
  cases v <;> first | rfl | (simp [nz_c1] at h)
theorem nz_has_st {ls : Array Slot} {nL : Nat} {lv : List (Nat × Value)} {i : Nat} {w : Value} (hok : nz_okS lv i = true)
    (h' : lv_has ls nL ((i, w) :: (nz_cn lv []).filter (fun q => !(q.1 == i) && !(q.1 + 1 == i && q.2.category == 2)))) : nz_has ls nL ((i, w) :: lv) := by
  refine ⟨h'.1, h'.2.1, fun j v hj => ?_⟩
  unfold nz_lk at hj
  cases hb : Nat.beq i j with
  | true =>
    rw [hb] at hj
    have e := Nat.eq_of_beq_eq_true hb
    cases hj
    subst e
    exact h'.2.2 (i, w) List.mem_cons_self
  | false =>
    rw [hb] at hj
    have hj : nz_lk lv j = some v := hj
    have hne : j ≠ i := fun e => by rw [e] at hb; simp at hb
    refine h'.2.2 (j, v) (List.mem_cons_of_mem _ (List.mem_filter.mpr ⟨nz_cn_of lv [] j v (by simp) hj, ?_⟩))
    simp only [Bool.and_eq_true, Bool.not_eq_true', beq_eq_false_iff_ne, ne_eq, Bool.and_eq_false_iff]
    refine ⟨hne, ?_⟩
    by_cases he : j + 1 = i
    · right
      subst he
      have hok : nz_c1 (nz_lk lv j) = true := hok
      rw [hj] at hok
      rw [nz_c1_cat hok]
      simp
    · left
      simpa using he
theorem nz_has_st2 {ls : Array Slot} {nL : Nat} {lv : List (Nat × Value)} {i : Nat} {w : Value} (hok : nz_okS lv i = true) (hno : nz_lk lv (i + 1) = none)
    (h' : lv_has ls nL ((i, w) :: (nz_cn lv []).filter (fun q => !(q.1 == i) && (!(q.1 == i + 1) && !(q.1 + 1 == i && q.2.category == 2))))) : nz_has ls nL ((i, w) :: lv) := by
  refine ⟨h'.1, h'.2.1, fun j v hj => ?_⟩
  unfold nz_lk at hj
  cases hb : Nat.beq i j with
  | true =>
    rw [hb] at hj
    have e := Nat.eq_of_beq_eq_true hb
    cases hj
    subst e
    exact h'.2.2 (i, w) List.mem_cons_self
  | false =>
    rw [hb] at hj
    have hj : nz_lk lv j = some v := hj
    have hne : j ≠ i := fun e => by rw [e] at hb; simp at hb
    have hne2 : j ≠ i + 1 := fun e => by rw [e, hno] at hj; cases hj
    refine h'.2.2 (j, v) (List.mem_cons_of_mem _ (List.mem_filter.mpr ⟨nz_cn_of lv [] j v (by simp) hj, ?_⟩))
    simp only [Bool.and_eq_true, Bool.not_eq_true', beq_eq_false_iff_ne, ne_eq, Bool.and_eq_false_iff]
    refine ⟨hne, hne2, ?_⟩
    by_cases he : j + 1 = i
    · right
      subst he
      have hok : nz_c1 (nz_lk lv j) = true := hok
      rw [hj] at hok
      rw [nz_c1_cat hok]
      simp
    · left
      simpa using he
def nz_sub (lv : List (Nat × Value)) : List (Nat × Value) → Prop
  | [] => True
  | p :: r => nz_lk lv p.1 = some p.2 ∧ nz_sub lv r
theorem nz_sub_mem {lv : List (Nat × Value)} : ∀ {l : List (Nat × Value)}, nz_sub lv l → ∀ p ∈ l, nz_lk lv p.1 = some p.2
  | [], _, _, h => by cases h
  | q :: r, h, p, hp => by
    rcases List.mem_cons.mp hp with rfl | hp
    · exact h.1
    · exact nz_sub_mem h.2 p hp
theorem nz_has_sub {ls : Array Slot} {nL : Nat} {lv lv' : List (Nat × Value)} (hs : nz_sub lv lv') (h : nz_has ls nL lv) : nz_has ls nL lv' := ⟨h.1, h.2.1, fun i v hi => h.2.2 i v (nz_sub_mem hs (i, v) (nz_lk_mem hi))⟩
def nz_in (i : Int32) (n : Nat) : Bool := decide (¬ i < 0 ∧ i.toNatClampNeg < n)
theorem nz_in_vp {i : Int32} {n : Nat} (h : nz_in i n = true) : vp_in i n := by
  have h := of_decide_eq_true h
  intro q
  rcases q with q | q
  · exact h.1 q
  · omega
/-! links between nest mates: kept beside the words -/
def nz_Nst (U : State) : Prop := ∀ w ∈ nz_nest, va_Nw w U
def nz_isN (w : Cond) : Bool := match w with
  | .fieldLinkNest _ _ _ _ _ _ => true
  | .methodLinkNest _ _ _ _ => true
  | _ => false
theorem nz_nest_all : nz_nest.all nz_isN = true := rfl
theorem nz_isN_warm {w : Cond} (h : nz_isN w = true) {s U : State} (hW : s.WarmedH U.vm) (hZ : va_Nw w s) : va_Nw w U := by
  cases w <;> first | exact va_Nw.warmF hW hZ | exact va_Nw.warmM hW hZ | exact absurd h (by simp [nz_isN])
theorem nz_isN_tab {w : Cond} (h : nz_isN w = true) : w.onTables = true := by
  cases w <;> first | rfl | exact absurd h (by simp [nz_isN])
theorem nz_Nst.warm {s U : State} (hW : s.WarmedH U.vm) (h : nz_Nst s) : nz_Nst U := fun w hw => nz_isN_warm (List.all_eq_true.mp nz_nest_all w hw) hW (h w hw)
theorem nz_Nst.same {s U : State} (hv : s.vm = U.vm) (h : nz_Nst s) : nz_Nst U := fun w hw => va_Nw.same (nz_isN_tab (List.all_eq_true.mp nz_nest_all w hw)) hv (h w hw)
theorem nz_Nst.use {s : State} (h : nz_Nst s) {w : Cond} (hw : w ∈ nz_nest) (A : Array Value) : w.before A s = true := va_Nw.use (nz_isN_tab (List.all_eq_true.mp nz_nest_all w hw)) (h w hw)
/-! THE WALK -/
def nz_St (κ : nz_C) (q : Nat → Nat) (tb : List nz_K) (nL pc : Nat) (lv : List (Nat × Value)) (st : List Value) (x : nz_S) : Prop :=
  ∀ (H : Heap) (locs : List Loc) (ls : Array Slot), va_P κ.2.2.2.1 nz_cl (nz_W κ.2.2.2 q x tb) H → va_D (nz_A tb q κ.1.2.2.2.2.heap.size) (nz_W κ.2.2.2 q x tb) → va_S (nz_A tb q κ.1.2.2.2.2.heap.size) κ.1.2.2.2.2.heap H locs → nz_has ls nL lv →
    W κ.1.1 κ.1.2.1 κ.1.2.2.1 κ.1.2.2.2.1 κ.1.2.2.2.2 κ.2.1.1 κ.2.1.2.1 κ.2.1.2.2.1 κ.2.1.2.2.2.1 κ.2.1.2.2.2.2 H locs 0 0 κ.2.2.1 (F0 κ.2.1.1 pc ls st)
def nz_Env (κ : nz_C) (q : Nat → Nat) (tb : List nz_K) (nL : Nat) (cc : ByteArray) (own : String) (Ts : List Cond) (rm : Room) : Prop :=
  κ.1.1.tables.exec = Jvm.exec ∧ κ.2.1.2.2.2.2.code = cc ∧ κ.2.1.2.2.2.2.maxLocals = nL ∧ κ.1.2.2.2.2.vm.findClass own = some κ.2.1.1.cls ∧ (∀ w ∈ Ts, w.before κ.2.1.2.1 κ.1.2.2.2.2 = true) ∧ va_K κ.2.2.2.1 nz_cl (nz_ty κ.2.2.2) κ.1.2.2.2.2 ∧ κ.2.1.2.2.2.1.locks = false ∧ κ.1.2.2.2.1 = rm ∧ rm.cells = 0 ∧ rm.slots = 0 ∧ nz_Nst κ.1.2.2.2.2
section NZ
variable {κ : nz_C} {q : Nat → Nat} {tb : List nz_K} {nL pc : Nat} {cc : ByteArray} {own : String} {Ts : List Cond} {rm : Room} {lv : List (Nat × Value)} {st : List Value} {x : nz_S}
theorem nz_Env.hx (E : nz_Env κ q tb nL cc own Ts rm) : κ.1.1.tables.exec = Jvm.exec := E.1
theorem nz_Env.hb (E : nz_Env κ q tb nL cc own Ts rm) : κ.2.1.2.2.2.2.code = cc := E.2.1
theorem nz_Env.hml (E : nz_Env κ q tb nL cc own Ts rm) : κ.2.1.2.2.2.2.maxLocals = nL := E.2.2.1
theorem nz_Env.hown (E : nz_Env κ q tb nL cc own Ts rm) : κ.1.2.2.2.2.vm.findClass own = some κ.2.1.1.cls := E.2.2.2.1
theorem nz_Env.hts (E : nz_Env κ q tb nL cc own Ts rm) : ∀ w ∈ Ts, w.before κ.2.1.2.1 κ.1.2.2.2.2 = true := E.2.2.2.2.1
theorem nz_Env.hK (E : nz_Env κ q tb nL cc own Ts rm) : va_K κ.2.2.2.1 nz_cl (nz_ty κ.2.2.2) κ.1.2.2.2.2 := E.2.2.2.2.2.1
theorem nz_Env.hlk (E : nz_Env κ q tb nL cc own Ts rm) : κ.2.1.2.2.2.1.locks = false := E.2.2.2.2.2.2.1
theorem nz_Env.hR (E : nz_Env κ q tb nL cc own Ts rm) : κ.1.2.2.2.1 = rm := E.2.2.2.2.2.2.2.1
theorem nz_Env.hc0 (E : nz_Env κ q tb nL cc own Ts rm) : rm.cells = 0 := E.2.2.2.2.2.2.2.2.1
theorem nz_Env.hs0 (E : nz_Env κ q tb nL cc own Ts rm) : rm.slots = 0 := E.2.2.2.2.2.2.2.2.2.1
theorem nz_Env.hN (E : nz_Env κ q tb nL cc own Ts rm) : nz_Nst κ.1.2.2.2.2 := E.2.2.2.2.2.2.2.2.2.2
theorem nz_weak {lv' : List (Nat × Value)} (hs : nz_sub lv lv') (k : nz_St κ q tb nL pc lv' st x) : nz_St κ q tb nL pc lv st x := fun H locs ls hP hD hS hl => k H locs ls hP hD hS (nz_has_sub hs hl)

theorem nz_iconst (E : nz_Env κ q tb nL cc own Ts rm) {n : Int} {v : Int32} (d : decode cc pc = .ok (.iconst n, 1)) (hv : (Int32.ofInt n) = v) (k : nz_St κ q tb nL (pc + 1) lv (.int v :: st) x) : nz_St κ q tb nL pc lv st x := fun H locs ls hP hD hS hl => lv_iconst E.hx E.hb d hv (k H locs ls hP hD hS hl)
theorem nz_bipush (E : nz_Env κ q tb nL cc own Ts rm) {n : Int} {v : Int32} (d : decode cc pc = .ok (.bipush n, 2)) (hv : ((Int8.ofInt n).toInt32) = v) (k : nz_St κ q tb nL (pc + 2) lv (.int v :: st) x) : nz_St κ q tb nL pc lv st x := fun H locs ls hP hD hS hl => lv_bipush E.hx E.hb d hv (k H locs ls hP hD hS hl)
theorem nz_sipush (E : nz_Env κ q tb nL cc own Ts rm) {n : Int} {v : Int32} (d : decode cc pc = .ok (.sipush n, 3)) (hv : ((Int16.ofInt n).toInt32) = v) (k : nz_St κ q tb nL (pc + 3) lv (.int v :: st) x) : nz_St κ q tb nL pc lv st x := fun H locs ls hP hD hS hl => lv_sipush E.hx E.hb d hv (k H locs ls hP hD hS hl)
theorem nz_lconst (E : nz_Env κ q tb nL cc own Ts rm) {n : Fin 2} {v : Int64} (d : decode cc pc = .ok (.lconst n, 1)) (hv : Int64.ofNat (n : Nat) = v) (k : nz_St κ q tb nL (pc + 1) lv (.long v :: st) x) : nz_St κ q tb nL pc lv st x := fun H locs ls hP hD hS hl => lv_lconst E.hx E.hb d hv (k H locs ls hP hD hS hl)
theorem nz_iload_n (E : nz_Env κ q tb nL cc own Ts rm) {j : Fin 4} {i : Nat} {v : Int32} (d : decode cc pc = .ok (.iload_n j, 1)) (hi : (j : Nat) = i) (h : nz_lk lv i = some (.int v)) (k : nz_St κ q tb nL (pc + 1) lv (.int v :: st) x) : nz_St κ q tb nL pc lv st x := fun H locs ls hP hD hS hl => lv_iload_n E.hx E.hb d hi (hl.2.2 _ _ h) (k H locs ls hP hD hS hl)
theorem nz_iload (E : nz_Env κ q tb nL cc own Ts rm) {i : Nat} {v : Int32} (d : decode cc pc = .ok (.iload i, 2)) (h : nz_lk lv i = some (.int v)) (k : nz_St κ q tb nL (pc + 2) lv (.int v :: st) x) : nz_St κ q tb nL pc lv st x := fun H locs ls hP hD hS hl => lv_iload E.hx E.hb d (hl.2.2 _ _ h) (k H locs ls hP hD hS hl)
theorem nz_lload_n (E : nz_Env κ q tb nL cc own Ts rm) {j : Fin 4} {i : Nat} {v : Int64} (d : decode cc pc = .ok (.lload_n j, 1)) (hi : (j : Nat) = i) (h : nz_lk lv i = some (.long v)) (k : nz_St κ q tb nL (pc + 1) lv (.long v :: st) x) : nz_St κ q tb nL pc lv st x := fun H locs ls hP hD hS hl => lv_lload_n E.hx E.hb d hi (hl.2.2 _ _ h) (k H locs ls hP hD hS hl)
theorem nz_lload (E : nz_Env κ q tb nL cc own Ts rm) {i : Nat} {v : Int64} (d : decode cc pc = .ok (.lload i, 2)) (h : nz_lk lv i = some (.long v)) (k : nz_St κ q tb nL (pc + 2) lv (.long v :: st) x) : nz_St κ q tb nL pc lv st x := fun H locs ls hP hD hS hl => lv_lload E.hx E.hb d (hl.2.2 _ _ h) (k H locs ls hP hD hS hl)
theorem nz_aload_n (E : nz_Env κ q tb nL cc own Ts rm) {j : Fin 4} {i : Nat} {v : Nat} (d : decode cc pc = .ok (.aload_n j, 1)) (hi : (j : Nat) = i) (h : nz_lk lv i = some (.ref v)) (k : nz_St κ q tb nL (pc + 1) lv (.ref v :: st) x) : nz_St κ q tb nL pc lv st x := fun H locs ls hP hD hS hl => lv_aload_n E.hx E.hb d hi (hl.2.2 _ _ h) (k H locs ls hP hD hS hl)
theorem nz_aload (E : nz_Env κ q tb nL cc own Ts rm) {i : Nat} {v : Nat} (d : decode cc pc = .ok (.aload i, 2)) (h : nz_lk lv i = some (.ref v)) (k : nz_St κ q tb nL (pc + 2) lv (.ref v :: st) x) : nz_St κ q tb nL pc lv st x := fun H locs ls hP hD hS hl => lv_aload E.hx E.hb d (hl.2.2 _ _ h) (k H locs ls hP hD hS hl)
theorem nz_istore_n (E : nz_Env κ q tb nL cc own Ts rm) {j : Fin 4} {i : Nat} {v : Int32} (d : decode cc pc = .ok (.istore_n j, 1)) (hi : (j : Nat) = i) (hn : i < nL) (hok : nz_okS lv i = true) (k : nz_St κ q tb nL (pc + 1) ((i, .int v) :: lv) st x) : nz_St κ q tb nL pc lv (.int v :: st) x := fun H locs ls hP hD hS hl => lv_istore_n E.hx E.hb d hi (nz_has_list hl) hn rfl (fun ls2 hl2 => k H locs ls2 hP hD hS (nz_has_st hok hl2))
theorem nz_istore (E : nz_Env κ q tb nL cc own Ts rm) {i : Nat} {v : Int32} (d : decode cc pc = .ok (.istore i, 2)) (hn : i < nL) (hok : nz_okS lv i = true) (k : nz_St κ q tb nL (pc + 2) ((i, .int v) :: lv) st x) : nz_St κ q tb nL pc lv (.int v :: st) x := fun H locs ls hP hD hS hl => lv_istore E.hx E.hb d (nz_has_list hl) hn rfl (fun ls2 hl2 => k H locs ls2 hP hD hS (nz_has_st hok hl2))
theorem nz_astore_n (E : nz_Env κ q tb nL cc own Ts rm) {j : Fin 4} {i : Nat} {v : Nat} (d : decode cc pc = .ok (.astore_n j, 1)) (hi : (j : Nat) = i) (hn : i < nL) (hok : nz_okS lv i = true) (k : nz_St κ q tb nL (pc + 1) ((i, .ref v) :: lv) st x) : nz_St κ q tb nL pc lv (.ref v :: st) x := fun H locs ls hP hD hS hl => lv_astore_n E.hx E.hb d hi (nz_has_list hl) hn rfl (fun ls2 hl2 => k H locs ls2 hP hD hS (nz_has_st hok hl2))
theorem nz_lstore_n (E : nz_Env κ q tb nL cc own Ts rm) {j : Fin 4} {i : Nat} {v : Int64} (d : decode cc pc = .ok (.lstore_n j, 1)) (hi : (j : Nat) = i) (hn : i + 1 < nL) (hok : nz_okS lv i = true) (hno : nz_lk lv (i + 1) = none) (k : nz_St κ q tb nL (pc + 1) ((i, .long v) :: lv) st x) : nz_St κ q tb nL pc lv (.long v :: st) x := fun H locs ls hP hD hS hl => lv_lstore_n E.hx E.hb d hi (nz_has_list hl) hn rfl (fun ls2 hl2 => k H locs ls2 hP hD hS (nz_has_st2 hok hno hl2))
theorem nz_lstore (E : nz_Env κ q tb nL cc own Ts rm) {i : Nat} {v : Int64} (d : decode cc pc = .ok (.lstore i, 2)) (hn : i + 1 < nL) (hok : nz_okS lv i = true) (hno : nz_lk lv (i + 1) = none) (k : nz_St κ q tb nL (pc + 2) ((i, .long v) :: lv) st x) : nz_St κ q tb nL pc lv (.long v :: st) x := fun H locs ls hP hD hS hl => lv_lstore E.hx E.hb d (nz_has_list hl) hn rfl (fun ls2 hl2 => k H locs ls2 hP hD hS (nz_has_st2 hok hno hl2))
theorem nz_cn_place {lv : List (Nat × Value)} {i : Nat} {v : Value} (h : nz_lk lv i = some v) : ∃ k : Nat, (nz_cn lv [])[k]? = some (i, v) := by
  obtain ⟨k, hk, e⟩ := List.mem_iff_getElem.mp (nz_cn_of lv [] i v (by simp) h)
  exact ⟨k, by rw [List.getElem?_eq_getElem hk, e]⟩
theorem nz_iinc (E : nz_Env κ q tb nL cc own Ts rm) {i : Nat} {n : Int} {v w : Int32} (d : decode cc pc = .ok (.iinc i n, 3)) (h : nz_lk lv i = some (.int v)) (hw : Int32.ofInt n = w) (hn : i < nL) (hok : nz_okS lv i = true) (k : nz_St κ q tb nL (pc + 3) ((i, .int (v + w)) :: lv) st x) : nz_St κ q tb nL pc lv st x := fun H locs ls hP hD hS hl => by
  obtain ⟨j, hj⟩ := nz_cn_place h
  exact lv_iinc E.hx E.hb d (nz_has_list hl) hj (by rw [hw]) hn rfl (fun ls2 hl2 => k H locs ls2 hP hD hS (nz_has_st hok hl2))
theorem nz_iadd (E : nz_Env κ q tb nL cc own Ts rm) {a b : Int32} (d : decode cc pc = .ok (.iadd, 1)) (k : nz_St κ q tb nL (pc + 1) lv (.int (a + b) :: st) x) : nz_St κ q tb nL pc lv (.int b :: .int a :: st) x := fun H locs ls hP hD hS hl => lv_iadd E.hx E.hb d (k H locs ls hP hD hS hl)
theorem nz_isub (E : nz_Env κ q tb nL cc own Ts rm) {a b : Int32} (d : decode cc pc = .ok (.isub, 1)) (k : nz_St κ q tb nL (pc + 1) lv (.int (a - b) :: st) x) : nz_St κ q tb nL pc lv (.int b :: .int a :: st) x := fun H locs ls hP hD hS hl => lv_isub E.hx E.hb d (k H locs ls hP hD hS hl)
theorem nz_imul (E : nz_Env κ q tb nL cc own Ts rm) {a b : Int32} (d : decode cc pc = .ok (.imul, 1)) (k : nz_St κ q tb nL (pc + 1) lv (.int (a * b) :: st) x) : nz_St κ q tb nL pc lv (.int b :: .int a :: st) x := fun H locs ls hP hD hS hl => lv_imul E.hx E.hb d (k H locs ls hP hD hS hl)
theorem nz_iand (E : nz_Env κ q tb nL cc own Ts rm) {a b : Int32} (d : decode cc pc = .ok (.iand, 1)) (k : nz_St κ q tb nL (pc + 1) lv (.int (a &&& b) :: st) x) : nz_St κ q tb nL pc lv (.int b :: .int a :: st) x := fun H locs ls hP hD hS hl => lv_iand E.hx E.hb d (k H locs ls hP hD hS hl)
theorem nz_ior (E : nz_Env κ q tb nL cc own Ts rm) {a b : Int32} (d : decode cc pc = .ok (.ior, 1)) (k : nz_St κ q tb nL (pc + 1) lv (.int (a ||| b) :: st) x) : nz_St κ q tb nL pc lv (.int b :: .int a :: st) x := fun H locs ls hP hD hS hl => lv_ior E.hx E.hb d (k H locs ls hP hD hS hl)
theorem nz_ixor (E : nz_Env κ q tb nL cc own Ts rm) {a b : Int32} (d : decode cc pc = .ok (.ixor, 1)) (k : nz_St κ q tb nL (pc + 1) lv (.int (a ^^^ b) :: st) x) : nz_St κ q tb nL pc lv (.int b :: .int a :: st) x := fun H locs ls hP hD hS hl => lv_ixor E.hx E.hb d (k H locs ls hP hD hS hl)
theorem nz_ishl (E : nz_Env κ q tb nL cc own Ts rm) {a b : Int32} (d : decode cc pc = .ok (.ishl, 1)) (k : nz_St κ q tb nL (pc + 1) lv (.int (a <<< (b &&& 31)) :: st) x) : nz_St κ q tb nL pc lv (.int b :: .int a :: st) x := fun H locs ls hP hD hS hl => lv_ishl E.hx E.hb d (k H locs ls hP hD hS hl)
theorem nz_ishr (E : nz_Env κ q tb nL cc own Ts rm) {a b : Int32} (d : decode cc pc = .ok (.ishr, 1)) (k : nz_St κ q tb nL (pc + 1) lv (.int (a >>> (b &&& 31)) :: st) x) : nz_St κ q tb nL pc lv (.int b :: .int a :: st) x := fun H locs ls hP hD hS hl => lv_ishr E.hx E.hb d (k H locs ls hP hD hS hl)
theorem nz_idiv (E : nz_Env κ q tb nL cc own Ts rm) {a b : Int32} (d : decode cc pc = .ok (.idiv, 1)) (h : (b != 0) = true) (k : nz_St κ q tb nL (pc + 1) lv (.int (a / b) :: st) x) : nz_St κ q tb nL pc lv (.int b :: .int a :: st) x := fun H locs ls hP hD hS hl => lv_idiv E.hx E.hb d (by simpa using h) (k H locs ls hP hD hS hl)
theorem nz_irem (E : nz_Env κ q tb nL cc own Ts rm) {a b : Int32} (d : decode cc pc = .ok (.irem, 1)) (h : (b != 0) = true) (k : nz_St κ q tb nL (pc + 1) lv (.int (a - a / b * b) :: st) x) : nz_St κ q tb nL pc lv (.int b :: .int a :: st) x := fun H locs ls hP hD hS hl => lv_irem E.hx E.hb d (by simpa using h) (k H locs ls hP hD hS hl)
theorem nz_ineg (E : nz_Env κ q tb nL cc own Ts rm) {a : Int32} (d : decode cc pc = .ok (.ineg, 1)) (k : nz_St κ q tb nL (pc + 1) lv (.int (-a) :: st) x) : nz_St κ q tb nL pc lv (.int a :: st) x := fun H locs ls hP hD hS hl => lv_ineg E.hx E.hb d (k H locs ls hP hD hS hl)
theorem nz_iushr (E : nz_Env κ q tb nL cc own Ts rm) {a b : Int32} (d : decode cc pc = .ok (.iushr, 1)) (k : nz_St κ q tb nL (pc + 1) lv (.int ((a.toUInt32 >>> (b.toUInt32 &&& Int32.toUInt32 31)).toInt32) :: st) x) : nz_St κ q tb nL pc lv (.int b :: .int a :: st) x := fun H locs ls hP hD hS hl => lv_iushr E.hx E.hb d rfl (k H locs ls hP hD hS hl)
theorem nz_ladd (E : nz_Env κ q tb nL cc own Ts rm) {a b : Int64} (d : decode cc pc = .ok (.ladd, 1)) (k : nz_St κ q tb nL (pc + 1) lv (.long (a + b) :: st) x) : nz_St κ q tb nL pc lv (.long b :: .long a :: st) x := fun H locs ls hP hD hS hl => lv_ladd E.hx E.hb d (k H locs ls hP hD hS hl)
theorem nz_lsub (E : nz_Env κ q tb nL cc own Ts rm) {a b : Int64} (d : decode cc pc = .ok (.lsub, 1)) (k : nz_St κ q tb nL (pc + 1) lv (.long (a - b) :: st) x) : nz_St κ q tb nL pc lv (.long b :: .long a :: st) x := fun H locs ls hP hD hS hl => lv_lsub E.hx E.hb d (k H locs ls hP hD hS hl)
theorem nz_lmul (E : nz_Env κ q tb nL cc own Ts rm) {a b : Int64} (d : decode cc pc = .ok (.lmul, 1)) (k : nz_St κ q tb nL (pc + 1) lv (.long (a * b) :: st) x) : nz_St κ q tb nL pc lv (.long b :: .long a :: st) x := fun H locs ls hP hD hS hl => lv_lmul E.hx E.hb d (k H locs ls hP hD hS hl)
theorem nz_land (E : nz_Env κ q tb nL cc own Ts rm) {a b : Int64} (d : decode cc pc = .ok (.land, 1)) (k : nz_St κ q tb nL (pc + 1) lv (.long (a &&& b) :: st) x) : nz_St κ q tb nL pc lv (.long b :: .long a :: st) x := fun H locs ls hP hD hS hl => lv_land E.hx E.hb d (k H locs ls hP hD hS hl)
theorem nz_lor (E : nz_Env κ q tb nL cc own Ts rm) {a b : Int64} (d : decode cc pc = .ok (.lor, 1)) (k : nz_St κ q tb nL (pc + 1) lv (.long (a ||| b) :: st) x) : nz_St κ q tb nL pc lv (.long b :: .long a :: st) x := fun H locs ls hP hD hS hl => lv_lor E.hx E.hb d (k H locs ls hP hD hS hl)
theorem nz_ldiv (E : nz_Env κ q tb nL cc own Ts rm) {a b : Int64} (d : decode cc pc = .ok (.ldiv, 1)) (h : (b != 0) = true) (k : nz_St κ q tb nL (pc + 1) lv (.long (a / b) :: st) x) : nz_St κ q tb nL pc lv (.long b :: .long a :: st) x := fun H locs ls hP hD hS hl => lv_ldiv E.hx E.hb d (by simpa using h) (k H locs ls hP hD hS hl)
theorem nz_lrem (E : nz_Env κ q tb nL cc own Ts rm) {a b : Int64} (d : decode cc pc = .ok (.lrem, 1)) (h : (b != 0) = true) (k : nz_St κ q tb nL (pc + 1) lv (.long (a - a / b * b) :: st) x) : nz_St κ q tb nL pc lv (.long b :: .long a :: st) x := fun H locs ls hP hD hS hl => lv_lrem E.hx E.hb d (by simpa using h) (k H locs ls hP hD hS hl)
theorem nz_lshl (E : nz_Env κ q tb nL cc own Ts rm) {a : Int64} {b : Int32} (d : decode cc pc = .ok (.lshl, 1)) (k : nz_St κ q tb nL (pc + 1) lv (.long (a <<< (b.toInt64 &&& 63)) :: st) x) : nz_St κ q tb nL pc lv (.int b :: .long a :: st) x := fun H locs ls hP hD hS hl => lv_lshl E.hx E.hb d rfl (k H locs ls hP hD hS hl)
theorem nz_lushr (E : nz_Env κ q tb nL cc own Ts rm) {a : Int64} {b : Int32} (d : decode cc pc = .ok (.lushr, 1)) (k : nz_St κ q tb nL (pc + 1) lv (.long ((a.toUInt64 >>> (b.toInt64.toUInt64 &&& Int64.toUInt64 63)).toInt64) :: st) x) : nz_St κ q tb nL pc lv (.int b :: .long a :: st) x := fun H locs ls hP hD hS hl => lv_lushr E.hx E.hb d rfl (k H locs ls hP hD hS hl)
theorem nz_i2l (E : nz_Env κ q tb nL cc own Ts rm) {a : Int32} (d : decode cc pc = .ok (.i2l, 1)) (k : nz_St κ q tb nL (pc + 1) lv (.long a.toInt64 :: st) x) : nz_St κ q tb nL pc lv (.int a :: st) x := fun H locs ls hP hD hS hl => lv_i2l E.hx E.hb d rfl (k H locs ls hP hD hS hl)
theorem nz_l2i (E : nz_Env κ q tb nL cc own Ts rm) {a : Int64} (d : decode cc pc = .ok (.l2i, 1)) (k : nz_St κ q tb nL (pc + 1) lv (.int a.toInt32 :: st) x) : nz_St κ q tb nL pc lv (.long a :: st) x := fun H locs ls hP hD hS hl => lv_l2i E.hx E.hb d rfl (k H locs ls hP hD hS hl)
theorem nz_lcmp (E : nz_Env κ q tb nL cc own Ts rm) {a b : Int64} (d : decode cc pc = .ok (.lcmp, 1)) (k : nz_St κ q tb nL (pc + 1) lv (.int (lg_cmp a b) :: st) x) : nz_St κ q tb nL pc lv (.long b :: .long a :: st) x := fun H locs ls hP hD hS hl => W.lcmp E.hx E.hb d (k H locs ls hP hD hS hl)
theorem nz_dup (E : nz_Env κ q tb nL cc own Ts rm) {v : Value} (d : decode cc pc = .ok (.dup, 1)) (hv : v.category = 1) (k : nz_St κ q tb nL (pc + 1) lv (v :: v :: st) x) : nz_St κ q tb nL pc lv (v :: st) x := fun H locs ls hP hD hS hl => lv_dup E.hx E.hb d hv (k H locs ls hP hD hS hl)
theorem nz_dup2 (E : nz_Env κ q tb nL cc own Ts rm) {v w : Value} (d : decode cc pc = .ok (.dup2, 1)) (hv : v.category = 1) (hw : w.category = 1) (k : nz_St κ q tb nL (pc + 1) lv (v :: w :: v :: w :: st) x) : nz_St κ q tb nL pc lv (v :: w :: st) x := fun H locs ls hP hD hS hl => lv_dup2_11 E.hx E.hb d hv hw (k H locs ls hP hD hS hl)
theorem nz_pop (E : nz_Env κ q tb nL cc own Ts rm) {v : Value} (d : decode cc pc = .ok (.pop, 1)) (hv : v.category = 1) (k : nz_St κ q tb nL (pc + 1) lv st x) : nz_St κ q tb nL pc lv (v :: st) x := fun H locs ls hP hD hS hl => lv_pop E.hx E.hb d hv (k H locs ls hP hD hS hl)
theorem nz_goto (E : nz_Env κ q tb nL cc own Ts rm) {off : Int} {tgt : Nat} (d : decode cc pc = .ok (.goto off, 3)) (ht : (pc : Int) + off = (tgt : Int)) (k : nz_St κ q tb nL tgt lv st x) : nz_St κ q tb nL pc lv st x := fun H locs ls hP hD hS hl => lv_goto E.hx E.hb d ht (k H locs ls hP hD hS hl)
theorem nz_if_eq (E : nz_Env κ q tb nL cc own Ts rm) {a : Int32} {off : Int} {tgt : Nat} (d : decode cc pc = .ok (.ifCond .eq off, 3)) (ht : (pc : Int) + off = (tgt : Int)) (kt : a = 0 → nz_St κ q tb nL tgt lv st x) (kf : ¬ (a = 0) → nz_St κ q tb nL (pc + 3) lv st x) : nz_St κ q tb nL pc lv (.int a :: st) x := fun H locs ls hP hD hS hl => lv_if_eq E.hx E.hb d ht (fun h => kt h H locs ls hP hD hS hl) (fun h => kf h H locs ls hP hD hS hl)
theorem nz_icmp_eq (E : nz_Env κ q tb nL cc own Ts rm) {a b : Int32} {off : Int} {tgt : Nat} (d : decode cc pc = .ok (.if_icmp .eq off, 3)) (ht : (pc : Int) + off = (tgt : Int)) (kt : a = b → nz_St κ q tb nL tgt lv st x) (kf : ¬ (a = b) → nz_St κ q tb nL (pc + 3) lv st x) : nz_St κ q tb nL pc lv (.int b :: .int a :: st) x := fun H locs ls hP hD hS hl => lv_icmp_eq E.hx E.hb d ht (fun h => kt h H locs ls hP hD hS hl) (fun h => kf h H locs ls hP hD hS hl)
theorem nz_if_ne (E : nz_Env κ q tb nL cc own Ts rm) {a : Int32} {off : Int} {tgt : Nat} (d : decode cc pc = .ok (.ifCond .ne off, 3)) (ht : (pc : Int) + off = (tgt : Int)) (kt : ¬ (a = 0) → nz_St κ q tb nL tgt lv st x) (kf : a = 0 → nz_St κ q tb nL (pc + 3) lv st x) : nz_St κ q tb nL pc lv (.int a :: st) x := fun H locs ls hP hD hS hl => lv_if_ne E.hx E.hb d ht (fun h => kt h H locs ls hP hD hS hl) (fun h => kf h H locs ls hP hD hS hl)
theorem nz_icmp_ne (E : nz_Env κ q tb nL cc own Ts rm) {a b : Int32} {off : Int} {tgt : Nat} (d : decode cc pc = .ok (.if_icmp .ne off, 3)) (ht : (pc : Int) + off = (tgt : Int)) (kt : ¬ (a = b) → nz_St κ q tb nL tgt lv st x) (kf : a = b → nz_St κ q tb nL (pc + 3) lv st x) : nz_St κ q tb nL pc lv (.int b :: .int a :: st) x := fun H locs ls hP hD hS hl => lv_icmp_ne E.hx E.hb d ht (fun h => kt h H locs ls hP hD hS hl) (fun h => kf h H locs ls hP hD hS hl)
theorem nz_if_lt (E : nz_Env κ q tb nL cc own Ts rm) {a : Int32} {off : Int} {tgt : Nat} (d : decode cc pc = .ok (.ifCond .lt off, 3)) (ht : (pc : Int) + off = (tgt : Int)) (kt : a < 0 → nz_St κ q tb nL tgt lv st x) (kf : ¬ (a < 0) → nz_St κ q tb nL (pc + 3) lv st x) : nz_St κ q tb nL pc lv (.int a :: st) x := fun H locs ls hP hD hS hl => lv_if_lt E.hx E.hb d ht (fun h => kt h H locs ls hP hD hS hl) (fun h => kf h H locs ls hP hD hS hl)
theorem nz_icmp_lt (E : nz_Env κ q tb nL cc own Ts rm) {a b : Int32} {off : Int} {tgt : Nat} (d : decode cc pc = .ok (.if_icmp .lt off, 3)) (ht : (pc : Int) + off = (tgt : Int)) (kt : a < b → nz_St κ q tb nL tgt lv st x) (kf : ¬ (a < b) → nz_St κ q tb nL (pc + 3) lv st x) : nz_St κ q tb nL pc lv (.int b :: .int a :: st) x := fun H locs ls hP hD hS hl => lv_icmp_lt E.hx E.hb d ht (fun h => kt h H locs ls hP hD hS hl) (fun h => kf h H locs ls hP hD hS hl)
theorem nz_if_ge (E : nz_Env κ q tb nL cc own Ts rm) {a : Int32} {off : Int} {tgt : Nat} (d : decode cc pc = .ok (.ifCond .ge off, 3)) (ht : (pc : Int) + off = (tgt : Int)) (kt : 0 ≤ a → nz_St κ q tb nL tgt lv st x) (kf : ¬ (0 ≤ a) → nz_St κ q tb nL (pc + 3) lv st x) : nz_St κ q tb nL pc lv (.int a :: st) x := fun H locs ls hP hD hS hl => lv_if_ge E.hx E.hb d ht (fun h => kt h H locs ls hP hD hS hl) (fun h => kf h H locs ls hP hD hS hl)
theorem nz_icmp_ge (E : nz_Env κ q tb nL cc own Ts rm) {a b : Int32} {off : Int} {tgt : Nat} (d : decode cc pc = .ok (.if_icmp .ge off, 3)) (ht : (pc : Int) + off = (tgt : Int)) (kt : b ≤ a → nz_St κ q tb nL tgt lv st x) (kf : ¬ (b ≤ a) → nz_St κ q tb nL (pc + 3) lv st x) : nz_St κ q tb nL pc lv (.int b :: .int a :: st) x := fun H locs ls hP hD hS hl => lv_icmp_ge E.hx E.hb d ht (fun h => kt h H locs ls hP hD hS hl) (fun h => kf h H locs ls hP hD hS hl)
theorem nz_if_gt (E : nz_Env κ q tb nL cc own Ts rm) {a : Int32} {off : Int} {tgt : Nat} (d : decode cc pc = .ok (.ifCond .gt off, 3)) (ht : (pc : Int) + off = (tgt : Int)) (kt : 0 < a → nz_St κ q tb nL tgt lv st x) (kf : ¬ (0 < a) → nz_St κ q tb nL (pc + 3) lv st x) : nz_St κ q tb nL pc lv (.int a :: st) x := fun H locs ls hP hD hS hl => lv_if_gt E.hx E.hb d ht (fun h => kt h H locs ls hP hD hS hl) (fun h => kf h H locs ls hP hD hS hl)
theorem nz_icmp_gt (E : nz_Env κ q tb nL cc own Ts rm) {a b : Int32} {off : Int} {tgt : Nat} (d : decode cc pc = .ok (.if_icmp .gt off, 3)) (ht : (pc : Int) + off = (tgt : Int)) (kt : b < a → nz_St κ q tb nL tgt lv st x) (kf : ¬ (b < a) → nz_St κ q tb nL (pc + 3) lv st x) : nz_St κ q tb nL pc lv (.int b :: .int a :: st) x := fun H locs ls hP hD hS hl => lv_icmp_gt E.hx E.hb d ht (fun h => kt h H locs ls hP hD hS hl) (fun h => kf h H locs ls hP hD hS hl)
theorem nz_if_le (E : nz_Env κ q tb nL cc own Ts rm) {a : Int32} {off : Int} {tgt : Nat} (d : decode cc pc = .ok (.ifCond .le off, 3)) (ht : (pc : Int) + off = (tgt : Int)) (kt : a ≤ 0 → nz_St κ q tb nL tgt lv st x) (kf : ¬ (a ≤ 0) → nz_St κ q tb nL (pc + 3) lv st x) : nz_St κ q tb nL pc lv (.int a :: st) x := fun H locs ls hP hD hS hl => lv_if_le E.hx E.hb d ht (fun h => kt h H locs ls hP hD hS hl) (fun h => kf h H locs ls hP hD hS hl)
theorem nz_icmp_le (E : nz_Env κ q tb nL cc own Ts rm) {a b : Int32} {off : Int} {tgt : Nat} (d : decode cc pc = .ok (.if_icmp .le off, 3)) (ht : (pc : Int) + off = (tgt : Int)) (kt : a ≤ b → nz_St κ q tb nL tgt lv st x) (kf : ¬ (a ≤ b) → nz_St κ q tb nL (pc + 3) lv st x) : nz_St κ q tb nL pc lv (.int b :: .int a :: st) x := fun H locs ls hP hD hS hl => lv_icmp_le E.hx E.hb d ht (fun h => kt h H locs ls hP hD hS hl) (fun h => kf h H locs ls hP hD hS hl)
theorem nz_tabOut (E : nz_Env κ q tb nL cc own Ts rm) {dflt lo hi : Int} {offs : Array Int} {len : Nat} {a : Int32} {tgt : Nat} (d : decode cc pc = .ok (.tableswitch dflt lo hi offs, len)) (h : a.toInt < lo ∨ hi < a.toInt) (ht : (pc : Int) + dflt = (tgt : Int)) (k : nz_St κ q tb nL tgt lv st x) : nz_St κ q tb nL pc lv (.int a :: st) x := fun H locs ls hP hD hS hl => lv_tableOut E.hx E.hb d h ht (k H locs ls hP hD hS hl)
theorem nz_tabIn (E : nz_Env κ q tb nL cc own Ts rm) {dflt lo hi : Int} {offs : Array Int} {len : Nat} {a : Int32} {off : Int} {tgt : Nat} (d : decode cc pc = .ok (.tableswitch dflt lo hi offs, len)) (h1 : ¬ a.toInt < lo) (h2 : ¬ hi < a.toInt) (ho : offs[(a.toInt - lo).toNat]? = some off) (ht : (pc : Int) + off = (tgt : Int)) (k : nz_St κ q tb nL tgt lv st x) : nz_St κ q tb nL pc lv (.int a :: st) x := fun H locs ls hP hD hS hl => lv_tableIn E.hx E.hb d h1 h2 ho ht (k H locs ls hP hD hS hl)
theorem nz_lookup (E : nz_Env κ q tb nL cc own Ts rm) {dflt : Int} {ps : Array (Int × Int)} {len : Nat} {a : Int32} {off : Int} {tgt : Nat} (d : decode cc pc = .ok (.lookupswitch dflt ps, len)) (hp : (ps.toList.zip (ps.toList.drop 1)).all (fun (a, next) => a.1 < next.1) = true) (ho : Op.lookupswitch.offset ps.toList dflt a.toInt = off) (ht : (pc : Int) + off = (tgt : Int)) (k : nz_St κ q tb nL tgt lv st x) : nz_St κ q tb nL pc lv (.int a :: st) x := fun H locs ls hP hD hS hl => lv_lookup E.hx E.hb d hp ho ht (k H locs ls hP hD hS hl)
theorem nz_ldcw (E : nz_Env κ q tb nL cc own Ts rm) {index : Nat} {v : Int32} (hc : Cond.constant own index v ∈ Ts) (d : decode cc pc = .ok (.ldc_w index, 3)) (k : nz_St κ q tb nL (pc + 3) lv (.int v :: st) x) : nz_St κ q tb nL pc lv st x := fun H locs ls hP hD hS hl => lv_ldcw E.hx E.hb E.hown (E.hts _ hc) d (k H locs ls hP hD hS hl)
theorem nz_ldc2 (E : nz_Env κ q tb nL cc own Ts rm) {index : Nat} {v : Int64} (hc : Cond.constantLong own index v ∈ Ts) (d : decode cc pc = .ok (.ldc2_w index, 3)) (k : nz_St κ q tb nL (pc + 3) lv (.long v :: st) x) : nz_St κ q tb nL pc lv st x := fun H locs ls hP hD hS hl => lv_ldc2 E.hx E.hb E.hown (E.hts _ hc) d (k H locs ls hP hD hS hl)
theorem nz_iald (E : nz_Env κ q tb nL cc own Ts rm) {c n : Nat} {i : Int32} (ht : tb[c]? = some (.inl (n, false))) (hin : nz_in i n = true) (d : decode cc pc = .ok (.iaload, 1)) (k : nz_St κ q tb nL (pc + 1) lv (.int (x.1 c i.toNatClampNeg) :: st) x) : nz_St κ q tb nL pc lv (.int i :: .ref (q c) :: st) x := fun H locs ls hP hD hS hl => va_iald E.hx E.hb E.hK hP c 0 (nz_at ht) rfl (nz_in_vp hin) d (k H locs ls hP hD hS hl)
theorem nz_zald (E : nz_Env κ q tb nL cc own Ts rm) {c n : Nat} {i : Int32} (ht : tb[c]? = some (.inl (n, true))) (hin : nz_in i n = true) (d : decode cc pc = .ok (.baload, 1)) (k : nz_St κ q tb nL (pc + 1) lv (.int (x.1 c i.toNatClampNeg) :: st) x) : nz_St κ q tb nL pc lv (.int i :: .ref (q c) :: st) x := fun H locs ls hP hD hS hl => va_zald E.hx E.hb E.hK hP c 1 (nz_at ht) rfl (nz_in_vp hin) d (k H locs ls hP hD hS hl)
theorem nz_iast (E : nz_Env κ q tb nL cc own Ts rm) {c n : Nat} {i v : Int32} (ht : tb[c]? = some (.inl (n, false))) (hin : nz_in i n = true) (d : decode cc pc = .ok (.iastore, 1)) (k : nz_St κ q tb nL (pc + 1) lv st (nz_put x c i.toNatClampNeg v)) : nz_St κ q tb nL pc lv (.int v :: .int i :: .ref (q c) :: st) x := fun H locs ls hP hD hS hl => va_iast E.hx E.hb E.hK hP hD hS c 0 (nz_at ht) rfl (nz_in_vp hin) d (fun H1 locs1 hP1 hD1 hS1 => k H1 locs1 ls (by rw [nz_setA ht] at hP1; exact hP1) (by rw [nz_setA ht] at hD1; exact hD1) hS1 hl)
theorem nz_zast (E : nz_Env κ q tb nL cc own Ts rm) {c n : Nat} {i v : Int32} (ht : tb[c]? = some (.inl (n, true))) (hin : nz_in i n = true) (hv : vp_nar .boolean v = v) (d : decode cc pc = .ok (.bastore, 1)) (k : nz_St κ q tb nL (pc + 1) lv st (nz_put x c i.toNatClampNeg v)) : nz_St κ q tb nL pc lv (.int v :: .int i :: .ref (q c) :: st) x := fun H locs ls hP hD hS hl => va_zast E.hx E.hb E.hK hP hD hS c 1 (nz_at ht) rfl (nz_in_vp hin) d (fun H1 locs1 hP1 hD1 hS1 => k H1 locs1 ls (by rw [hv, nz_setZ ht] at hP1; exact hP1) (by rw [hv, nz_setZ ht] at hD1; exact hD1) hS1 hl)
theorem nz_alen (E : nz_Env κ q tb nL cc own Ts rm) {c n : Nat} (ht : tb[c]? = some (.inl (n, false))) (d : decode cc pc = .ok (.arraylength, 1)) (k : nz_St κ q tb nL (pc + 1) lv (.int (nI n) :: st) x) : nz_St κ q tb nL pc lv (.ref (q c) :: st) x := fun H locs ls hP hD hS hl => va_alen E.hx E.hb E.hK hP c 0 (nz_at ht) (ty := .int) rfl rfl d (k H locs ls hP hD hS hl)
theorem nz_getI (E : nz_Env κ q tb nL cc own Ts rm) {ci c kf index : Nat} {ref C : String} {T : u_T} {N : Nat} {fs : List (Bool ⊕ Nat)} (ht : tb[c]? = some (.inr (ci, fs))) (hc : nz_cl[ci]? = some (C, T, N)) (hin : ∀ w ∈ u_ws C T N, w ∈ Ts) (hk : kf < N) (hl0 : Cond.fieldLink own index ref (T kf).2.1 (T kf).2.2.1 ∈ Ts) (hrf : (T kf).1 = ref) (hf : fs[kf]? = some (.inl false)) (d : decode cc pc = .ok (.getfield index, 3)) (k : nz_St κ q tb nL (pc + 3) lv (.int (x.1 c kf) :: st) x) : nz_St κ q tb nL pc lv (.ref (q c) :: st) x := fun H locs ls hP hD hS hl => va_get E.hx E.hb E.hts hin E.hown E.hK hP c (nz_at ht) hc kf hk (E.hts _ hl0) (fun _ h9 => hrf ▸ h9) (v := .int (x.1 c kf)) (by show (nz_fs q x c 0 fs)[kf]? = _; rw [nz_fs_get, hf]; simp [nz_fv]) d (k H locs ls hP hD hS hl)
theorem nz_getL (E : nz_Env κ q tb nL cc own Ts rm) {ci c kf index : Nat} {ref C : String} {T : u_T} {N : Nat} {fs : List (Bool ⊕ Nat)} (ht : tb[c]? = some (.inr (ci, fs))) (hc : nz_cl[ci]? = some (C, T, N)) (hin : ∀ w ∈ u_ws C T N, w ∈ Ts) (hk : kf < N) (hl0 : Cond.fieldLink own index ref (T kf).2.1 (T kf).2.2.1 ∈ Ts) (hrf : (T kf).1 = ref) (hf : fs[kf]? = some (.inl true)) (d : decode cc pc = .ok (.getfield index, 3)) (k : nz_St κ q tb nL (pc + 3) lv (.long x.2 :: st) x) : nz_St κ q tb nL pc lv (.ref (q c) :: st) x := fun H locs ls hP hD hS hl => va_get E.hx E.hb E.hts hin E.hown E.hK hP c (nz_at ht) hc kf hk (E.hts _ hl0) (fun _ h9 => hrf ▸ h9) (v := .long x.2) (by show (nz_fs q x c 0 fs)[kf]? = _; rw [nz_fs_get, hf]; simp [nz_fv]) d (k H locs ls hP hD hS hl)
theorem nz_getR (E : nz_Env κ q tb nL cc own Ts rm) {ci c kf index : Nat} {ref C : String} {T : u_T} {N : Nat} {fs : List (Bool ⊕ Nat)} {c2 : Nat} (ht : tb[c]? = some (.inr (ci, fs))) (hc : nz_cl[ci]? = some (C, T, N)) (hin : ∀ w ∈ u_ws C T N, w ∈ Ts) (hk : kf < N) (hl0 : Cond.fieldLink own index ref (T kf).2.1 (T kf).2.2.1 ∈ Ts) (hrf : (T kf).1 = ref) (hf : fs[kf]? = some (.inr c2)) (d : decode cc pc = .ok (.getfield index, 3)) (k : nz_St κ q tb nL (pc + 3) lv (.ref (q c2) :: st) x) : nz_St κ q tb nL pc lv (.ref (q c) :: st) x := fun H locs ls hP hD hS hl => va_get E.hx E.hb E.hts hin E.hown E.hK hP c (nz_at ht) hc kf hk (E.hts _ hl0) (fun _ h9 => hrf ▸ h9) (v := .ref (q c2)) (by show (nz_fs q x c 0 fs)[kf]? = _; rw [nz_fs_get, hf]; simp [nz_fv]) d (k H locs ls hP hD hS hl)
theorem nz_getNI (E : nz_Env κ q tb nL cc own Ts rm) {ci c kf index : Nat} {ref C : String} {T : u_T} {N : Nat} {fs : List (Bool ⊕ Nat)} {host : String} (ht : tb[c]? = some (.inr (ci, fs))) (hc : nz_cl[ci]? = some (C, T, N)) (hin : ∀ w ∈ u_ws C T N, w ∈ Ts) (hk : kf < N) (hl0 : Cond.fieldLinkNest own index ref (T kf).2.1 (T kf).2.2.1 host ∈ nz_nest) (hrf : (T kf).1 = ref) (hf : fs[kf]? = some (.inl false)) (d : decode cc pc = .ok (.getfield index, 3)) (k : nz_St κ q tb nL (pc + 3) lv (.int (x.1 c kf) :: st) x) : nz_St κ q tb nL pc lv (.ref (q c) :: st) x := fun H locs ls hP hD hS hl => va_getN E.hx E.hb E.hts hin E.hown E.hK hP c (nz_at ht) hc kf hk (E.hN.use hl0 _) (fun _ h9 => hrf ▸ h9) (v := .int (x.1 c kf)) (by show (nz_fs q x c 0 fs)[kf]? = _; rw [nz_fs_get, hf]; simp [nz_fv]) d (k H locs ls hP hD hS hl)
theorem nz_getNR (E : nz_Env κ q tb nL cc own Ts rm) {ci c kf index : Nat} {ref C : String} {T : u_T} {N : Nat} {fs : List (Bool ⊕ Nat)} {host : String} {c2 : Nat} (ht : tb[c]? = some (.inr (ci, fs))) (hc : nz_cl[ci]? = some (C, T, N)) (hin : ∀ w ∈ u_ws C T N, w ∈ Ts) (hk : kf < N) (hl0 : Cond.fieldLinkNest own index ref (T kf).2.1 (T kf).2.2.1 host ∈ nz_nest) (hrf : (T kf).1 = ref) (hf : fs[kf]? = some (.inr c2)) (d : decode cc pc = .ok (.getfield index, 3)) (k : nz_St κ q tb nL (pc + 3) lv (.ref (q c2) :: st) x) : nz_St κ q tb nL pc lv (.ref (q c) :: st) x := fun H locs ls hP hD hS hl => va_getN E.hx E.hb E.hts hin E.hown E.hK hP c (nz_at ht) hc kf hk (E.hN.use hl0 _) (fun _ h9 => hrf ▸ h9) (v := .ref (q c2)) (by show (nz_fs q x c 0 fs)[kf]? = _; rw [nz_fs_get, hf]; simp [nz_fv]) d (k H locs ls hP hD hS hl)
theorem nz_putI (E : nz_Env κ q tb nL cc own Ts rm) {ci c kf index : Nat} {ref C : String} {T : u_T} {N : Nat} {fs : List (Bool ⊕ Nat)} {v : Int32} (ht : tb[c]? = some (.inr (ci, fs))) (hc : nz_cl[ci]? = some (C, T, N)) (hin : ∀ w ∈ u_ws C T N, w ∈ Ts) (hk : kf < N) (hl0 : Cond.fieldLink own index ref (T kf).2.1 (T kf).2.2.1 ∈ Ts) (hrf : (T kf).1 = ref) (ty0 : Nat → FieldType) (hty : ∀ k, k < N → parseFieldDescriptor (T k).2.2.1 = some (ty0 k)) (hnm : ∀ a, a < N → ∀ b, b < N → a ≠ b → (T a).2.1 ≠ (T b).2.1) (hfin : (T kf).2.2.2 = false) (hdsc : parseFieldDescriptor (T kf).2.2.1 = some .int) (hf : fs[kf]? = some (.inl false)) (d : decode cc pc = .ok (.putfield index, 3)) (k : nz_St κ q tb nL (pc + 3) lv st (nz_put x c kf v)) : nz_St κ q tb nL pc lv (.int v :: .ref (q c) :: st) x := fun H locs ls hP hD hS hl => va_put E.hx E.hb E.hts hin ty0 hty hnm E.hown E.hK hP hD hS c (nz_at ht) hc kf hk (E.hts _ hl0) (fun _ h9 => hrf ▸ h9) hfin (ty := .int) (v := .int v) hdsc rfl rfl (by show kf < (nz_fs q x c 0 fs).length; rw [nz_fs_len]; exact (List.getElem?_eq_some_iff.mp hf).1) d (fun H1 locs1 hP1 hD1 hS1 => k H1 locs1 ls (by have hP1 : va_P κ.2.2.2.1 nz_cl ((nz_W κ.2.2.2 q x tb).set c (q c, .inr (ci, (nz_fs q x c 0 fs).set kf (.int v)))) H1 := hP1; rw [nz_setF ht hf] at hP1; exact hP1) (by have hD1 : va_D (nz_A tb q κ.1.2.2.2.2.heap.size) ((nz_W κ.2.2.2 q x tb).set c (q c, .inr (ci, (nz_fs q x c 0 fs).set kf (.int v)))) := hD1; rw [nz_setF ht hf] at hD1; exact hD1) hS1 hl)
theorem nz_putL (E : nz_Env κ q tb nL cc own Ts rm) {ci c kf index : Nat} {ref C : String} {T : u_T} {N : Nat} {fs : List (Bool ⊕ Nat)} {v : Int64} (ht : tb[c]? = some (.inr (ci, fs))) (hc : nz_cl[ci]? = some (C, T, N)) (hin : ∀ w ∈ u_ws C T N, w ∈ Ts) (hk : kf < N) (hl0 : Cond.fieldLink own index ref (T kf).2.1 (T kf).2.2.1 ∈ Ts) (hrf : (T kf).1 = ref) (ty0 : Nat → FieldType) (hty : ∀ k, k < N → parseFieldDescriptor (T k).2.2.1 = some (ty0 k)) (hnm : ∀ a, a < N → ∀ b, b < N → a ≠ b → (T a).2.1 ≠ (T b).2.1) (hfin : (T kf).2.2.2 = false) (hdsc : parseFieldDescriptor (T kf).2.2.1 = some .long) (hf : fs[kf]? = some (.inl true)) (h1 : ∀ j, fs[j]? = some (.inl true) → j = kf) (hn : nz_nol tb c = true) (d : decode cc pc = .ok (.putfield index, 3)) (k : nz_St κ q tb nL (pc + 3) lv st (nz_lng x v)) : nz_St κ q tb nL pc lv (.long v :: .ref (q c) :: st) x := fun H locs ls hP hD hS hl => va_put E.hx E.hb E.hts hin ty0 hty hnm E.hown E.hK hP hD hS c (nz_at ht) hc kf hk (E.hts _ hl0) (fun _ h9 => hrf ▸ h9) hfin (ty := .long) (v := .long v) hdsc rfl rfl (by show kf < (nz_fs q x c 0 fs).length; rw [nz_fs_len]; exact (List.getElem?_eq_some_iff.mp hf).1) d (fun H1 locs1 hP1 hD1 hS1 => k H1 locs1 ls (by have hP1 : va_P κ.2.2.2.1 nz_cl ((nz_W κ.2.2.2 q x tb).set c (q c, .inr (ci, (nz_fs q x c 0 fs).set kf (.long v)))) H1 := hP1; rw [nz_setL ht hf h1 hn] at hP1; exact hP1) (by have hD1 : va_D (nz_A tb q κ.1.2.2.2.2.heap.size) ((nz_W κ.2.2.2 q x tb).set c (q c, .inr (ci, (nz_fs q x c 0 fs).set kf (.long v)))) := hD1; rw [nz_setL ht hf h1 hn] at hD1; exact hD1) hS1 hl)
theorem nz_putNI (E : nz_Env κ q tb nL cc own Ts rm) {ci c kf index : Nat} {ref C : String} {T : u_T} {N : Nat} {fs : List (Bool ⊕ Nat)} {host : String} {v : Int32} (ht : tb[c]? = some (.inr (ci, fs))) (hc : nz_cl[ci]? = some (C, T, N)) (hin : ∀ w ∈ u_ws C T N, w ∈ Ts) (hk : kf < N) (hl0 : Cond.fieldLinkNest own index ref (T kf).2.1 (T kf).2.2.1 host ∈ nz_nest) (hrf : (T kf).1 = ref) (ty0 : Nat → FieldType) (hty : ∀ k, k < N → parseFieldDescriptor (T k).2.2.1 = some (ty0 k)) (hnm : ∀ a, a < N → ∀ b, b < N → a ≠ b → (T a).2.1 ≠ (T b).2.1) (hfin : (T kf).2.2.2 = false) (hdsc : parseFieldDescriptor (T kf).2.2.1 = some .int) (hf : fs[kf]? = some (.inl false)) (d : decode cc pc = .ok (.putfield index, 3)) (k : nz_St κ q tb nL (pc + 3) lv st (nz_put x c kf v)) : nz_St κ q tb nL pc lv (.int v :: .ref (q c) :: st) x := fun H locs ls hP hD hS hl => va_putN E.hx E.hb E.hts hin ty0 hty hnm E.hown E.hK hP hD hS c (nz_at ht) hc kf hk (E.hN.use hl0 _) (fun _ h9 => hrf ▸ h9) hfin (ty := .int) (v := .int v) hdsc rfl rfl (by show kf < (nz_fs q x c 0 fs).length; rw [nz_fs_len]; exact (List.getElem?_eq_some_iff.mp hf).1) d (fun H1 locs1 hP1 hD1 hS1 => k H1 locs1 ls (by have hP1 : va_P κ.2.2.2.1 nz_cl ((nz_W κ.2.2.2 q x tb).set c (q c, .inr (ci, (nz_fs q x c 0 fs).set kf (.int v)))) H1 := hP1; rw [nz_setF ht hf] at hP1; exact hP1) (by have hD1 : va_D (nz_A tb q κ.1.2.2.2.2.heap.size) ((nz_W κ.2.2.2 q x tb).set c (q c, .inr (ci, (nz_fs q x c 0 fs).set kf (.int v)))) := hD1; rw [nz_setF ht hf] at hD1; exact hD1) hS1 hl)
end NZ
/-! CONTRACTS -/
def nz_Pre (w : nz_O) (q : Nat → Nat) (tb : List nz_K) (x : nz_S) (sz : Nat) : State → Prop := fun U => U.heap.size = sz ∧ va_P w.1 nz_cl (nz_W w q x tb) U.heap ∧ va_K w.1 nz_cl (nz_ty w) U ∧ va_D (fun _ => True) (nz_W w q x tb) ∧ nz_Nst U
def nz_Pos (w : nz_O) (q : Nat → Nat) (tb : List nz_K) (x : nz_S) (sz : Nat) : State → Prop := fun t => va_P w.1 nz_cl (nz_W w q x tb) t.heap ∧ va_K w.1 nz_cl (nz_ty w) t ∧ va_D (nz_A tb q sz) (nz_W w q x tb)
abbrev nz_QI (w : nz_O) (q : Nat → Nat) (tb : List nz_K) (sz : Nat) (o : Int32 × nz_S) : Array Value → State → Outcome → State → Prop := va_Qi (fun r (_ : Unit) => r = o.1) (fun _ t => nz_Pos w q tb o.2 sz t) (nz_A tb q sz)
abbrev nz_QL (w : nz_O) (q : Nat → Nat) (tb : List nz_K) (sz : Nat) (o : Int64 × nz_S) : Array Value → State → Outcome → State → Prop := va_Ql (fun r (_ : Unit) => r = o.1) (fun _ t => nz_Pos w q tb o.2 sz t) (nz_A tb q sz)
abbrev nz_QV (w : nz_O) (q : Nat → Nat) (tb : List nz_K) (sz : Nat) (o : Unit × nz_S) : Array Value → State → Outcome → State → Prop := va_Qv (fun (_ : Unit) => True) (fun _ t => nz_Pos w q tb o.2 sz t) (nz_A tb q sz)
def nz_MI (l : Launch) (y : MethodName) (ws : List Cond) (rm : Room) (w : nz_O) (q : Nat → Nat) (tb : List nz_K) (av : List Value) (x : nz_S) (o : Int32 × nz_S) : Prop := ∀ sz, Met l y ws rm (va_Pc av (nz_Pre w q tb x sz)) (nz_QI w q tb sz o) 0 0 (nz_A tb q sz)
def nz_ML (l : Launch) (y : MethodName) (ws : List Cond) (rm : Room) (w : nz_O) (q : Nat → Nat) (tb : List nz_K) (av : List Value) (x : nz_S) (o : Int64 × nz_S) : Prop := ∀ sz, Met l y ws rm (va_Pc av (nz_Pre w q tb x sz)) (nz_QL w q tb sz o) 0 0 (nz_A tb q sz)
def nz_MV (l : Launch) (y : MethodName) (ws : List Cond) (rm : Room) (w : nz_O) (q : Nat → Nat) (tb : List nz_K) (av : List Value) (x : nz_S) (o : Unit × nz_S) : Prop := ∀ sz, Met l y ws rm (va_Pc av (nz_Pre w q tb x sz)) (nz_QV w q tb sz o) 0 0 (nz_A tb q sz)
theorem nz_blind {w : nz_O} {q : Nat → Nat} {tb : List nz_K} {x : nz_S} {sz : Nat} {av : List Value} : FrameBlind (va_Pc av (nz_Pre w q tb x sz)) := fun a U g mk h => by
  obtain ⟨q0, q1, qP, qK, qD, qN⟩ := h
  exact ⟨q0, q1, qP, va_K.moved (u := U) (U := U.calling g mk a) (Vm.Alike.refl U.vm) qK, qD, nz_Nst.same (s := U) (U := U.calling g mk a) rfl qN⟩
theorem nz_A_addr {w : nz_O} {q : Nat → Nat} {tb : List nz_K} {x : nz_S} {sz k : Nat} {e : Nat × va_E} (h : (nz_W w q x tb)[k]? = some e) : nz_A tb q sz e.1 := by
  rw [nz_Wl_get] at h
  cases hd : tb[k]? with
  | none => rw [hd] at h; cases h
  | some d =>
    rw [hd] at h
    cases h
    exact Or.inl ⟨k, (List.getElem?_eq_some_iff.mp hd).1, by simp⟩
theorem nz_A_mono {tb : List nz_K} {q : Nat → Nat} {a b : Nat} (h : a ≤ b) {z : Nat} (hz : nz_A tb q b z) : nz_A tb q a z := by
  rcases hz with hz | hz
  · exact Or.inl hz
  · exact Or.inr (Nat.le_trans h hz)
section NZC
variable {κ : nz_C} {q : Nat → Nat} {tb : List nz_K} {nL pc : Nat} {cc : ByteArray} {own : String} {Ts : List Cond} {rm : Room} {lv : List (Nat × Value)} {st : List Value} {x x1 : nz_S}
variable {y : MethodName} {ws ws' : List Cond} {rm1 : Room} {bytes : ByteArray} {maxL index n : Nat} {ret : Option FieldType} {As rest : List Value}
theorem nz_prePay {w : nz_O} {s : State} {av : List Value} {H : Heap} {locs : List Loc} (hw : w = κ.2.2.2) (hs : s = κ.1.2.2.2.2) (hK : va_K w.1 nz_cl (nz_ty w) s) (hP : va_P w.1 nz_cl (nz_W w q x tb) H) (hD : va_D (nz_A tb q s.heap.size) (nz_W w q x tb)) (hN : nz_Nst s) : ∀ U : State, U.heap = H → s.WarmedH U.vm → va_Pc av (nz_Pre w q tb x H.size) av.toArray U := fun U hU hW => ⟨rfl, by rw [hU], by rw [hU]; exact hP, va_K.moved hW.alike hK, hD.weaken (fun _ _ _ _ => trivial), hN.warm hW⟩
theorem nz_back {w : nz_O} {s t : State} {H H1 : Heap} {locs1 : List Loc} (ht : t.heap = H1) (hz : s.heap.size ≤ H.size) (hB : nz_Pos w q tb x1 H.size t) : va_P w.1 nz_cl (nz_W w q x1 tb) H1 ∧ va_D (nz_A tb q s.heap.size) (nz_W w q x1 tb) := ⟨by rw [← ht]; exact hB.1, hB.2.2.weaken (fun _ _ _ h => nz_A_mono hz h)⟩
theorem nz_callVI (E : nz_Env κ q tb nL cc own Ts rm) {r : Int32} {c0 ci : Nat} {C : String} {T : u_T} {N : Nat} {fs : List (Bool ⊕ Nat)} (ht0 : tb[c0]? = some (.inr (ci, fs))) (hcl : nz_cl[ci]? = some (C, T, N)) (hM : nz_MI κ.1.2.1 y ws rm1 κ.2.2.2 q tb (.ref (q c0) :: As) x (r, x1)) (cw : CallW rm κ.1.2.2.2.2 κ.2.1.2.1 own C index y bytes maxL ret ws rm1 0 0 n) (hn : As.length = n) (hst : st = As.reverse ++ .ref (q c0) :: rest) (hw : (rest.map fun v => v.category).sum ≤ 8) (d : decode cc pc = .ok (.invokevirtual index, 3)) (k : nz_St κ q tb nL (pc + 3) lv (.int r :: rest) x1) : nz_St κ q tb nL pc lv st x := fun H locs ls hP hD hS hl => by
  refine va_calli (va_runV (As := As) (rest := rest) ⟨E.hx, E.hb, E.hml, E.hown, E.hts⟩ (hM H.size) (by rw [E.hR]; exact cw) ⟨nz_blind, va_recv E.hK hP hcl (nz_at ht0), nz_prePay (κ := κ) (locs := locs) rfl rfl E.hK hP hD E.hN⟩ rfl hn hl.1 hst (lv_room hw) d ⟨Nat.zero_le _, Nat.zero_le _⟩) hS (fun z _ h => nz_A_mono hS.1 h) (fun z h => nz_A_mono hS.1 h) (fun r2 u t H1 locs1 ht hvm hp hB hz hk hS1 => by
    subst hp
    obtain ⟨h1, h2⟩ := nz_back (s := κ.1.2.2.2.2) (locs1 := locs1) ht hS.1 hB
    exact k H1 locs1 ls h1 h2 hS1 hl)
theorem nz_callSI (E : nz_Env κ q tb nL cc own Ts rm) {r : Int32} (hM : nz_MI κ.1.2.1 y ws rm1 κ.2.2.2 q tb As x (r, x1)) (cw : CallB rm κ.1.2.2.2.2 κ.2.1.2.1 own index y bytes maxL ret ws rm1 0 0 n ∧ (Cond.static y).before κ.2.1.2.1 κ.1.2.2.2.2 = true) (hn : As.length = n) (hst : st = As.reverse ++ rest) (hw : (rest.map fun v => v.category).sum ≤ 8) (d : decode cc pc = .ok (.invokestatic index, 3)) (k : nz_St κ q tb nL (pc + 3) lv (.int r :: rest) x1) : nz_St κ q tb nL pc lv st x := fun H locs ls hP hD hS hl => by
  refine va_calli (va_runS (As := As) (rest := rest) ⟨E.hx, E.hb, E.hml, E.hown, E.hts⟩ (hM H.size) (by rw [E.hR]; exact cw) ⟨nz_blind, nz_prePay (κ := κ) (locs := locs) rfl rfl E.hK hP hD E.hN⟩ rfl hn hl.1 hst (lv_room hw) d ⟨Nat.zero_le _, Nat.zero_le _⟩) hS (fun z _ h => nz_A_mono hS.1 h) (fun z h => nz_A_mono hS.1 h) (fun r2 u t H1 locs1 ht hvm hp hB hz hk hS1 => by
    subst hp
    obtain ⟨h1, h2⟩ := nz_back (s := κ.1.2.2.2.2) (locs1 := locs1) ht hS.1 hB
    exact k H1 locs1 ls h1 h2 hS1 hl)
theorem nz_callVL (E : nz_Env κ q tb nL cc own Ts rm) {r : Int64} {c0 ci : Nat} {C : String} {T : u_T} {N : Nat} {fs : List (Bool ⊕ Nat)} (ht0 : tb[c0]? = some (.inr (ci, fs))) (hcl : nz_cl[ci]? = some (C, T, N)) (hM : nz_ML κ.1.2.1 y ws rm1 κ.2.2.2 q tb (.ref (q c0) :: As) x (r, x1)) (cw : CallW rm κ.1.2.2.2.2 κ.2.1.2.1 own C index y bytes maxL ret ws rm1 0 0 n) (hn : As.length = n) (hst : st = As.reverse ++ .ref (q c0) :: rest) (hw : (rest.map fun v => v.category).sum ≤ 8) (d : decode cc pc = .ok (.invokevirtual index, 3)) (k : nz_St κ q tb nL (pc + 3) lv (.long r :: rest) x1) : nz_St κ q tb nL pc lv st x := fun H locs ls hP hD hS hl => by
  refine va_calll (va_runV (As := As) (rest := rest) ⟨E.hx, E.hb, E.hml, E.hown, E.hts⟩ (hM H.size) (by rw [E.hR]; exact cw) ⟨nz_blind, va_recv E.hK hP hcl (nz_at ht0), nz_prePay (κ := κ) (locs := locs) rfl rfl E.hK hP hD E.hN⟩ rfl hn hl.1 hst (lv_room hw) d ⟨Nat.zero_le _, Nat.zero_le _⟩) hS (fun z _ h => nz_A_mono hS.1 h) (fun z h => nz_A_mono hS.1 h) (fun r2 u t H1 locs1 ht hvm hp hB hz hk hS1 => by
    subst hp
    obtain ⟨h1, h2⟩ := nz_back (s := κ.1.2.2.2.2) (locs1 := locs1) ht hS.1 hB
    exact k H1 locs1 ls h1 h2 hS1 hl)
theorem nz_callSL (E : nz_Env κ q tb nL cc own Ts rm) {r : Int64} (hM : nz_ML κ.1.2.1 y ws rm1 κ.2.2.2 q tb As x (r, x1)) (cw : CallB rm κ.1.2.2.2.2 κ.2.1.2.1 own index y bytes maxL ret ws rm1 0 0 n ∧ (Cond.static y).before κ.2.1.2.1 κ.1.2.2.2.2 = true) (hn : As.length = n) (hst : st = As.reverse ++ rest) (hw : (rest.map fun v => v.category).sum ≤ 8) (d : decode cc pc = .ok (.invokestatic index, 3)) (k : nz_St κ q tb nL (pc + 3) lv (.long r :: rest) x1) : nz_St κ q tb nL pc lv st x := fun H locs ls hP hD hS hl => by
  refine va_calll (va_runS (As := As) (rest := rest) ⟨E.hx, E.hb, E.hml, E.hown, E.hts⟩ (hM H.size) (by rw [E.hR]; exact cw) ⟨nz_blind, nz_prePay (κ := κ) (locs := locs) rfl rfl E.hK hP hD E.hN⟩ rfl hn hl.1 hst (lv_room hw) d ⟨Nat.zero_le _, Nat.zero_le _⟩) hS (fun z _ h => nz_A_mono hS.1 h) (fun z h => nz_A_mono hS.1 h) (fun r2 u t H1 locs1 ht hvm hp hB hz hk hS1 => by
    subst hp
    obtain ⟨h1, h2⟩ := nz_back (s := κ.1.2.2.2.2) (locs1 := locs1) ht hS.1 hB
    exact k H1 locs1 ls h1 h2 hS1 hl)
theorem nz_callVV (E : nz_Env κ q tb nL cc own Ts rm) {r : Unit} {c0 ci : Nat} {C : String} {T : u_T} {N : Nat} {fs : List (Bool ⊕ Nat)} (ht0 : tb[c0]? = some (.inr (ci, fs))) (hcl : nz_cl[ci]? = some (C, T, N)) (hM : nz_MV κ.1.2.1 y ws rm1 κ.2.2.2 q tb (.ref (q c0) :: As) x (r, x1)) (cw : CallW rm κ.1.2.2.2.2 κ.2.1.2.1 own C index y bytes maxL ret ws rm1 0 0 n) (hn : As.length = n) (hst : st = As.reverse ++ .ref (q c0) :: rest) (hw : (rest.map fun v => v.category).sum ≤ 8) (d : decode cc pc = .ok (.invokevirtual index, 3)) (k : nz_St κ q tb nL (pc + 3) lv (rest) x1) : nz_St κ q tb nL pc lv st x := fun H locs ls hP hD hS hl => by
  refine va_callv (va_runV (As := As) (rest := rest) ⟨E.hx, E.hb, E.hml, E.hown, E.hts⟩ (hM H.size) (by rw [E.hR]; exact cw) ⟨nz_blind, va_recv E.hK hP hcl (nz_at ht0), nz_prePay (κ := κ) (locs := locs) rfl rfl E.hK hP hD E.hN⟩ rfl hn hl.1 hst (lv_room hw) d ⟨Nat.zero_le _, Nat.zero_le _⟩) hS (fun z _ h => nz_A_mono hS.1 h) (fun z h => nz_A_mono hS.1 h) (fun u t H1 locs1 ht hvm hp hB hz hk hS1 => by
    obtain ⟨h1, h2⟩ := nz_back (s := κ.1.2.2.2.2) (locs1 := locs1) ht hS.1 hB
    exact k H1 locs1 ls h1 h2 hS1 hl)
theorem nz_callSV (E : nz_Env κ q tb nL cc own Ts rm) {r : Unit} (hM : nz_MV κ.1.2.1 y ws rm1 κ.2.2.2 q tb As x (r, x1)) (cw : CallB rm κ.1.2.2.2.2 κ.2.1.2.1 own index y bytes maxL ret ws rm1 0 0 n ∧ (Cond.static y).before κ.2.1.2.1 κ.1.2.2.2.2 = true) (hn : As.length = n) (hst : st = As.reverse ++ rest) (hw : (rest.map fun v => v.category).sum ≤ 8) (d : decode cc pc = .ok (.invokestatic index, 3)) (k : nz_St κ q tb nL (pc + 3) lv (rest) x1) : nz_St κ q tb nL pc lv st x := fun H locs ls hP hD hS hl => by
  refine va_callv (va_runS (As := As) (rest := rest) ⟨E.hx, E.hb, E.hml, E.hown, E.hts⟩ (hM H.size) (by rw [E.hR]; exact cw) ⟨nz_blind, nz_prePay (κ := κ) (locs := locs) rfl rfl E.hK hP hD E.hN⟩ rfl hn hl.1 hst (lv_room hw) d ⟨Nat.zero_le _, Nat.zero_le _⟩) hS (fun z _ h => nz_A_mono hS.1 h) (fun z h => nz_A_mono hS.1 h) (fun u t H1 locs1 ht hvm hp hB hz hk hS1 => by
    obtain ⟨h1, h2⟩ := nz_back (s := κ.1.2.2.2.2) (locs1 := locs1) ht hS.1 hB
    exact k H1 locs1 ls h1 h2 hS1 hl)
def nz_RI (κ : nz_C) (q : Nat → Nat) (tb : List nz_K) (ty : FieldType) (o : Int32 × nz_S) : Prop := κ.2.2.1 = MQ κ.2.1.2.2.1 (nz_QI κ.2.2.2 q tb κ.1.2.2.2.2.heap.size o) κ.2.1.2.1 κ.1.2.2.2.2 0 0 (nz_A tb q κ.1.2.2.2.2.heap.size) ∧ κ.2.1.2.2.2.1.sig.returnType = some ty
def nz_RL (κ : nz_C) (q : Nat → Nat) (tb : List nz_K) (o : Int64 × nz_S) : Prop := κ.2.2.1 = MQ κ.2.1.2.2.1 (nz_QL κ.2.2.2 q tb κ.1.2.2.2.2.heap.size o) κ.2.1.2.1 κ.1.2.2.2.2 0 0 (nz_A tb q κ.1.2.2.2.2.heap.size) ∧ κ.2.1.2.2.2.1.sig.returnType = some .long
def nz_RV (κ : nz_C) (q : Nat → Nat) (tb : List nz_K) (o : Unit × nz_S) : Prop := κ.2.2.1 = MQ κ.2.1.2.2.1 (nz_QV κ.2.2.2 q tb κ.1.2.2.2.2.heap.size o) κ.2.1.2.1 κ.1.2.2.2.2 0 0 (nz_A tb q κ.1.2.2.2.2.heap.size) ∧ κ.2.1.2.2.2.1.sig.returnType = none
theorem nz_pos {w : nz_O} {s : State} {H : Heap} (hK : va_K w.1 nz_cl (nz_ty w) s) (hP : va_P w.1 nz_cl (nz_W w q x tb) H) (hD : va_D (nz_A tb q s.heap.size) (nz_W w q x tb)) (t : State) (ht : t.heap = H) (hW : s.WarmedH t.vm) : nz_Pos w q tb x s.heap.size t := ⟨by rw [ht]; exact hP, va_K.moved hW.alike hK, hD⟩
theorem nz_iret (E : nz_Env κ q tb nL cc own Ts rm) {ty : FieldType} {o : Int32 × nz_S} (hR : nz_RI κ q tb ty o) {a : Int32} (hty : narrow ty (.int a) = .int a) (hf : some (a, x) = some o) (d : decode cc pc = .ok (.ireturn, 1)) : nz_St κ q tb nL pc lv [.int a] x := fun H locs ls hP hD hS hl => by
  cases hf
  rw [hR.1]
  exact W.zret E.hx E.hb hR.2 hty (fun t ht hW => ⟨⟨a, (), rfl, rfl, nz_pos E.hK hP hD t ht hW⟩, hS.F ht⟩) hS.2.2 d E.hlk
theorem nz_lret (E : nz_Env κ q tb nL cc own Ts rm) {o : Int64 × nz_S} (hR : nz_RL κ q tb o) {a : Int64} (hf : some (a, x) = some o) (d : decode cc pc = .ok (.lreturn, 1)) : nz_St κ q tb nL pc lv [.long a] x := fun H locs ls hP hD hS hl => by
  cases hf
  rw [hR.1]
  exact W.lret E.hx E.hb hR.2 (fun t ht hW => ⟨⟨a, (), rfl, rfl, nz_pos E.hK hP hD t ht hW⟩, hS.F ht⟩) hS.2.2 d E.hlk
theorem nz_vret (E : nz_Env κ q tb nL cc own Ts rm) {o : Unit × nz_S} (hR : nz_RV κ q tb o) (hf : some ((), x) = some o) (d : decode cc pc = .ok (.return_, 1)) : nz_St κ q tb nL pc lv [] x := fun H locs ls hP hD hS hl => by
  cases hf
  rw [hR.1]
  exact W.vret E.hx E.hb hR.2 (fun t ht hW => ⟨⟨(), rfl, trivial, nz_pos E.hK hP hD t ht hW⟩, hS.F ht⟩) hS.2.2 d E.hlk
end NZC
theorem nz_enterI {l : Launch} {y : MethodName} {ws ws' : List Cond} {rm : Room} {w : nz_O} {q : Nat → Nat} {tb : List nz_K} {av : List Value} {x : nz_S} {o : Int32 × nz_S} {cc : ByteArray} {maxL : Nat} {ty : FieldType} (hy : plainName y.cls = true) (hw : ws = Cond.code y cc maxL (some ty) :: ws') (hlen : (lg_sl av).length ≤ maxL) (hrc : rm.cells = 0) (hrs : rm.slots = 0)
    (body : ∀ κ : nz_C, nz_Env κ q tb maxL cc y.cls ws rm → κ.2.2.2 = w → κ.1.2.1 = l → nz_RI κ q tb ty o → nz_St κ q tb maxL 0 (lv_args 0 av) [] x) : nz_MI l y ws rm w q tb av x o := by
  intro sz
  refine Met.ofW (cc := cc) (maxL := maxL) (ret := some ty) hy hw ?_
  intro p e s m args below meth c s₁ B hml hv
  obtain ⟨rfl, hsz, hP, hK, hD0, hN0⟩ := hv
  subst hsz
  have hl := lv_entry av (n := maxL) hlen
  rw [lg_entry_eq]
  refine body ((p, l, e, (headSpec ws rm).room, s), (m, av.toArray, below, meth, c), (MQ below (nz_QI w q tb s.heap.size o) av.toArray s 0 0 (nz_A tb q s.heap.size), w)) ⟨B.exec, B.bytes, hml, findClass_of_methodNamed B.named, atoms_spec (ws := ws) B.pre, hK, B.notSynchronized, rfl, hrc, hrs, hN0⟩ rfl rfl ⟨rfl, B.returns⟩ s.heap [] _ hP (hD0.weaken (fun _ _ hk _ => nz_A_addr hk)) va_S.rf (nz_has_of hl)
theorem nz_enterL {l : Launch} {y : MethodName} {ws ws' : List Cond} {rm : Room} {w : nz_O} {q : Nat → Nat} {tb : List nz_K} {av : List Value} {x : nz_S} {o : Int64 × nz_S} {cc : ByteArray} {maxL : Nat} (hy : plainName y.cls = true) (hw : ws = Cond.code y cc maxL (some .long) :: ws') (hlen : (lg_sl av).length ≤ maxL) (hrc : rm.cells = 0) (hrs : rm.slots = 0)
    (body : ∀ κ : nz_C, nz_Env κ q tb maxL cc y.cls ws rm → κ.2.2.2 = w → κ.1.2.1 = l → nz_RL κ q tb o → nz_St κ q tb maxL 0 (lv_args 0 av) [] x) : nz_ML l y ws rm w q tb av x o := by
  intro sz
  refine Met.ofW (cc := cc) (maxL := maxL) (ret := some .long) hy hw ?_
  intro p e s m args below meth c s₁ B hml hv
  obtain ⟨rfl, hsz, hP, hK, hD0, hN0⟩ := hv
  subst hsz
  have hl := lv_entry av (n := maxL) hlen
  rw [lg_entry_eq]
  refine body ((p, l, e, (headSpec ws rm).room, s), (m, av.toArray, below, meth, c), (MQ below (nz_QL w q tb s.heap.size o) av.toArray s 0 0 (nz_A tb q s.heap.size), w)) ⟨B.exec, B.bytes, hml, findClass_of_methodNamed B.named, atoms_spec (ws := ws) B.pre, hK, B.notSynchronized, rfl, hrc, hrs, hN0⟩ rfl rfl ⟨rfl, B.returns⟩ s.heap [] _ hP (hD0.weaken (fun _ _ hk _ => nz_A_addr hk)) va_S.rf (nz_has_of hl)
theorem nz_enterV {l : Launch} {y : MethodName} {ws ws' : List Cond} {rm : Room} {w : nz_O} {q : Nat → Nat} {tb : List nz_K} {av : List Value} {x : nz_S} {o : Unit × nz_S} {cc : ByteArray} {maxL : Nat} (hy : plainName y.cls = true) (hw : ws = Cond.code y cc maxL (none) :: ws') (hlen : (lg_sl av).length ≤ maxL) (hrc : rm.cells = 0) (hrs : rm.slots = 0)
    (body : ∀ κ : nz_C, nz_Env κ q tb maxL cc y.cls ws rm → κ.2.2.2 = w → κ.1.2.1 = l → nz_RV κ q tb o → nz_St κ q tb maxL 0 (lv_args 0 av) [] x) : nz_MV l y ws rm w q tb av x o := by
  intro sz
  refine Met.ofW (cc := cc) (maxL := maxL) (ret := none) hy hw ?_
  intro p e s m args below meth c s₁ B hml hv
  obtain ⟨rfl, hsz, hP, hK, hD0, hN0⟩ := hv
  subst hsz
  have hl := lv_entry av (n := maxL) hlen
  rw [lg_entry_eq]
  refine body ((p, l, e, (headSpec ws rm).room, s), (m, av.toArray, below, meth, c), (MQ below (nz_QV w q tb s.heap.size o) av.toArray s 0 0 (nz_A tb q s.heap.size), w)) ⟨B.exec, B.bytes, hml, findClass_of_methodNamed B.named, atoms_spec (ws := ws) B.pre, hK, B.notSynchronized, rfl, hrc, hrs, hN0⟩ rfl rfl ⟨rfl, B.returns⟩ s.heap [] _ hP (hD0.weaken (fun _ _ hk _ => nz_A_addr hk)) va_S.rf (nz_has_of hl)
/-! THE METHODS AS FUNCTIONS: none where the machine would throw, or the fuel is out -/
def nz_chk {α : Type} (b : Bool) (k : Option α) : Option α := match b with
  | true => k
  | false => none
def nz_bnd {α β : Type} (o : Option (α × nz_S)) (k : α → nz_S → Option β) : Option β := match o with
  | some (a, x) => k a x
  | none => none
theorem nz_chk_t {α : Type} {b : Bool} {k : Option α} {o : α} (h : nz_chk b k = some o) : b = true ∧ k = some o := by
  cases b
  · cases h
  · exact ⟨rfl, h⟩
theorem nz_bnd_t {α β : Type} {o : Option (α × nz_S)} {k : α → nz_S → Option β} {r : β} (h : nz_bnd o k = some r) : ∃ a x, o = some (a, x) ∧ k a x = some r := by
  rcases o with _ | ⟨a, x⟩
  · cases h
  · exact ⟨a, x, rfl, h⟩
theorem nz_ite_t {α : Type} {c : Prop} [Decidable c] {a b : α} {o : α} (h : (if c then a else b) = o) (hc : c) : a = o := by rw [if_pos hc] at h; exact h
theorem nz_ite_f {α : Type} {c : Prop} [Decidable c] {a b : α} {o : α} (h : (if c then a else b) = o) (hc : ¬ c) : b = o := by rw [if_neg hc] at h; exact h
end

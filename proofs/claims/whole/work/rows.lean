section
-- ===== PART A: goes FIRST, ahead of the names: the tables' words, and 'selects' of the private methods out of them =====
/-- a private method of a class that the tables say can be made, by its rows of tables_1 -/
def lw_okq (q : MethodName × Nat) : Prop := (q.1.cls ≠ "java/lang/invoke/MethodHandle" ∧ q.1.cls ≠ "java/lang/invoke/VarHandle") ∧ Cond.instantiable q.1.cls q.2 ∈ tables_1 ∧ Cond.privateMethod q.1 ∈ tables_1 ∧ Cond.instanceMethod q.1 ∈ tables_1
theorem lw_p0 : lw_okq (⟨"FoldedPages", "layText", "()I"⟩, 8) := ⟨⟨by decide +kernel, by decide +kernel⟩, List.mem_of_getElem? (i := 18) (by decide +kernel), List.mem_of_getElem? (i := 277) (by decide +kernel), List.mem_of_getElem? (i := 278) (by decide +kernel)⟩
theorem lw_p1 : lw_okq (⟨"FoldedPages$Text", "placeOf", "(CII)I"⟩, 2) := ⟨⟨by decide +kernel, by decide +kernel⟩, List.mem_of_getElem? (i := 26) (by decide +kernel), List.mem_of_getElem? (i := 295) (by decide +kernel), List.mem_of_getElem? (i := 296) (by decide +kernel)⟩
theorem lw_p2 : lw_okq (⟨"FoldedPages$Text", "readItem", "(LFoldedPages$Told;II)Z"⟩, 2) := ⟨⟨by decide +kernel, by decide +kernel⟩, List.mem_of_getElem? (i := 26) (by decide +kernel), List.mem_of_getElem? (i := 299) (by decide +kernel), List.mem_of_getElem? (i := 300) (by decide +kernel)⟩
theorem lw_p3 : lw_okq (⟨"FoldedPages$Text", "readScheme", "(LFoldedPages$Told;II)Z"⟩, 2) := ⟨⟨by decide +kernel, by decide +kernel⟩, List.mem_of_getElem? (i := 26) (by decide +kernel), List.mem_of_getElem? (i := 303) (by decide +kernel), List.mem_of_getElem? (i := 304) (by decide +kernel)⟩
theorem lw_p4 : lw_okq (⟨"FoldedPages$Text", "readPrice", "(LFoldedPages$Told;II)Z"⟩, 2) := ⟨⟨by decide +kernel, by decide +kernel⟩, List.mem_of_getElem? (i := 26) (by decide +kernel), List.mem_of_getElem? (i := 381) (by decide +kernel), List.mem_of_getElem? (i := 382) (by decide +kernel)⟩
theorem lw_p5 : lw_okq (⟨"FoldedPages$Text", "figuresIn", "(II)I"⟩, 2) := ⟨⟨by decide +kernel, by decide +kernel⟩, List.mem_of_getElem? (i := 26) (by decide +kernel), List.mem_of_getElem? (i := 385) (by decide +kernel), List.mem_of_getElem? (i := 386) (by decide +kernel)⟩
theorem lw_p6 : lw_okq (⟨"FoldedPages$Text", "readNumber", "(LFoldedPages$Told;III)Z"⟩, 2) := ⟨⟨by decide +kernel, by decide +kernel⟩, List.mem_of_getElem? (i := 26) (by decide +kernel), List.mem_of_getElem? (i := 390) (by decide +kernel), List.mem_of_getElem? (i := 391) (by decide +kernel)⟩
theorem lw_p7 : lw_okq (⟨"FoldedPages", "settle", "()V"⟩, 8) := ⟨⟨by decide +kernel, by decide +kernel⟩, List.mem_of_getElem? (i := 18) (by decide +kernel), List.mem_of_getElem? (i := 405) (by decide +kernel), List.mem_of_getElem? (i := 406) (by decide +kernel)⟩
theorem lw_p8 : lw_okq (⟨"FoldedPages$Sheet", "columnAt", "(I)I"⟩, 6) := ⟨⟨by decide +kernel, by decide +kernel⟩, List.mem_of_getElem? (i := 99) (by decide +kernel), List.mem_of_getElem? (i := 422) (by decide +kernel), List.mem_of_getElem? (i := 423) (by decide +kernel)⟩
theorem lw_p9 : lw_okq (⟨"FoldedPages$Sheet", "rowAt", "(I)I"⟩, 6) := ⟨⟨by decide +kernel, by decide +kernel⟩, List.mem_of_getElem? (i := 99) (by decide +kernel), List.mem_of_getElem? (i := 426) (by decide +kernel), List.mem_of_getElem? (i := 427) (by decide +kernel)⟩
theorem lw_p10 : lw_okq (⟨"FoldedPages$Sheet", "foldLeaf", "(II)V"⟩, 6) := ⟨⟨by decide +kernel, by decide +kernel⟩, List.mem_of_getElem? (i := 99) (by decide +kernel), List.mem_of_getElem? (i := 434) (by decide +kernel), List.mem_of_getElem? (i := 435) (by decide +kernel)⟩
theorem lw_p11 : lw_okq (⟨"FoldedPages$Leaf", "stayAt", "(IIZ)V"⟩, 8) := ⟨⟨by decide +kernel, by decide +kernel⟩, List.mem_of_getElem? (i := 105) (by decide +kernel), List.mem_of_getElem? (i := 443) (by decide +kernel), List.mem_of_getElem? (i := 444) (by decide +kernel)⟩
theorem lw_p12 : lw_okq (⟨"FoldedPages$Plan", "weigh", "(LFoldedPages$Told;)V"⟩, 3) := ⟨⟨by decide +kernel, by decide +kernel⟩, List.mem_of_getElem? (i := 173) (by decide +kernel), List.mem_of_getElem? (i := 460) (by decide +kernel), List.mem_of_getElem? (i := 461) (by decide +kernel)⟩
theorem lw_p13 : lw_okq (⟨"FoldedPages$Plan", "withOneOf", "(LFoldedPages$Told;II)I"⟩, 3) := ⟨⟨by decide +kernel, by decide +kernel⟩, List.mem_of_getElem? (i := 173) (by decide +kernel), List.mem_of_getElem? (i := 464) (by decide +kernel), List.mem_of_getElem? (i := 465) (by decide +kernel)⟩
theorem lw_p14 : lw_okq (⟨"FoldedPages$Plan", "choose", "(LFoldedPages$Told;I)V"⟩, 3) := ⟨⟨by decide +kernel, by decide +kernel⟩, List.mem_of_getElem? (i := 173) (by decide +kernel), List.mem_of_getElem? (i := 480) (by decide +kernel), List.mem_of_getElem? (i := 481) (by decide +kernel)⟩
theorem lw_p15 : lw_okq (⟨"FoldedPages$Plan", "mostOf", "(LFoldedPages$Told;II)I"⟩, 3) := ⟨⟨by decide +kernel, by decide +kernel⟩, List.mem_of_getElem? (i := 173) (by decide +kernel), List.mem_of_getElem? (i := 484) (by decide +kernel), List.mem_of_getElem? (i := 485) (by decide +kernel)⟩
def lw_privs_1 : List (MethodName × Nat) := [(⟨"FoldedPages", "layText", "()I"⟩, 8), (⟨"FoldedPages$Text", "placeOf", "(CII)I"⟩, 2), (⟨"FoldedPages$Text", "readItem", "(LFoldedPages$Told;II)Z"⟩, 2), (⟨"FoldedPages$Text", "readScheme", "(LFoldedPages$Told;II)Z"⟩, 2), (⟨"FoldedPages$Text", "readPrice", "(LFoldedPages$Told;II)Z"⟩, 2), (⟨"FoldedPages$Text", "figuresIn", "(II)I"⟩, 2), (⟨"FoldedPages$Text", "readNumber", "(LFoldedPages$Told;III)Z"⟩, 2), (⟨"FoldedPages", "settle", "()V"⟩, 8), (⟨"FoldedPages$Sheet", "columnAt", "(I)I"⟩, 6), (⟨"FoldedPages$Sheet", "rowAt", "(I)I"⟩, 6), (⟨"FoldedPages$Sheet", "foldLeaf", "(II)V"⟩, 6), (⟨"FoldedPages$Leaf", "stayAt", "(IIZ)V"⟩, 8), (⟨"FoldedPages$Plan", "weigh", "(LFoldedPages$Told;)V"⟩, 3), (⟨"FoldedPages$Plan", "withOneOf", "(LFoldedPages$Told;II)I"⟩, 3), (⟨"FoldedPages$Plan", "choose", "(LFoldedPages$Told;I)V"⟩, 3), (⟨"FoldedPages$Plan", "mostOf", "(LFoldedPages$Told;II)I"⟩, 3)]
theorem lw_r1 : ∀ q ∈ lw_privs_1, lw_okq q := List.forall_mem_cons.mpr ⟨lw_p0, List.forall_mem_cons.mpr ⟨lw_p1, List.forall_mem_cons.mpr ⟨lw_p2, List.forall_mem_cons.mpr ⟨lw_p3, List.forall_mem_cons.mpr ⟨lw_p4, List.forall_mem_cons.mpr ⟨lw_p5, List.forall_mem_cons.mpr ⟨lw_p6, List.forall_mem_cons.mpr ⟨lw_p7, List.forall_mem_cons.mpr ⟨lw_p8, List.forall_mem_cons.mpr ⟨lw_p9, List.forall_mem_cons.mpr ⟨lw_p10, List.forall_mem_cons.mpr ⟨lw_p11, List.forall_mem_cons.mpr ⟨lw_p12, List.forall_mem_cons.mpr ⟨lw_p13, List.forall_mem_cons.mpr ⟨lw_p14, List.forall_mem_cons.mpr ⟨lw_p15, fun _ h => absurd h List.not_mem_nil⟩⟩⟩⟩⟩⟩⟩⟩⟩⟩⟩⟩⟩⟩⟩⟩
theorem lw_p16 : lw_okq (⟨"FoldedPages$Book", "addSheet", "(II)V"⟩, 6) := ⟨⟨by decide +kernel, by decide +kernel⟩, List.mem_of_getElem? (i := 194) (by decide +kernel), List.mem_of_getElem? (i := 496) (by decide +kernel), List.mem_of_getElem? (i := 497) (by decide +kernel)⟩
theorem lw_p17 : lw_okq (⟨"FoldedPages$Book", "placePages", "(LFoldedPages$Told;I)V"⟩, 6) := ⟨⟨by decide +kernel, by decide +kernel⟩, List.mem_of_getElem? (i := 194) (by decide +kernel), List.mem_of_getElem? (i := 500) (by decide +kernel), List.mem_of_getElem? (i := 501) (by decide +kernel)⟩
theorem lw_p18 : lw_okq (⟨"FoldedPages$History", "forgetOldest", "()V"⟩, 2) := ⟨⟨by decide +kernel, by decide +kernel⟩, List.mem_of_getElem? (i := 81) (by decide +kernel), List.mem_of_getElem? (i := 560) (by decide +kernel), List.mem_of_getElem? (i := 561) (by decide +kernel)⟩
theorem lw_p19 : lw_okq (⟨"FoldedPages", "settleAnew", "()V"⟩, 8) := ⟨⟨by decide +kernel, by decide +kernel⟩, List.mem_of_getElem? (i := 18) (by decide +kernel), List.mem_of_getElem? (i := 565) (by decide +kernel), List.mem_of_getElem? (i := 566) (by decide +kernel)⟩
theorem lw_p20 : lw_okq (⟨"FoldedPages", "isScheme", "(I)Z"⟩, 8) := ⟨⟨by decide +kernel, by decide +kernel⟩, List.mem_of_getElem? (i := 18) (by decide +kernel), List.mem_of_getElem? (i := 574) (by decide +kernel), List.mem_of_getElem? (i := 575) (by decide +kernel)⟩
theorem lw_p21 : lw_okq (⟨"FoldedPages", "isSheet", "(I)Z"⟩, 8) := ⟨⟨by decide +kernel, by decide +kernel⟩, List.mem_of_getElem? (i := 18) (by decide +kernel), List.mem_of_getElem? (i := 587) (by decide +kernel), List.mem_of_getElem? (i := 588) (by decide +kernel)⟩
theorem lw_p22 : lw_okq (⟨"FoldedPages$Sheet", "cellAt", "(II)I"⟩, 6) := ⟨⟨by decide +kernel, by decide +kernel⟩, List.mem_of_getElem? (i := 99) (by decide +kernel), List.mem_of_getElem? (i := 629) (by decide +kernel), List.mem_of_getElem? (i := 630) (by decide +kernel)⟩
theorem lw_p23 : lw_okq (⟨"FoldedPages$Sheet", "cellOf", "(I)I"⟩, 6) := ⟨⟨by decide +kernel, by decide +kernel⟩, List.mem_of_getElem? (i := 99) (by decide +kernel), List.mem_of_getElem? (i := 644) (by decide +kernel), List.mem_of_getElem? (i := 645) (by decide +kernel)⟩
theorem lw_p24 : lw_okq (⟨"FoldedPages$Kinds", "isTried", "(II)Z"⟩, 2) := ⟨⟨by decide +kernel, by decide +kernel⟩, List.mem_of_getElem? (i := 158) (by decide +kernel), List.mem_of_getElem? (i := 692) (by decide +kernel), List.mem_of_getElem? (i := 693) (by decide +kernel)⟩
theorem lw_p25 : lw_okq (⟨"FoldedPages$Kinds", "isTriedAlike", "(LFoldedPages$Sheet;)Z"⟩, 2) := ⟨⟨by decide +kernel, by decide +kernel⟩, List.mem_of_getElem? (i := 158) (by decide +kernel), List.mem_of_getElem? (i := 709) (by decide +kernel), List.mem_of_getElem? (i := 710) (by decide +kernel)⟩
theorem lw_p26 : lw_okq (⟨"FoldedPages$Kinds", "keepMarks", "(I)V"⟩, 2) := ⟨⟨by decide +kernel, by decide +kernel⟩, List.mem_of_getElem? (i := 158) (by decide +kernel), List.mem_of_getElem? (i := 726) (by decide +kernel), List.mem_of_getElem? (i := 727) (by decide +kernel)⟩
theorem lw_p27 : lw_okq (⟨"FoldedPages$Kinds", "isKeptBefore", "(I)Z"⟩, 2) := ⟨⟨by decide +kernel, by decide +kernel⟩, List.mem_of_getElem? (i := 158) (by decide +kernel), List.mem_of_getElem? (i := 730) (by decide +kernel), List.mem_of_getElem? (i := 731) (by decide +kernel)⟩
theorem lw_p28 : lw_okq (⟨"FoldedPages$Kinds", "haveSameMarks", "(II)Z"⟩, 2) := ⟨⟨by decide +kernel, by decide +kernel⟩, List.mem_of_getElem? (i := 158) (by decide +kernel), List.mem_of_getElem? (i := 734) (by decide +kernel), List.mem_of_getElem? (i := 735) (by decide +kernel)⟩
theorem lw_p29 : lw_okq (⟨"FoldedPages$Book", "mostOut", "(LFoldedPages$Told;I)I"⟩, 6) := ⟨⟨by decide +kernel, by decide +kernel⟩, List.mem_of_getElem? (i := 194) (by decide +kernel), List.mem_of_getElem? (i := 762) (by decide +kernel), List.mem_of_getElem? (i := 763) (by decide +kernel)⟩
theorem lw_p30 : lw_okq (⟨"FoldedPages", "isMissing", "(I)Z"⟩, 8) := ⟨⟨by decide +kernel, by decide +kernel⟩, List.mem_of_getElem? (i := 18) (by decide +kernel), List.mem_of_getElem? (i := 766) (by decide +kernel), List.mem_of_getElem? (i := 767) (by decide +kernel)⟩
theorem lw_p31 : lw_okq (⟨"FoldedPages", "missingRuns", "()I"⟩, 8) := ⟨⟨by decide +kernel, by decide +kernel⟩, List.mem_of_getElem? (i := 18) (by decide +kernel), List.mem_of_getElem? (i := 787) (by decide +kernel), List.mem_of_getElem? (i := 788) (by decide +kernel)⟩
def lw_privs_2 : List (MethodName × Nat) := [(⟨"FoldedPages$Book", "addSheet", "(II)V"⟩, 6), (⟨"FoldedPages$Book", "placePages", "(LFoldedPages$Told;I)V"⟩, 6), (⟨"FoldedPages$History", "forgetOldest", "()V"⟩, 2), (⟨"FoldedPages", "settleAnew", "()V"⟩, 8), (⟨"FoldedPages", "isScheme", "(I)Z"⟩, 8), (⟨"FoldedPages", "isSheet", "(I)Z"⟩, 8), (⟨"FoldedPages$Sheet", "cellAt", "(II)I"⟩, 6), (⟨"FoldedPages$Sheet", "cellOf", "(I)I"⟩, 6), (⟨"FoldedPages$Kinds", "isTried", "(II)Z"⟩, 2), (⟨"FoldedPages$Kinds", "isTriedAlike", "(LFoldedPages$Sheet;)Z"⟩, 2), (⟨"FoldedPages$Kinds", "keepMarks", "(I)V"⟩, 2), (⟨"FoldedPages$Kinds", "isKeptBefore", "(I)Z"⟩, 2), (⟨"FoldedPages$Kinds", "haveSameMarks", "(II)Z"⟩, 2), (⟨"FoldedPages$Book", "mostOut", "(LFoldedPages$Told;I)I"⟩, 6), (⟨"FoldedPages", "isMissing", "(I)Z"⟩, 8), (⟨"FoldedPages", "missingRuns", "()I"⟩, 8)]
theorem lw_r2 : ∀ q ∈ lw_privs_2, lw_okq q := List.forall_mem_cons.mpr ⟨lw_p16, List.forall_mem_cons.mpr ⟨lw_p17, List.forall_mem_cons.mpr ⟨lw_p18, List.forall_mem_cons.mpr ⟨lw_p19, List.forall_mem_cons.mpr ⟨lw_p20, List.forall_mem_cons.mpr ⟨lw_p21, List.forall_mem_cons.mpr ⟨lw_p22, List.forall_mem_cons.mpr ⟨lw_p23, List.forall_mem_cons.mpr ⟨lw_p24, List.forall_mem_cons.mpr ⟨lw_p25, List.forall_mem_cons.mpr ⟨lw_p26, List.forall_mem_cons.mpr ⟨lw_p27, List.forall_mem_cons.mpr ⟨lw_p28, List.forall_mem_cons.mpr ⟨lw_p29, List.forall_mem_cons.mpr ⟨lw_p30, List.forall_mem_cons.mpr ⟨lw_p31, fun _ h => absurd h List.not_mem_nil⟩⟩⟩⟩⟩⟩⟩⟩⟩⟩⟩⟩⟩⟩⟩⟩
theorem lw_p32 : lw_okq (⟨"FoldedPagesModel", "item", "(I)Z"⟩, 24) := ⟨⟨by decide +kernel, by decide +kernel⟩, List.mem_of_getElem? (i := 795) (by decide +kernel), List.mem_of_getElem? (i := 894) (by decide +kernel), List.mem_of_getElem? (i := 895) (by decide +kernel)⟩
theorem lw_p33 : lw_okq (⟨"FoldedPagesModel", "schemeItem", "()Z"⟩, 24) := ⟨⟨by decide +kernel, by decide +kernel⟩, List.mem_of_getElem? (i := 795) (by decide +kernel), List.mem_of_getElem? (i := 898) (by decide +kernel), List.mem_of_getElem? (i := 899) (by decide +kernel)⟩
theorem lw_p34 : lw_okq (⟨"FoldedPagesModel", "byteAt", "(I)I"⟩, 24) := ⟨⟨by decide +kernel, by decide +kernel⟩, List.mem_of_getElem? (i := 795) (by decide +kernel), List.mem_of_getElem? (i := 902) (by decide +kernel), List.mem_of_getElem? (i := 903) (by decide +kernel)⟩
theorem lw_p35 : lw_okq (⟨"FoldedPagesModel", "figures", "(II)I"⟩, 24) := ⟨⟨by decide +kernel, by decide +kernel⟩, List.mem_of_getElem? (i := 795) (by decide +kernel), List.mem_of_getElem? (i := 912) (by decide +kernel), List.mem_of_getElem? (i := 913) (by decide +kernel)⟩
theorem lw_p36 : lw_okq (⟨"FoldedPagesModel", "tells", "(III)Z"⟩, 24) := ⟨⟨by decide +kernel, by decide +kernel⟩, List.mem_of_getElem? (i := 795) (by decide +kernel), List.mem_of_getElem? (i := 918) (by decide +kernel), List.mem_of_getElem? (i := 919) (by decide +kernel)⟩
theorem lw_p37 : lw_okq (⟨"FoldedPagesModel", "becomes", "(II)I"⟩, 24) := ⟨⟨by decide +kernel, by decide +kernel⟩, List.mem_of_getElem? (i := 795) (by decide +kernel), List.mem_of_getElem? (i := 937) (by decide +kernel), List.mem_of_getElem? (i := 938) (by decide +kernel)⟩
theorem lw_p38 : lw_okq (⟨"FoldedPagesModel", "note", "()V"⟩, 24) := ⟨⟨by decide +kernel, by decide +kernel⟩, List.mem_of_getElem? (i := 795) (by decide +kernel), List.mem_of_getElem? (i := 941) (by decide +kernel), List.mem_of_getElem? (i := 942) (by decide +kernel)⟩
theorem lw_p39 : lw_okq (⟨"FoldedPagesModel", "wholes", "()V"⟩, 24) := ⟨⟨by decide +kernel, by decide +kernel⟩, List.mem_of_getElem? (i := 795) (by decide +kernel), List.mem_of_getElem? (i := 945) (by decide +kernel), List.mem_of_getElem? (i := 946) (by decide +kernel)⟩
theorem lw_p40 : lw_okq (⟨"FoldedPagesModel", "isScheme", "(I)Z"⟩, 24) := ⟨⟨by decide +kernel, by decide +kernel⟩, List.mem_of_getElem? (i := 795) (by decide +kernel), List.mem_of_getElem? (i := 953) (by decide +kernel), List.mem_of_getElem? (i := 954) (by decide +kernel)⟩
theorem lw_p41 : lw_okq (⟨"FoldedPagesModel", "acrossOf", "(I)I"⟩, 24) := ⟨⟨by decide +kernel, by decide +kernel⟩, List.mem_of_getElem? (i := 795) (by decide +kernel), List.mem_of_getElem? (i := 967) (by decide +kernel), List.mem_of_getElem? (i := 968) (by decide +kernel)⟩
theorem lw_p42 : lw_okq (⟨"FoldedPagesModel", "pagesOf", "(I)I"⟩, 24) := ⟨⟨by decide +kernel, by decide +kernel⟩, List.mem_of_getElem? (i := 795) (by decide +kernel), List.mem_of_getElem? (i := 971) (by decide +kernel), List.mem_of_getElem? (i := 972) (by decide +kernel)⟩
theorem lw_p43 : lw_okq (⟨"FoldedPagesModel", "findPlan", "(I)V"⟩, 24) := ⟨⟨by decide +kernel, by decide +kernel⟩, List.mem_of_getElem? (i := 795) (by decide +kernel), List.mem_of_getElem? (i := 975) (by decide +kernel), List.mem_of_getElem? (i := 976) (by decide +kernel)⟩
theorem lw_p44 : lw_okq (⟨"FoldedPagesModel", "lays", "(I)V"⟩, 24) := ⟨⟨by decide +kernel, by decide +kernel⟩, List.mem_of_getElem? (i := 795) (by decide +kernel), List.mem_of_getElem? (i := 992) (by decide +kernel), List.mem_of_getElem? (i := 993) (by decide +kernel)⟩
theorem lw_p45 : lw_okq (⟨"FoldedPagesModel", "foldAll", "()V"⟩, 24) := ⟨⟨by decide +kernel, by decide +kernel⟩, List.mem_of_getElem? (i := 795) (by decide +kernel), List.mem_of_getElem? (i := 996) (by decide +kernel), List.mem_of_getElem? (i := 997) (by decide +kernel)⟩
theorem lw_p46 : lw_okq (⟨"FoldedPagesModel", "turns", "(II)V"⟩, 24) := ⟨⟨by decide +kernel, by decide +kernel⟩, List.mem_of_getElem? (i := 795) (by decide +kernel), List.mem_of_getElem? (i := 1000) (by decide +kernel), List.mem_of_getElem? (i := 1001) (by decide +kernel)⟩
theorem lw_p47 : lw_okq (⟨"FoldedPagesModel", "pageAt", "(II)I"⟩, 24) := ⟨⟨by decide +kernel, by decide +kernel⟩, List.mem_of_getElem? (i := 795) (by decide +kernel), List.mem_of_getElem? (i := 1004) (by decide +kernel), List.mem_of_getElem? (i := 1005) (by decide +kernel)⟩
def lw_privs_3 : List (MethodName × Nat) := [(⟨"FoldedPagesModel", "item", "(I)Z"⟩, 24), (⟨"FoldedPagesModel", "schemeItem", "()Z"⟩, 24), (⟨"FoldedPagesModel", "byteAt", "(I)I"⟩, 24), (⟨"FoldedPagesModel", "figures", "(II)I"⟩, 24), (⟨"FoldedPagesModel", "tells", "(III)Z"⟩, 24), (⟨"FoldedPagesModel", "becomes", "(II)I"⟩, 24), (⟨"FoldedPagesModel", "note", "()V"⟩, 24), (⟨"FoldedPagesModel", "wholes", "()V"⟩, 24), (⟨"FoldedPagesModel", "isScheme", "(I)Z"⟩, 24), (⟨"FoldedPagesModel", "acrossOf", "(I)I"⟩, 24), (⟨"FoldedPagesModel", "pagesOf", "(I)I"⟩, 24), (⟨"FoldedPagesModel", "findPlan", "(I)V"⟩, 24), (⟨"FoldedPagesModel", "lays", "(I)V"⟩, 24), (⟨"FoldedPagesModel", "foldAll", "()V"⟩, 24), (⟨"FoldedPagesModel", "turns", "(II)V"⟩, 24), (⟨"FoldedPagesModel", "pageAt", "(II)I"⟩, 24)]
theorem lw_r3 : ∀ q ∈ lw_privs_3, lw_okq q := List.forall_mem_cons.mpr ⟨lw_p32, List.forall_mem_cons.mpr ⟨lw_p33, List.forall_mem_cons.mpr ⟨lw_p34, List.forall_mem_cons.mpr ⟨lw_p35, List.forall_mem_cons.mpr ⟨lw_p36, List.forall_mem_cons.mpr ⟨lw_p37, List.forall_mem_cons.mpr ⟨lw_p38, List.forall_mem_cons.mpr ⟨lw_p39, List.forall_mem_cons.mpr ⟨lw_p40, List.forall_mem_cons.mpr ⟨lw_p41, List.forall_mem_cons.mpr ⟨lw_p42, List.forall_mem_cons.mpr ⟨lw_p43, List.forall_mem_cons.mpr ⟨lw_p44, List.forall_mem_cons.mpr ⟨lw_p45, List.forall_mem_cons.mpr ⟨lw_p46, List.forall_mem_cons.mpr ⟨lw_p47, fun _ h => absurd h List.not_mem_nil⟩⟩⟩⟩⟩⟩⟩⟩⟩⟩⟩⟩⟩⟩⟩⟩
theorem lw_p48 : lw_okq (⟨"FoldedPagesModel", "isText", "(II)Z"⟩, 24) := ⟨⟨by decide +kernel, by decide +kernel⟩, List.mem_of_getElem? (i := 795) (by decide +kernel), List.mem_of_getElem? (i := 1021) (by decide +kernel), List.mem_of_getElem? (i := 1022) (by decide +kernel)⟩
theorem lw_p49 : lw_okq (⟨"FoldedPagesModel", "knows", "(I)V"⟩, 24) := ⟨⟨by decide +kernel, by decide +kernel⟩, List.mem_of_getElem? (i := 795) (by decide +kernel), List.mem_of_getElem? (i := 1032) (by decide +kernel), List.mem_of_getElem? (i := 1033) (by decide +kernel)⟩
theorem lw_p50 : lw_okq (⟨"FoldedPagesModel", "isKnown", "(I)Z"⟩, 24) := ⟨⟨by decide +kernel, by decide +kernel⟩, List.mem_of_getElem? (i := 795) (by decide +kernel), List.mem_of_getElem? (i := 1036) (by decide +kernel), List.mem_of_getElem? (i := 1037) (by decide +kernel)⟩
theorem lw_p51 : lw_okq (⟨"FoldedPagesModel", "sheetMany", "()I"⟩, 24) := ⟨⟨by decide +kernel, by decide +kernel⟩, List.mem_of_getElem? (i := 795) (by decide +kernel), List.mem_of_getElem? (i := 1048) (by decide +kernel), List.mem_of_getElem? (i := 1049) (by decide +kernel)⟩
theorem lw_p52 : lw_okq (⟨"FoldedPagesModel", "seek", "(I)V"⟩, 24) := ⟨⟨by decide +kernel, by decide +kernel⟩, List.mem_of_getElem? (i := 795) (by decide +kernel), List.mem_of_getElem? (i := 1061) (by decide +kernel), List.mem_of_getElem? (i := 1062) (by decide +kernel)⟩
theorem lw_p53 : lw_okq (⟨"FoldedPagesModel", "numberOf", "(II)I"⟩, 24) := ⟨⟨by decide +kernel, by decide +kernel⟩, List.mem_of_getElem? (i := 795) (by decide +kernel), List.mem_of_getElem? (i := 1065) (by decide +kernel), List.mem_of_getElem? (i := 1066) (by decide +kernel)⟩
theorem lw_p54 : lw_okq (⟨"FoldedPagesModel", "schemeOf", "(I)I"⟩, 24) := ⟨⟨by decide +kernel, by decide +kernel⟩, List.mem_of_getElem? (i := 795) (by decide +kernel), List.mem_of_getElem? (i := 1069) (by decide +kernel), List.mem_of_getElem? (i := 1070) (by decide +kernel)⟩
theorem lw_p55 : lw_okq (⟨"FoldedPagesModel", "halfAhead", "(I)I"⟩, 24) := ⟨⟨by decide +kernel, by decide +kernel⟩, List.mem_of_getElem? (i := 795) (by decide +kernel), List.mem_of_getElem? (i := 1073) (by decide +kernel), List.mem_of_getElem? (i := 1074) (by decide +kernel)⟩
theorem lw_p56 : lw_okq (⟨"FoldedPagesModel", "outOf", "(II)I"⟩, 24) := ⟨⟨by decide +kernel, by decide +kernel⟩, List.mem_of_getElem? (i := 795) (by decide +kernel), List.mem_of_getElem? (i := 1077) (by decide +kernel), List.mem_of_getElem? (i := 1078) (by decide +kernel)⟩
theorem lw_p57 : lw_okq (⟨"FoldedPagesModel", "movedOf", "(II)I"⟩, 24) := ⟨⟨by decide +kernel, by decide +kernel⟩, List.mem_of_getElem? (i := 795) (by decide +kernel), List.mem_of_getElem? (i := 1081) (by decide +kernel), List.mem_of_getElem? (i := 1082) (by decide +kernel)⟩
theorem lw_p58 : lw_okq (⟨"FoldedPagesModel", "isSheet", "(I)Z"⟩, 24) := ⟨⟨by decide +kernel, by decide +kernel⟩, List.mem_of_getElem? (i := 795) (by decide +kernel), List.mem_of_getElem? (i := 1090) (by decide +kernel), List.mem_of_getElem? (i := 1091) (by decide +kernel)⟩
theorem lw_p59 : lw_okq (⟨"FoldedPagesModel", "spoiledMany", "()I"⟩, 24) := ⟨⟨by decide +kernel, by decide +kernel⟩, List.mem_of_getElem? (i := 795) (by decide +kernel), List.mem_of_getElem? (i := 1098) (by decide +kernel), List.mem_of_getElem? (i := 1099) (by decide +kernel)⟩
def lw_privs_4 : List (MethodName × Nat) := [(⟨"FoldedPagesModel", "isText", "(II)Z"⟩, 24), (⟨"FoldedPagesModel", "knows", "(I)V"⟩, 24), (⟨"FoldedPagesModel", "isKnown", "(I)Z"⟩, 24), (⟨"FoldedPagesModel", "sheetMany", "()I"⟩, 24), (⟨"FoldedPagesModel", "seek", "(I)V"⟩, 24), (⟨"FoldedPagesModel", "numberOf", "(II)I"⟩, 24), (⟨"FoldedPagesModel", "schemeOf", "(I)I"⟩, 24), (⟨"FoldedPagesModel", "halfAhead", "(I)I"⟩, 24), (⟨"FoldedPagesModel", "outOf", "(II)I"⟩, 24), (⟨"FoldedPagesModel", "movedOf", "(II)I"⟩, 24), (⟨"FoldedPagesModel", "isSheet", "(I)Z"⟩, 24), (⟨"FoldedPagesModel", "spoiledMany", "()I"⟩, 24)]
theorem lw_r4 : ∀ q ∈ lw_privs_4, lw_okq q := List.forall_mem_cons.mpr ⟨lw_p48, List.forall_mem_cons.mpr ⟨lw_p49, List.forall_mem_cons.mpr ⟨lw_p50, List.forall_mem_cons.mpr ⟨lw_p51, List.forall_mem_cons.mpr ⟨lw_p52, List.forall_mem_cons.mpr ⟨lw_p53, List.forall_mem_cons.mpr ⟨lw_p54, List.forall_mem_cons.mpr ⟨lw_p55, List.forall_mem_cons.mpr ⟨lw_p56, List.forall_mem_cons.mpr ⟨lw_p57, List.forall_mem_cons.mpr ⟨lw_p58, List.forall_mem_cons.mpr ⟨lw_p59, fun _ h => absurd h List.not_mem_nil⟩⟩⟩⟩⟩⟩⟩⟩⟩⟩⟩⟩
def lw_privs : List (MethodName × Nat) := lw_privs_1 ++ (lw_privs_2 ++ (lw_privs_3 ++ (lw_privs_4)))
def lw_tbl : List Cond := k2_sels lw_privs ++ tables_1
theorem lw_privs_ok : ∀ q ∈ lw_privs, lw_okq q := by
  show ∀ q ∈ lw_privs_1 ++ (lw_privs_2 ++ (lw_privs_3 ++ (lw_privs_4))), lw_okq q
  exact List.forall_mem_append.mpr ⟨lw_r1, List.forall_mem_append.mpr ⟨lw_r2, List.forall_mem_append.mpr ⟨lw_r3, lw_r4⟩⟩⟩
end
section
/-! ===== BEGIN words of one list among another's, by their places ===== -/
theorem goodIn_r {big : List Cond} (ws : List Cond) (ps : List Nat) (hp : ws = ps.filterMap (fun i => big[i]?)) (h : ws.all goodWord = true) : GoodIn big ws := by
  intro w hw
  have h1 := List.all_eq_true.mp h w hw
  rw [hp] at hw
  obtain ⟨i, -, hi⟩ := List.mem_filterMap.mp hw
  have hm : w ∈ big := by first | exact List.mem_of_getElem? hi | exact List.getElem?_mem hi
  exact ⟨hm, good_of_word h1⟩
theorem goodIn_app {big a b : List Cond} (ha : GoodIn big a) (hb : GoodIn big b) : GoodIn big (a ++ b) := fun w h => (List.mem_append.mp h).elim (ha w) (hb w)
theorem goodIn_ca {big a b : List Cond} {c : Cond} (ha : GoodIn big (c :: a)) (hb : GoodIn big b) : GoodIn big (c :: (a ++ b)) := fun w h => (List.mem_cons.mp h).elim (fun e => ha w (List.mem_cons.mpr (Or.inl e))) (fun h => (List.mem_append.mp h).elim (fun h => ha w (List.mem_cons.mpr (Or.inr h))) (hb w))
theorem goodIn_sub {big ws : List Cond} (hm : ∀ w ∈ ws, w ∈ big) (h : ws.all goodWord = true) : GoodIn big ws := fun w hw => ⟨hm w hw, good_of_word (List.all_eq_true.mp h w hw)⟩
/-! ===== END ===== -/

/-! ===== BEGIN printed: names, fields, word lists, decode rows ===== -/
def RX0 : String := "FoldedPages$Book"
def TX0 : u_T := fun k => match k with
  | 0 => ("FoldedPages$Book", "sheetCount", "I", false)
  | 1 => ("FoldedPages$Book", "pageCount", "I", false)
  | 2 => ("FoldedPages$Book", "schemeOf", "[I", true)
  | 3 => ("FoldedPages$Book", "pagesAhead", "[I", true)
  | 4 => ("FoldedPages$Book", "sheetAt", "[I", true)
  | _ => ("FoldedPages$Book", "pageAt", "[I", true)
def tyX0 : Nat → FieldType := fun k => match k with
  | 0 => .int
  | 1 => .int
  | 2 => .array .int
  | 3 => .array .int
  | 4 => .array .int
  | _ => .array .int
abbrev wsX00 : List Cond := u_ws RX0 TX0 6
theorem nmX0 : ∀ a, a < 6 → ∀ b, b < 6 → a ≠ b → (TX0 a).2.1 ≠ (TX0 b).2.1 := by decide +kernel
theorem tyX0_ok : ∀ k, k < 6 → parseFieldDescriptor (TX0 k).2.2.1 = some (tyX0 k) := by decide +kernel
abbrev cX0_init : ByteArray := prog_2_method_1_code
def yX0_init : MethodName := ⟨RX0, "<init>", "()V"⟩
abbrev cX0_arrange : ByteArray := prog_2_method_2_code
def yX0_arrange : MethodName := ⟨RX0, "arrange", "(LFoldedPages$Told;LFoldedPages$Plan;)V"⟩
abbrev cX0_addSheet : ByteArray := prog_2_method_3_code
def yX0_addSheet : MethodName := ⟨RX0, "addSheet", "(II)V"⟩
abbrev cX0_placePages : ByteArray := prog_2_method_4_code
def yX0_placePages : MethodName := ⟨RX0, "placePages", "(LFoldedPages$Told;I)V"⟩
abbrev cX0_numberOf : ByteArray := prog_2_method_5_code
def yX0_numberOf : MethodName := ⟨RX0, "numberOf", "(LFoldedPages$Told;II)I"⟩
abbrev cX0_out : ByteArray := prog_2_method_6_code
def yX0_out : MethodName := ⟨RX0, "out", "(LFoldedPages$Told;II)I"⟩
abbrev cX0_mostOut : ByteArray := prog_2_method_7_code
def yX0_mostOut : MethodName := ⟨RX0, "mostOut", "(LFoldedPages$Told;I)I"⟩
abbrev cX0_moved : ByteArray := prog_2_method_8_code
def yX0_moved : MethodName := ⟨RX0, "moved", "(LFoldedPages$Told;II)I"⟩
abbrev cX0_blanksOn : ByteArray := prog_2_method_9_code
def yX0_blanksOn : MethodName := ⟨RX0, "blanksOn", "(LFoldedPages$Told;I)I"⟩
def RX1 : String := "FoldedPages$History"
def TX1 : u_T := fun k => match k with
  | 0 => ("FoldedPages$History", "kept", "[LFoldedPages$Told;", true)
  | _ => ("FoldedPages$History", "depth", "I", false)
def tyX1 : Nat → FieldType := fun k => match k with
  | 0 => .array (.object "FoldedPages$Told")
  | _ => .int
abbrev wsX10 : List Cond := u_ws RX1 TX1 2
theorem nmX1 : ∀ a, a < 2 → ∀ b, b < 2 → a ≠ b → (TX1 a).2.1 ≠ (TX1 b).2.1 := by decide +kernel
theorem tyX1_ok : ∀ k, k < 2 → parseFieldDescriptor (TX1 k).2.2.1 = some (tyX1 k) := by decide +kernel
abbrev cX1_init : ByteArray := prog_3_method_1_code
def yX1_init : MethodName := ⟨RX1, "<init>", "()V"⟩
abbrev cX1_keep : ByteArray := prog_3_method_2_code
def yX1_keep : MethodName := ⟨RX1, "keep", "(LFoldedPages$Told;)V"⟩
abbrev cX1_forgetOldest : ByteArray := prog_3_method_3_code
def yX1_forgetOldest : MethodName := ⟨RX1, "forgetOldest", "()V"⟩
abbrev cX1_bringBack : ByteArray := prog_3_method_4_code
def yX1_bringBack : MethodName := ⟨RX1, "bringBack", "(LFoldedPages$Told;)V"⟩
def RX2 : String := "FoldedPages$Kinds"
def TX2 : u_T := fun k => match k with
  | 0 => ("FoldedPages$Kinds", "tried", "LFoldedPages$Sheet;", true)
  | _ => ("FoldedPages$Kinds", "marks", "[I", true)
def tyX2 : Nat → FieldType := fun k => match k with
  | 0 => .object "FoldedPages$Sheet"
  | _ => .array .int
abbrev wsX20 : List Cond := u_ws RX2 TX2 2
theorem nmX2 : ∀ a, a < 2 → ∀ b, b < 2 → a ≠ b → (TX2 a).2.1 ≠ (TX2 b).2.1 := by decide +kernel
theorem tyX2_ok : ∀ k, k < 2 → parseFieldDescriptor (TX2 k).2.2.1 = some (tyX2 k) := by decide +kernel
abbrev cX2_init : ByteArray := prog_4_method_1_code
def yX2_init : MethodName := ⟨RX2, "<init>", "()V"⟩
abbrev cX2_isTried : ByteArray := prog_4_method_2_code
def yX2_isTried : MethodName := ⟨RX2, "isTried", "(II)Z"⟩
abbrev cX2_codesOf : ByteArray := prog_4_method_3_code
def yX2_codesOf : MethodName := ⟨RX2, "codesOf", "(I)I"⟩
abbrev cX2_firstWith : ByteArray := prog_4_method_4_code
def yX2_firstWith : MethodName := ⟨RX2, "firstWith", "(IIIII)I"⟩
abbrev cX2_alikeTo : ByteArray := prog_4_method_5_code
def yX2_alikeTo : MethodName := ⟨RX2, "alikeTo", "(LFoldedPages$Sheet;I)I"⟩
abbrev cX2_isTriedAlike : ByteArray := prog_4_method_6_code
def yX2_isTriedAlike : MethodName := ⟨RX2, "isTriedAlike", "(LFoldedPages$Sheet;)Z"⟩
abbrev cX2_unlikeOnes : ByteArray := prog_4_method_7_code
def yX2_unlikeOnes : MethodName := ⟨RX2, "unlikeOnes", "(I)I"⟩
abbrev cX2_keepMarks : ByteArray := prog_4_method_8_code
def yX2_keepMarks : MethodName := ⟨RX2, "keepMarks", "(I)V"⟩
abbrev cX2_isKeptBefore : ByteArray := prog_4_method_9_code
def yX2_isKeptBefore : MethodName := ⟨RX2, "isKeptBefore", "(I)Z"⟩
abbrev cX2_haveSameMarks : ByteArray := prog_4_method_10_code
def yX2_haveSameMarks : MethodName := ⟨RX2, "haveSameMarks", "(II)Z"⟩
def RX3 : String := "FoldedPages$Leaf"
def TX3 : u_T := fun k => match k with
  | 0 => ("FoldedPages$Leaf", "column", "I", false)
  | 1 => ("FoldedPages$Leaf", "row", "I", false)
  | 2 => ("FoldedPages$Leaf", "columns", "I", false)
  | 3 => ("FoldedPages$Leaf", "rows", "I", false)
  | 4 => ("FoldedPages$Leaf", "size", "I", false)
  | 5 => ("FoldedPages$Leaf", "height", "I", false)
  | 6 => ("FoldedPages$Leaf", "up", "I", false)
  | _ => ("FoldedPages$Leaf", "over", "I", false)
def tyX3 : Nat → FieldType := fun k => match k with
  | 0 => .int
  | 1 => .int
  | 2 => .int
  | 3 => .int
  | 4 => .int
  | 5 => .int
  | 6 => .int
  | _ => .int
abbrev wsX30 : List Cond := u_ws RX3 TX3 8
theorem nmX3 : ∀ a, a < 8 → ∀ b, b < 8 → a ≠ b → (TX3 a).2.1 ≠ (TX3 b).2.1 := by decide +kernel
theorem tyX3_ok : ∀ k, k < 8 → parseFieldDescriptor (TX3 k).2.2.1 = some (tyX3 k) := by decide +kernel
abbrev cX3_init : ByteArray := prog_5_method_1_code
def yX3_init : MethodName := ⟨RX3, "<init>", "()V"⟩
abbrev cX3_lieAt : ByteArray := prog_5_method_2_code
def yX3_lieAt : MethodName := ⟨RX3, "lieAt", "(IIII)V"⟩
abbrev cX3_takeFold : ByteArray := prog_5_method_3_code
def yX3_takeFold : MethodName := ⟨RX3, "takeFold", "(I)V"⟩
abbrev cX3_stayAt : ByteArray := prog_5_method_4_code
def yX3_stayAt : MethodName := ⟨RX3, "stayAt", "(IIZ)V"⟩
abbrev cX3_turnPile : ByteArray := prog_5_method_5_code
def yX3_turnPile : MethodName := ⟨RX3, "turnPile", "()V"⟩
abbrev cX3_frontPage : ByteArray := prog_5_method_6_code
def yX3_frontPage : MethodName := ⟨RX3, "frontPage", "()I"⟩
def RX4 : String := "FoldedPages$Plan"
def TX4 : u_T := fun k => match k with
  | 0 => ("FoldedPages$Plan", "least", "[[I", true)
  | 1 => ("FoldedPages$Plan", "sheetsOf", "[I", true)
  | _ => ("FoldedPages$Plan", "cost", "I", false)
def tyX4 : Nat → FieldType := fun k => match k with
  | 0 => .array (.array .int)
  | 1 => .array .int
  | _ => .int
abbrev wsX40 : List Cond := u_ws RX4 TX4 3
theorem nmX4 : ∀ a, a < 3 → ∀ b, b < 3 → a ≠ b → (TX4 a).2.1 ≠ (TX4 b).2.1 := by decide +kernel
theorem tyX4_ok : ∀ k, k < 3 → parseFieldDescriptor (TX4 k).2.2.1 = some (tyX4 k) := by decide +kernel
abbrev cX4_init : ByteArray := prog_6_method_1_code
def yX4_init : MethodName := ⟨RX4, "<init>", "()V"⟩
abbrev cX4_make : ByteArray := prog_6_method_2_code
def yX4_make : MethodName := ⟨RX4, "make", "(LFoldedPages$Told;)V"⟩
abbrev cX4_weigh : ByteArray := prog_6_method_3_code
def yX4_weigh : MethodName := ⟨RX4, "weigh", "(LFoldedPages$Told;)V"⟩
abbrev cX4_withOneOf : ByteArray := prog_6_method_4_code
def yX4_withOneOf : MethodName := ⟨RX4, "withOneOf", "(LFoldedPages$Told;II)I"⟩
abbrev cX4_cheaper : ByteArray := prog_6_method_5_code
def yX4_cheaper : MethodName := ⟨RX4, "cheaper", "(II)I"⟩
abbrev cX4_unitsFor : ByteArray := prog_6_method_6_code
def yX4_unitsFor : MethodName := ⟨RX4, "unitsFor", "(I)I"⟩
abbrev cX4_choose : ByteArray := prog_6_method_7_code
def yX4_choose : MethodName := ⟨RX4, "choose", "(LFoldedPages$Told;I)V"⟩
abbrev cX4_mostOf : ByteArray := prog_6_method_8_code
def yX4_mostOf : MethodName := ⟨RX4, "mostOf", "(LFoldedPages$Told;II)I"⟩
def RX5 : String := "FoldedPages$Sheet"
def TX5 : u_T := fun k => match k with
  | 0 => ("FoldedPages$Sheet", "columns", "I", false)
  | 1 => ("FoldedPages$Sheet", "rows", "I", false)
  | 2 => ("FoldedPages$Sheet", "foldsAcross", "I", false)
  | 3 => ("FoldedPages$Sheet", "front", "[I", true)
  | 4 => ("FoldedPages$Sheet", "overturned", "[I", true)
  | _ => ("FoldedPages$Sheet", "leaf", "LFoldedPages$Leaf;", true)
def tyX5 : Nat → FieldType := fun k => match k with
  | 0 => .int
  | 1 => .int
  | 2 => .int
  | 3 => .array .int
  | 4 => .array .int
  | _ => .object "FoldedPages$Leaf"
abbrev wsX50 : List Cond := u_ws RX5 TX5 6
theorem nmX5 : ∀ a, a < 6 → ∀ b, b < 6 → a ≠ b → (TX5 a).2.1 ≠ (TX5 b).2.1 := by decide +kernel
theorem tyX5_ok : ∀ k, k < 6 → parseFieldDescriptor (TX5 k).2.2.1 = some (tyX5 k) := by decide +kernel
abbrev cX5_init : ByteArray := prog_7_method_1_code
def yX5_init : MethodName := ⟨RX5, "<init>", "()V"⟩
abbrev cX5_figureAt : ByteArray := prog_7_method_2_code
def yX5_figureAt : MethodName := ⟨RX5, "figureAt", "(III)I"⟩
abbrev cX5_lastFigure : ByteArray := prog_7_method_3_code
def yX5_lastFigure : MethodName := ⟨RX5, "lastFigure", "(I)I"⟩
abbrev cX5_isAcross : ByteArray := prog_7_method_4_code
def yX5_isAcross : MethodName := ⟨RX5, "isAcross", "(I)Z"⟩
abbrev cX5_behind : ByteArray := prog_7_method_5_code
def yX5_behind : MethodName := ⟨RX5, "behind", "(I)I"⟩
abbrev cX5_foldBy : ByteArray := prog_7_method_6_code
def yX5_foldBy : MethodName := ⟨RX5, "foldBy", "(II)V"⟩
abbrev cX5_foldLeaf : ByteArray := prog_7_method_7_code
def yX5_foldLeaf : MethodName := ⟨RX5, "foldLeaf", "(II)V"⟩
abbrev cX5_leaves : ByteArray := prog_7_method_8_code
def yX5_leaves : MethodName := ⟨RX5, "leaves", "()I"⟩
abbrev cX5_cellAt : ByteArray := prog_7_method_9_code
def yX5_cellAt : MethodName := ⟨RX5, "cellAt", "(II)I"⟩
abbrev cX5_columnAt : ByteArray := prog_7_method_10_code
def yX5_columnAt : MethodName := ⟨RX5, "columnAt", "(I)I"⟩
abbrev cX5_rowAt : ByteArray := prog_7_method_11_code
def yX5_rowAt : MethodName := ⟨RX5, "rowAt", "(I)I"⟩
abbrev cX5_hasCell : ByteArray := prog_7_method_12_code
def yX5_hasCell : MethodName := ⟨RX5, "hasCell", "(II)Z"⟩
abbrev cX5_pageOn : ByteArray := prog_7_method_13_code
def yX5_pageOn : MethodName := ⟨RX5, "pageOn", "(III)I"⟩
abbrev cX5_cellOf : ByteArray := prog_7_method_14_code
def yX5_cellOf : MethodName := ⟨RX5, "cellOf", "(I)I"⟩
abbrev cX5_sideOf : ByteArray := prog_7_method_15_code
def yX5_sideOf : MethodName := ⟨RX5, "sideOf", "(I)I"⟩
abbrev cX5_columnOf : ByteArray := prog_7_method_16_code
def yX5_columnOf : MethodName := ⟨RX5, "columnOf", "(I)I"⟩
abbrev cX5_rowOf : ByteArray := prog_7_method_17_code
def yX5_rowOf : MethodName := ⟨RX5, "rowOf", "(I)I"⟩
abbrev cX5_isOverturned : ByteArray := prog_7_method_18_code
def yX5_isOverturned : MethodName := ⟨RX5, "isOverturned", "(I)I"⟩
abbrev cX5_rightOf : ByteArray := prog_7_method_19_code
def yX5_rightOf : MethodName := ⟨RX5, "rightOf", "(I)I"⟩
abbrev cX5_overturnedLeaves : ByteArray := prog_7_method_20_code
def yX5_overturnedLeaves : MethodName := ⟨RX5, "overturnedLeaves", "()I"⟩
abbrev cX5_markOf : ByteArray := prog_7_method_21_code
def yX5_markOf : MethodName := ⟨RX5, "markOf", "(I)I"⟩
def RX6 : String := "FoldedPages$Text"
def TX6 : u_T := fun k => match k with
  | 0 => ("FoldedPages$Text", "letters", "[C", true)
  | _ => ("FoldedPages$Text", "length", "I", false)
def tyX6 : Nat → FieldType := fun k => match k with
  | 0 => .array .char
  | _ => .int
abbrev wsX60 : List Cond := u_ws RX6 TX6 2
theorem nmX6 : ∀ a, a < 2 → ∀ b, b < 2 → a ≠ b → (TX6 a).2.1 ≠ (TX6 b).2.1 := by decide +kernel
theorem tyX6_ok : ∀ k, k < 2 → parseFieldDescriptor (TX6 k).2.2.1 = some (tyX6 k) := by decide +kernel
abbrev cX6_init : ByteArray := prog_8_method_1_code
def yX6_init : MethodName := ⟨RX6, "<init>", "()V"⟩
abbrev cX6_append : ByteArray := prog_8_method_2_code
def yX6_append : MethodName := ⟨RX6, "append", "(C)V"⟩
abbrev cX6_readInto : ByteArray := prog_8_method_3_code
def yX6_readInto : MethodName := ⟨RX6, "readInto", "(LFoldedPages$Told;)I"⟩
abbrev cX6_readItem : ByteArray := prog_8_method_4_code
def yX6_readItem : MethodName := ⟨RX6, "readItem", "(LFoldedPages$Told;II)Z"⟩
abbrev cX6_readScheme : ByteArray := prog_8_method_5_code
def yX6_readScheme : MethodName := ⟨RX6, "readScheme", "(LFoldedPages$Told;II)Z"⟩
abbrev cX6_readPrice : ByteArray := prog_8_method_6_code
def yX6_readPrice : MethodName := ⟨RX6, "readPrice", "(LFoldedPages$Told;II)Z"⟩
abbrev cX6_readNumber : ByteArray := prog_8_method_7_code
def yX6_readNumber : MethodName := ⟨RX6, "readNumber", "(LFoldedPages$Told;III)Z"⟩
abbrev cX6_placeOf : ByteArray := prog_8_method_8_code
def yX6_placeOf : MethodName := ⟨RX6, "placeOf", "(CII)I"⟩
abbrev cX6_figuresIn : ByteArray := prog_8_method_9_code
def yX6_figuresIn : MethodName := ⟨RX6, "figuresIn", "(II)I"⟩
abbrev cX6_foldsIn : ByteArray := prog_8_method_10_code
def yX6_foldsIn : MethodName := ⟨RX6, "foldsIn", "(II)I"⟩
def RX7 : String := "FoldedPages$Told"
def TX7 : u_T := fun k => match k with
  | 0 => ("FoldedPages$Told", "schemes", "I", false)
  | 1 => ("FoldedPages$Told", "numbers", "[I", true)
  | 2 => ("FoldedPages$Told", "foldCounts", "[I", true)
  | 3 => ("FoldedPages$Told", "foldCodes", "[I", true)
  | 4 => ("FoldedPages$Told", "prices", "[I", true)
  | _ => ("FoldedPages$Told", "spoiled", "[I", true)
def tyX7 : Nat → FieldType := fun k => match k with
  | 0 => .int
  | 1 => .array .int
  | 2 => .array .int
  | 3 => .array .int
  | 4 => .array .int
  | _ => .array .int
abbrev wsX70 : List Cond := u_ws RX7 TX7 6
theorem nmX7 : ∀ a, a < 6 → ∀ b, b < 6 → a ≠ b → (TX7 a).2.1 ≠ (TX7 b).2.1 := by decide +kernel
theorem tyX7_ok : ∀ k, k < 6 → parseFieldDescriptor (TX7 k).2.2.1 = some (tyX7 k) := by decide +kernel
abbrev cX7_init : ByteArray := prog_9_method_1_code
def yX7_init : MethodName := ⟨RX7, "<init>", "()V"⟩
abbrev cX7_tellNothing : ByteArray := prog_9_method_2_code
def yX7_tellNothing : MethodName := ⟨RX7, "tellNothing", "()V"⟩
abbrev cX7_unspoil : ByteArray := prog_9_method_3_code
def yX7_unspoil : MethodName := ⟨RX7, "unspoil", "()V"⟩
abbrev cX7_copyFrom : ByteArray := prog_9_method_4_code
def yX7_copyFrom : MethodName := ⟨RX7, "copyFrom", "(LFoldedPages$Told;)V"⟩
abbrev cX7_copyRow : ByteArray := prog_9_method_5_code
def yX7_copyRow : MethodName := ⟨RX7, "copyRow", "([I[I)V"⟩
abbrev cX7_addScheme : ByteArray := prog_9_method_6_code
def yX7_addScheme : MethodName := ⟨RX7, "addScheme", "(II)V"⟩
abbrev cX7_unitsOf : ByteArray := prog_9_method_7_code
def yX7_unitsOf : MethodName := ⟨RX7, "unitsOf", "(I)I"⟩
abbrev cX7_pagesOf : ByteArray := prog_9_method_8_code
def yX7_pagesOf : MethodName := ⟨RX7, "pagesOf", "(I)I"⟩
abbrev cX7_spoiledSheets : ByteArray := prog_9_method_9_code
def yX7_spoiledSheets : MethodName := ⟨RX7, "spoiledSheets", "()I"⟩
def RX8 : String := "FoldedPages"
def TX8 : u_T := fun k => match k with
  | 0 => ("FoldedPages", "text", "LFoldedPages$Text;", true)
  | 1 => ("FoldedPages", "now", "LFoldedPages$Told;", true)
  | 2 => ("FoldedPages", "read", "LFoldedPages$Told;", true)
  | 3 => ("FoldedPages", "history", "LFoldedPages$History;", true)
  | 4 => ("FoldedPages", "sheets", "[LFoldedPages$Sheet;", true)
  | 5 => ("FoldedPages", "kinds", "LFoldedPages$Kinds;", true)
  | 6 => ("FoldedPages", "best", "LFoldedPages$Plan;", true)
  | _ => ("FoldedPages", "pages", "LFoldedPages$Book;", true)
def tyX8 : Nat → FieldType := fun k => match k with
  | 0 => .object "FoldedPages$Text"
  | 1 => .object "FoldedPages$Told"
  | 2 => .object "FoldedPages$Told"
  | 3 => .object "FoldedPages$History"
  | 4 => .array (.object "FoldedPages$Sheet")
  | 5 => .object "FoldedPages$Kinds"
  | 6 => .object "FoldedPages$Plan"
  | _ => .object "FoldedPages$Book"
abbrev wsX80 : List Cond := u_ws RX8 TX8 8
theorem nmX8 : ∀ a, a < 8 → ∀ b, b < 8 → a ≠ b → (TX8 a).2.1 ≠ (TX8 b).2.1 := by decide +kernel
theorem tyX8_ok : ∀ k, k < 8 → parseFieldDescriptor (TX8 k).2.2.1 = some (tyX8 k) := by decide +kernel
abbrev cX8_init : ByteArray := prog_1_method_1_code
def yX8_init : MethodName := ⟨RX8, "<init>", "()V"⟩
abbrev cX8_write : ByteArray := prog_1_method_2_code
def yX8_write : MethodName := ⟨RX8, "write", "(I)I"⟩
abbrev cX8_wipe : ByteArray := prog_1_method_3_code
def yX8_wipe : MethodName := ⟨RX8, "wipe", "()I"⟩
abbrev cX8_fault : ByteArray := prog_1_method_4_code
def yX8_fault : MethodName := ⟨RX8, "fault", "()I"⟩
abbrev cX8_lay : ByteArray := prog_1_method_5_code
def yX8_lay : MethodName := ⟨RX8, "lay", "()I"⟩
abbrev cX8_tell : ByteArray := prog_1_method_6_code
def yX8_tell : MethodName := ⟨RX8, "tell", "(II)I"⟩
abbrev cX8_price : ByteArray := prog_1_method_7_code
def yX8_price : MethodName := ⟨RX8, "price", "(II)I"⟩
abbrev cX8_folds : ByteArray := prog_1_method_8_code
def yX8_folds : MethodName := ⟨RX8, "folds", "(I)I"⟩
abbrev cX8_spoil : ByteArray := prog_1_method_9_code
def yX8_spoil : MethodName := ⟨RX8, "spoil", "(II)I"⟩
abbrev cX8_undo : ByteArray := prog_1_method_10_code
def yX8_undo : MethodName := ⟨RX8, "undo", "()I"⟩
abbrev cX8_scheme : ByteArray := prog_1_method_11_code
def yX8_scheme : MethodName := ⟨RX8, "scheme", "(II)I"⟩
abbrev cX8_fold : ByteArray := prog_1_method_12_code
def yX8_fold : MethodName := ⟨RX8, "fold", "(II)I"⟩
abbrev cX8_page : ByteArray := prog_1_method_13_code
def yX8_page : MethodName := ⟨RX8, "page", "(IIII)I"⟩
abbrev cX8_where : ByteArray := prog_1_method_14_code
def yX8_where : MethodName := ⟨RX8, "where", "(III)I"⟩
abbrev cX8_turned : ByteArray := prog_1_method_15_code
def yX8_turned : MethodName := ⟨RX8, "turned", "(II)I"⟩
abbrev cX8_find : ByteArray := prog_1_method_16_code
def yX8_find : MethodName := ⟨RX8, "find", "(IIIII)I"⟩
abbrev cX8_alike : ByteArray := prog_1_method_17_code
def yX8_alike : MethodName := ⟨RX8, "alike", "(I)I"⟩
abbrev cX8_unlike : ByteArray := prog_1_method_18_code
def yX8_unlike : MethodName := ⟨RX8, "unlike", "(I)I"⟩
abbrev cX8_plan : ByteArray := prog_1_method_19_code
def yX8_plan : MethodName := ⟨RX8, "plan", "(I)I"⟩
abbrev cX8_blanks : ByteArray := prog_1_method_20_code
def yX8_blanks : MethodName := ⟨RX8, "blanks", "(I)I"⟩
abbrev cX8_book : ByteArray := prog_1_method_21_code
def yX8_book : MethodName := ⟨RX8, "book", "(II)I"⟩
abbrev cX8_number : ByteArray := prog_1_method_22_code
def yX8_number : MethodName := ⟨RX8, "number", "(II)I"⟩
abbrev cX8_sheet : ByteArray := prog_1_method_23_code
def yX8_sheet : MethodName := ⟨RX8, "sheet", "(II)I"⟩
abbrev cX8_missing : ByteArray := prog_1_method_24_code
def yX8_missing : MethodName := ⟨RX8, "missing", "(I)I"⟩
abbrev cX8_count : ByteArray := prog_1_method_25_code
def yX8_count : MethodName := ⟨RX8, "count", "(I)I"⟩
abbrev cX8_layText : ByteArray := prog_1_method_26_code
def yX8_layText : MethodName := ⟨RX8, "layText", "()I"⟩
abbrev cX8_settleAnew : ByteArray := prog_1_method_27_code
def yX8_settleAnew : MethodName := ⟨RX8, "settleAnew", "()V"⟩
abbrev cX8_settle : ByteArray := prog_1_method_28_code
def yX8_settle : MethodName := ⟨RX8, "settle", "()V"⟩
abbrev cX8_isScheme : ByteArray := prog_1_method_29_code
def yX8_isScheme : MethodName := ⟨RX8, "isScheme", "(I)Z"⟩
abbrev cX8_isSheet : ByteArray := prog_1_method_30_code
def yX8_isSheet : MethodName := ⟨RX8, "isSheet", "(I)Z"⟩
abbrev cX8_isSide : ByteArray := prog_1_method_31_code
def yX8_isSide : MethodName := ⟨RX8, "isSide", "(I)Z"⟩
abbrev cX8_isFoldCount : ByteArray := prog_1_method_32_code
def yX8_isFoldCount : MethodName := ⟨RX8, "isFoldCount", "(I)Z"⟩
abbrev cX8_isMissing : ByteArray := prog_1_method_33_code
def yX8_isMissing : MethodName := ⟨RX8, "isMissing", "(I)Z"⟩
abbrev cX8_missingRuns : ByteArray := prog_1_method_34_code
def yX8_missingRuns : MethodName := ⟨RX8, "missingRuns", "()I"⟩
def RX9 : String := "FoldedPagesModel"
def TX9 : u_T := fun k => match k with
  | 0 => ("FoldedPagesModel", "length", "I", false)
  | 1 => ("FoldedPagesModel", "text", "[I", true)
  | 2 => ("FoldedPagesModel", "now", "[I", true)
  | 3 => ("FoldedPagesModel", "before", "[I", true)
  | 4 => ("FoldedPagesModel", "undoMany", "I", false)
  | 5 => ("FoldedPagesModel", "read", "[I", true)
  | 6 => ("FoldedPagesModel", "spot", "I", false)
  | 7 => ("FoldedPagesModel", "folds", "[I", true)
  | 8 => ("FoldedPagesModel", "foldMany", "I", false)
  | 9 => ("FoldedPagesModel", "piles", "[I", true)
  | 10 => ("FoldedPagesModel", "after", "[I", true)
  | 11 => ("FoldedPagesModel", "columns", "I", false)
  | 12 => ("FoldedPagesModel", "rows", "I", false)
  | 13 => ("FoldedPagesModel", "cellOf", "[I", true)
  | 14 => ("FoldedPagesModel", "sideOf", "[I", true)
  | 15 => ("FoldedPagesModel", "turnedOf", "[I", true)
  | 16 => ("FoldedPagesModel", "allColumns", "I", false)
  | 17 => ("FoldedPagesModel", "known", "[I", true)
  | 18 => ("FoldedPagesModel", "least", "[I", true)
  | 19 => ("FoldedPagesModel", "plan", "[I", true)
  | 20 => ("FoldedPagesModel", "planPages", "I", false)
  | 21 => ("FoldedPagesModel", "ownSheet", "I", false)
  | 22 => ("FoldedPagesModel", "ownPage", "I", false)
  | _ => ("FoldedPagesModel", "isMissing", "[Z", true)
def tyX9 : Nat → FieldType := fun k => match k with
  | 0 => .int
  | 1 => .array .int
  | 2 => .array .int
  | 3 => .array .int
  | 4 => .int
  | 5 => .array .int
  | 6 => .int
  | 7 => .array .int
  | 8 => .int
  | 9 => .array .int
  | 10 => .array .int
  | 11 => .int
  | 12 => .int
  | 13 => .array .int
  | 14 => .array .int
  | 15 => .array .int
  | 16 => .int
  | 17 => .array .int
  | 18 => .array .int
  | 19 => .array .int
  | 20 => .int
  | 21 => .int
  | 22 => .int
  | _ => .array .boolean
abbrev wsX90 : List Cond := u_ws RX9 TX9 24
theorem nmX9 : ∀ a, a < 24 → ∀ b, b < 24 → a ≠ b → (TX9 a).2.1 ≠ (TX9 b).2.1 := by decide +kernel
theorem tyX9_ok : ∀ k, k < 24 → parseFieldDescriptor (TX9 k).2.2.1 = some (tyX9 k) := by decide +kernel
abbrev cX9_init : ByteArray := prog_11_method_1_code
def yX9_init : MethodName := ⟨RX9, "<init>", "()V"⟩
abbrev cX9_in : ByteArray := prog_11_method_2_code
def yX9_in : MethodName := ⟨RX9, "in", "(JJJ)Z"⟩
abbrev cX9_isFold : ByteArray := prog_11_method_3_code
def yX9_isFold : MethodName := ⟨RX9, "isFold", "(I)Z"⟩
abbrev cX9_isSide : ByteArray := prog_11_method_4_code
def yX9_isSide : MethodName := ⟨RX9, "isSide", "(I)Z"⟩
abbrev cX9_write : ByteArray := prog_11_method_5_code
def yX9_write : MethodName := ⟨RX9, "write", "(I)I"⟩
abbrev cX9_wipe : ByteArray := prog_11_method_6_code
def yX9_wipe : MethodName := ⟨RX9, "wipe", "()I"⟩
abbrev cX9_byteAt : ByteArray := prog_11_method_7_code
def yX9_byteAt : MethodName := ⟨RX9, "byteAt", "(I)I"⟩
abbrev cX9_figures : ByteArray := prog_11_method_8_code
def yX9_figures : MethodName := ⟨RX9, "figures", "(II)I"⟩
abbrev cX9_schemeItem : ByteArray := prog_11_method_9_code
def yX9_schemeItem : MethodName := ⟨RX9, "schemeItem", "()Z"⟩
abbrev cX9_tells : ByteArray := prog_11_method_10_code
def yX9_tells : MethodName := ⟨RX9, "tells", "(III)Z"⟩
abbrev cX9_item : ByteArray := prog_11_method_11_code
def yX9_item : MethodName := ⟨RX9, "item", "(I)Z"⟩
abbrev cX9_fault : ByteArray := prog_11_method_12_code
def yX9_fault : MethodName := ⟨RX9, "fault", "()I"⟩
abbrev cX9_lay : ByteArray := prog_11_method_13_code
def yX9_lay : MethodName := ⟨RX9, "lay", "()I"⟩
abbrev cX9_note : ByteArray := prog_11_method_14_code
def yX9_note : MethodName := ⟨RX9, "note", "()V"⟩
abbrev cX9_wholes : ByteArray := prog_11_method_15_code
def yX9_wholes : MethodName := ⟨RX9, "wholes", "()V"⟩
abbrev cX9_undo : ByteArray := prog_11_method_16_code
def yX9_undo : MethodName := ⟨RX9, "undo", "()I"⟩
abbrev cX9_becomes : ByteArray := prog_11_method_17_code
def yX9_becomes : MethodName := ⟨RX9, "becomes", "(II)I"⟩
abbrev cX9_tell : ByteArray := prog_11_method_18_code
def yX9_tell : MethodName := ⟨RX9, "tell", "(II)I"⟩
abbrev cX9_isScheme : ByteArray := prog_11_method_19_code
def yX9_isScheme : MethodName := ⟨RX9, "isScheme", "(I)Z"⟩
abbrev cX9_price : ByteArray := prog_11_method_20_code
def yX9_price : MethodName := ⟨RX9, "price", "(II)I"⟩
abbrev cX9_folds : ByteArray := prog_11_method_21_code
def yX9_folds : MethodName := ⟨RX9, "folds", "(I)I"⟩
abbrev cX9_lays : ByteArray := prog_11_method_22_code
def yX9_lays : MethodName := ⟨RX9, "lays", "(I)V"⟩
abbrev cX9_turns : ByteArray := prog_11_method_23_code
def yX9_turns : MethodName := ⟨RX9, "turns", "(II)V"⟩
abbrev cX9_foldAll : ByteArray := prog_11_method_24_code
def yX9_foldAll : MethodName := ⟨RX9, "foldAll", "()V"⟩
abbrev cX9_pageAt : ByteArray := prog_11_method_25_code
def yX9_pageAt : MethodName := ⟨RX9, "pageAt", "(II)I"⟩
abbrev cX9_pagesOf : ByteArray := prog_11_method_26_code
def yX9_pagesOf : MethodName := ⟨RX9, "pagesOf", "(I)I"⟩
abbrev cX9_acrossOf : ByteArray := prog_11_method_27_code
def yX9_acrossOf : MethodName := ⟨RX9, "acrossOf", "(I)I"⟩
abbrev cX9_scheme : ByteArray := prog_11_method_28_code
def yX9_scheme : MethodName := ⟨RX9, "scheme", "(II)I"⟩
abbrev cX9_fold : ByteArray := prog_11_method_29_code
def yX9_fold : MethodName := ⟨RX9, "fold", "(II)I"⟩
abbrev cX9_page : ByteArray := prog_11_method_30_code
def yX9_page : MethodName := ⟨RX9, "page", "(IIII)I"⟩
abbrev cX9_where : ByteArray := prog_11_method_31_code
def yX9_where : MethodName := ⟨RX9, "where", "(III)I"⟩
abbrev cX9_turned : ByteArray := prog_11_method_32_code
def yX9_turned : MethodName := ⟨RX9, "turned", "(II)I"⟩
abbrev cX9_letterOf : ByteArray := prog_11_method_33_code
def yX9_letterOf : MethodName := ⟨RX9, "letterOf", "(I)I"⟩
abbrev cX9_isText : ByteArray := prog_11_method_34_code
def yX9_isText : MethodName := ⟨RX9, "isText", "(II)Z"⟩
abbrev cX9_find : ByteArray := prog_11_method_35_code
def yX9_find : MethodName := ⟨RX9, "find", "(IIIII)I"⟩
abbrev cX9_knows : ByteArray := prog_11_method_36_code
def yX9_knows : MethodName := ⟨RX9, "knows", "(I)V"⟩
abbrev cX9_isKnown : ByteArray := prog_11_method_37_code
def yX9_isKnown : MethodName := ⟨RX9, "isKnown", "(I)Z"⟩
abbrev cX9_alike : ByteArray := prog_11_method_38_code
def yX9_alike : MethodName := ⟨RX9, "alike", "(I)I"⟩
abbrev cX9_unlike : ByteArray := prog_11_method_39_code
def yX9_unlike : MethodName := ⟨RX9, "unlike", "(I)I"⟩
abbrev cX9_at : ByteArray := prog_11_method_40_code
def yX9_at : MethodName := ⟨RX9, "at", "(II)I"⟩
abbrev cX9_findPlan : ByteArray := prog_11_method_41_code
def yX9_findPlan : MethodName := ⟨RX9, "findPlan", "(I)V"⟩
abbrev cX9_sheetMany : ByteArray := prog_11_method_42_code
def yX9_sheetMany : MethodName := ⟨RX9, "sheetMany", "()I"⟩
abbrev cX9_schemeOf : ByteArray := prog_11_method_43_code
def yX9_schemeOf : MethodName := ⟨RX9, "schemeOf", "(I)I"⟩
abbrev cX9_plan : ByteArray := prog_11_method_44_code
def yX9_plan : MethodName := ⟨RX9, "plan", "(I)I"⟩
abbrev cX9_blanks : ByteArray := prog_11_method_45_code
def yX9_blanks : MethodName := ⟨RX9, "blanks", "(I)I"⟩
abbrev cX9_halfAhead : ByteArray := prog_11_method_46_code
def yX9_halfAhead : MethodName := ⟨RX9, "halfAhead", "(I)I"⟩
abbrev cX9_numberOf : ByteArray := prog_11_method_47_code
def yX9_numberOf : MethodName := ⟨RX9, "numberOf", "(II)I"⟩
abbrev cX9_seek : ByteArray := prog_11_method_48_code
def yX9_seek : MethodName := ⟨RX9, "seek", "(I)V"⟩
abbrev cX9_outOf : ByteArray := prog_11_method_49_code
def yX9_outOf : MethodName := ⟨RX9, "outOf", "(II)I"⟩
abbrev cX9_movedOf : ByteArray := prog_11_method_50_code
def yX9_movedOf : MethodName := ⟨RX9, "movedOf", "(II)I"⟩
abbrev cX9_book : ByteArray := prog_11_method_51_code
def yX9_book : MethodName := ⟨RX9, "book", "(II)I"⟩
abbrev cX9_isSheet : ByteArray := prog_11_method_52_code
def yX9_isSheet : MethodName := ⟨RX9, "isSheet", "(I)Z"⟩
abbrev cX9_number : ByteArray := prog_11_method_53_code
def yX9_number : MethodName := ⟨RX9, "number", "(II)I"⟩
abbrev cX9_spoiledMany : ByteArray := prog_11_method_54_code
def yX9_spoiledMany : MethodName := ⟨RX9, "spoiledMany", "()I"⟩
abbrev cX9_spoil : ByteArray := prog_11_method_55_code
def yX9_spoil : MethodName := ⟨RX9, "spoil", "(II)I"⟩
abbrev cX9_sheet : ByteArray := prog_11_method_56_code
def yX9_sheet : MethodName := ⟨RX9, "sheet", "(II)I"⟩
abbrev cX9_missing : ByteArray := prog_11_method_57_code
def yX9_missing : MethodName := ⟨RX9, "missing", "(I)I"⟩
abbrev cX9_count : ByteArray := prog_11_method_58_code
def yX9_count : MethodName := ⟨RX9, "count", "(I)I"⟩
def RJ11 : String := "java/lang/Character"
def TJ11 : u_T := fun k => match k with
  | _ => ("", "", "", false)
def tyJ11 : Nat → FieldType := fun k => match k with
  | _ => .int
abbrev wsJ110 : List Cond := u_ws RJ11 TJ11 0
theorem nmJ11 : ∀ a, a < 0 → ∀ b, b < 0 → a ≠ b → (TJ11 a).2.1 ≠ (TJ11 b).2.1 := by decide +kernel
theorem tyJ11_ok : ∀ k, k < 0 → parseFieldDescriptor (TJ11 k).2.2.1 = some (tyJ11 k) := by decide +kernel
abbrev cJ11_isValidCodePoint_9a6ad : ByteArray := prog_12_method_11_code
def yJ11_isValidCodePoint_9a6ad : MethodName := ⟨RJ11, "isValidCodePoint", "(I)Z"⟩
abbrev cJ11_highSurrogate_5068e : ByteArray := prog_12_method_28_code
def yJ11_highSurrogate_5068e : MethodName := ⟨RJ11, "highSurrogate", "(I)C"⟩
abbrev cJ11_lowSurrogate_5068e : ByteArray := prog_12_method_29_code
def yJ11_lowSurrogate_5068e : MethodName := ⟨RJ11, "lowSurrogate", "(I)C"⟩
def RJ9 : String := "java/lang/Math"
def TJ9 : u_T := fun k => match k with
  | _ => ("", "", "", false)
def tyJ9 : Nat → FieldType := fun k => match k with
  | _ => .int
abbrev wsJ90 : List Cond := u_ws RJ9 TJ9 0
theorem nmJ9 : ∀ a, a < 0 → ∀ b, b < 0 → a ≠ b → (TJ9 a).2.1 ≠ (TJ9 b).2.1 := by decide +kernel
theorem tyJ9_ok : ∀ k, k < 0 → parseFieldDescriptor (TJ9 k).2.2.1 = some (tyJ9 k) := by decide +kernel
abbrev cJ9_max_7cf53 : ByteArray := prog_13_method_65_code
def yJ9_max_7cf53 : MethodName := ⟨RJ9, "max", "(II)I"⟩
abbrev cJ9_min_7cf53 : ByteArray := prog_13_method_69_code
def yJ9_min_7cf53 : MethodName := ⟨RJ9, "min", "(II)I"⟩
def RJ0 : String := "java/lang/String"
def TJ0 : u_T := fun k => match k with
  | _ => ("", "", "", false)
def tyJ0 : Nat → FieldType := fun k => match k with
  | _ => .int
abbrev wsJ00 : List Cond := u_ws RJ0 TJ0 0
theorem nmJ0 : ∀ a, a < 0 → ∀ b, b < 0 → a ≠ b → (TJ0 a).2.1 ≠ (TJ0 b).2.1 := by decide +kernel
theorem tyJ0_ok : ∀ k, k < 0 → parseFieldDescriptor (TJ0 k).2.2.1 = some (tyJ0 k) := by decide +kernel
abbrev cJ0_length_8abf5 : ByteArray := prog_14_method_54_code
def yJ0_length_8abf5 : MethodName := ⟨RJ0, "length", "()I"⟩
abbrev cJ0_charAt_5068e : ByteArray := prog_14_method_56_code
def yJ0_charAt_5068e : MethodName := ⟨RJ0, "charAt", "(I)C"⟩
abbrev cJ0_indexOf_0f7a4 : ByteArray := prog_14_method_79_code
def yJ0_indexOf_0f7a4 : MethodName := ⟨RJ0, "indexOf", "(I)I"⟩
abbrev cJ0_indexOf_7cf53 : ByteArray := prog_14_method_80_code
def yJ0_indexOf_7cf53 : MethodName := ⟨RJ0, "indexOf", "(II)I"⟩
abbrev cJ0_coder_7d493 : ByteArray := prog_14_method_152_code
def yJ0_coder_7d493 : MethodName := ⟨RJ0, "coder", "()B"⟩
abbrev cJ0_isLatin1_aae02 : ByteArray := prog_14_method_154_code
def yJ0_isLatin1_aae02 : MethodName := ⟨RJ0, "isLatin1", "()Z"⟩
abbrev cJ0_checkIndex_df160 : ByteArray := prog_14_method_155_code
def yJ0_checkIndex_df160 : MethodName := ⟨RJ0, "checkIndex", "(II)V"⟩
abbrev cJ0_checkBoundsBeginEnd_23922 : ByteArray := prog_14_method_158_code
def yJ0_checkBoundsBeginEnd_23922 : MethodName := ⟨RJ0, "checkBoundsBeginEnd", "(III)V"⟩
def RJ1 : String := "java/lang/StringLatin1"
def TJ1 : u_T := fun k => match k with
  | _ => ("", "", "", false)
def tyJ1 : Nat → FieldType := fun k => match k with
  | _ => .int
abbrev wsJ10 : List Cond := u_ws RJ1 TJ1 0
theorem nmJ1 : ∀ a, a < 0 → ∀ b, b < 0 → a ≠ b → (TJ1 a).2.1 ≠ (TJ1 b).2.1 := by decide +kernel
theorem tyJ1_ok : ∀ k, k < 0 → parseFieldDescriptor (TJ1 k).2.2.1 = some (tyJ1 k) := by decide +kernel
abbrev cJ1_charAt_3b067 : ByteArray := prog_15_method_2_code
def yJ1_charAt_3b067 : MethodName := ⟨RJ1, "charAt", "([BI)C"⟩
abbrev cJ1_canEncode_9a6ad : ByteArray := prog_15_method_4_code
def yJ1_canEncode_9a6ad : MethodName := ⟨RJ1, "canEncode", "(I)Z"⟩
abbrev cJ1_indexOf_4cfef : ByteArray := prog_15_method_22_code
def yJ1_indexOf_4cfef : MethodName := ⟨RJ1, "indexOf", "([BIII)I"⟩
abbrev cJ1_indexOfChar_4cfef : ByteArray := prog_15_method_23_code
def yJ1_indexOfChar_4cfef : MethodName := ⟨RJ1, "indexOfChar", "([BIII)I"⟩
def RJ2 : String := "java/lang/StringUTF16"
def TJ2 : u_T := fun k => match k with
  | _ => ("", "", "", false)
def tyJ2 : Nat → FieldType := fun k => match k with
  | _ => .int
abbrev wsJ20 : List Cond := u_ws RJ2 TJ2 0
theorem nmJ2 : ∀ a, a < 0 → ∀ b, b < 0 → a ≠ b → (TJ2 a).2.1 ≠ (TJ2 b).2.1 := by decide +kernel
theorem tyJ2_ok : ∀ k, k < 0 → parseFieldDescriptor (TJ2 k).2.2.1 = some (tyJ2 k) := by decide +kernel
abbrev cJ2_getChar_3b067 : ByteArray := prog_16_method_5_code
def yJ2_getChar_3b067 : MethodName := ⟨RJ2, "getChar", "([BI)C"⟩
abbrev cJ2_length_9d52b : ByteArray := prog_16_method_6_code
def yJ2_length_9d52b : MethodName := ⟨RJ2, "length", "([B)I"⟩
abbrev cJ2_indexOf_4cfef : ByteArray := prog_16_method_40_code
def yJ2_indexOf_4cfef : MethodName := ⟨RJ2, "indexOf", "([BIII)I"⟩
abbrev cJ2_indexOfChar_4cfef : ByteArray := prog_16_method_47_code
def yJ2_indexOfChar_4cfef : MethodName := ⟨RJ2, "indexOfChar", "([BIII)I"⟩
abbrev cJ2_indexOfCharUnsafe_4cfef : ByteArray := prog_16_method_48_code
def yJ2_indexOfCharUnsafe_4cfef : MethodName := ⟨RJ2, "indexOfCharUnsafe", "([BIII)I"⟩
abbrev cJ2_indexOfSupplementary_4cfef : ByteArray := prog_16_method_49_code
def yJ2_indexOfSupplementary_4cfef : MethodName := ⟨RJ2, "indexOfSupplementary", "([BIII)I"⟩
abbrev cJ2_charAt_3b067 : ByteArray := prog_16_method_83_code
def yJ2_charAt_3b067 : MethodName := ⟨RJ2, "charAt", "([BI)C"⟩
abbrev cJ2_checkIndex_2214a : ByteArray := prog_16_method_91_code
def yJ2_checkIndex_2214a : MethodName := ⟨RJ2, "checkIndex", "(I[B)V"⟩
abbrev cJ2_checkBoundsBeginEnd_d044e : ByteArray := prog_16_method_93_code
def yJ2_checkBoundsBeginEnd_d044e : MethodName := ⟨RJ2, "checkBoundsBeginEnd", "(II[B)V"⟩
def RJ3 : String := "jdk/internal/util/Preconditions"
def TJ3 : u_T := fun k => match k with
  | _ => ("", "", "", false)
def tyJ3 : Nat → FieldType := fun k => match k with
  | _ => .int
abbrev wsJ30 : List Cond := u_ws RJ3 TJ3 0
theorem nmJ3 : ∀ a, a < 0 → ∀ b, b < 0 → a ≠ b → (TJ3 a).2.1 ≠ (TJ3 b).2.1 := by decide +kernel
theorem tyJ3_ok : ∀ k, k < 0 → parseFieldDescriptor (TJ3 k).2.2.1 = some (tyJ3 k) := by decide +kernel
abbrev cJ3_checkIndex_8e157 : ByteArray := prog_17_method_11_code
def yJ3_checkIndex_8e157 : MethodName := ⟨RJ3, "checkIndex", "(IILjava/util/function/BiFunction;)I"⟩
abbrev cJ3_checkFromToIndex_8c36e : ByteArray := prog_17_method_12_code
def yJ3_checkFromToIndex_8c36e : MethodName := ⟨RJ3, "checkFromToIndex", "(IIILjava/util/function/BiFunction;)I"⟩
def RL : String := "FoldedPagesLaw"
abbrev cL_law : ByteArray := code
def yL_law : MethodName := ⟨RL, "law", "([I)Z"⟩
theorem inX0 : ∀ w ∈ wsX00, w ∈ lw_tbl := by decide +kernel
theorem inX1 : ∀ w ∈ wsX10, w ∈ lw_tbl := by decide +kernel
theorem inX2 : ∀ w ∈ wsX20, w ∈ lw_tbl := by decide +kernel
theorem inX3 : ∀ w ∈ wsX30, w ∈ lw_tbl := by decide +kernel
theorem inX4 : ∀ w ∈ wsX40, w ∈ lw_tbl := by decide +kernel
theorem inX5 : ∀ w ∈ wsX50, w ∈ lw_tbl := by decide +kernel
theorem inX6 : ∀ w ∈ wsX60, w ∈ lw_tbl := by decide +kernel
theorem inX7 : ∀ w ∈ wsX70, w ∈ lw_tbl := by decide +kernel
theorem inX8 : ∀ w ∈ wsX80, w ∈ lw_tbl := by decide +kernel
theorem inX9 : ∀ w ∈ wsX90, w ∈ lw_tbl := by decide +kernel
/-- the words that a call keeps -/
def wsG : List Cond := lw_tbl.filter goodWord
theorem wsG_of {w : Cond} (h : w ∈ tables_1) (g : goodWord w = true) : w ∈ wsG := List.mem_filter.mpr ⟨List.mem_append_right _ h, g⟩
theorem wsG_sel {w : Cond} (h : w ∈ k2_sels lw_privs) (g : goodWord w = true) : w ∈ wsG := List.mem_filter.mpr ⟨List.mem_append_left _ h, g⟩
theorem wsG_in : ∀ w ∈ wsG, w ∈ lw_tbl := fun _ h => (List.mem_filter.mp h).1
theorem wsG_good : GoodIn wsG wsG := fun w h => ⟨h, good_of_word (List.mem_filter.mp h).2⟩
theorem ingX0 : ∀ w ∈ wsX00, w ∈ wsG := fun w h => List.mem_filter.mpr ⟨inX0 w h, (List.all_eq_true.mp (show wsX00.all goodWord = true by decide +kernel)) w h⟩
theorem ingX1 : ∀ w ∈ wsX10, w ∈ wsG := fun w h => List.mem_filter.mpr ⟨inX1 w h, (List.all_eq_true.mp (show wsX10.all goodWord = true by decide +kernel)) w h⟩
theorem ingX2 : ∀ w ∈ wsX20, w ∈ wsG := fun w h => List.mem_filter.mpr ⟨inX2 w h, (List.all_eq_true.mp (show wsX20.all goodWord = true by decide +kernel)) w h⟩
theorem ingX3 : ∀ w ∈ wsX30, w ∈ wsG := fun w h => List.mem_filter.mpr ⟨inX3 w h, (List.all_eq_true.mp (show wsX30.all goodWord = true by decide +kernel)) w h⟩
theorem ingX4 : ∀ w ∈ wsX40, w ∈ wsG := fun w h => List.mem_filter.mpr ⟨inX4 w h, (List.all_eq_true.mp (show wsX40.all goodWord = true by decide +kernel)) w h⟩
theorem ingX5 : ∀ w ∈ wsX50, w ∈ wsG := fun w h => List.mem_filter.mpr ⟨inX5 w h, (List.all_eq_true.mp (show wsX50.all goodWord = true by decide +kernel)) w h⟩
theorem ingX6 : ∀ w ∈ wsX60, w ∈ wsG := fun w h => List.mem_filter.mpr ⟨inX6 w h, (List.all_eq_true.mp (show wsX60.all goodWord = true by decide +kernel)) w h⟩
theorem ingX7 : ∀ w ∈ wsX70, w ∈ wsG := fun w h => List.mem_filter.mpr ⟨inX7 w h, (List.all_eq_true.mp (show wsX70.all goodWord = true by decide +kernel)) w h⟩
theorem ingX8 : ∀ w ∈ wsX80, w ∈ wsG := fun w h => List.mem_filter.mpr ⟨inX8 w h, (List.all_eq_true.mp (show wsX80.all goodWord = true by decide +kernel)) w h⟩
theorem ingX9 : ∀ w ∈ wsX90, w ∈ wsG := fun w h => List.mem_filter.mpr ⟨inX9 w h, (List.all_eq_true.mp (show wsX90.all goodWord = true by decide +kernel)) w h⟩
abbrev vwCl : List vw_C := [(RX0, TX0, 6), (RX1, TX1, 2), (RX2, TX2, 2), (RX3, TX3, 8), (RX4, TX4, 3), (RX5, TX5, 6), (RX6, TX6, 2), (RX7, TX7, 6), (RX8, TX8, 8), (RX9, TX9, 24)]
end
section
/-! THE LOGICAL MACHINE: objects have numbers (ids); what they hold is a memory of ints; references in fields are fixed, but those of 'kept'. -/
/-- what each int field or element holds, by id and place -/
abbrev Mem : Type := Nat → Nat → Int32
/-- the launch, the classes' ids and slots, the array classes' ids, the addresses of ids, the start of all that is new, how many ids there are -/
abbrev Gt : Type := Launch × (Nat → ClassId) × (Nat → Nat → Nat) × (Nat → ClassId) × (Nat → Nat) × Nat × Nat
def gl (G : Gt) : Launch := G.1
def gD (G : Gt) : va_G := (G.2.1, G.2.2.1)
def gy (G : Gt) : Nat → ClassId := G.2.2.2.1
def gad (G : Gt) : Nat → Nat := G.2.2.2.2.1
def gsz (G : Gt) : Nat := G.2.2.2.2.2.1
def gn (G : Gt) : Nat := G.2.2.2.2.2.2
/-- what is at each id -/
def stags : List Nat := [8, 6, 10, 7, 11, 12, 13, 14, 15, 7, 11, 12, 13, 14, 15, 1, 16, 7, 11, 12, 13, 14, 15, 7, 11, 12, 13, 14, 15, 7, 11, 12, 13, 14, 15, 7, 11, 12, 13, 14, 15, 7, 11, 12, 13, 14, 15, 7, 11, 12, 13, 14, 15, 17, 5, 18, 19, 3, 5, 18, 19, 3, 5, 18, 19, 3, 5, 18, 19, 3, 2, 5, 18, 19, 3, 20, 4, 21, 22, 22, 22, 22, 22, 23, 0, 24, 25, 26, 27, 9, 30, 31, 32, 33, 34, 35, 36, 37, 38, 39, 40, 41, 42, 43]
def stag (i : Nat) : Nat := stags.getD i 99
/-- how long the arrays are, by tag -/
def slens : List Nat := [0, 0, 0, 0, 0, 0, 0, 0, 0, 0, 200, 3, 4, 4, 4, 100, 6, 4, 16, 16, 2048, 5, 108, 4, 100, 100, 433, 433, 0, 0, 200, 132, 792, 132, 4, 16, 16, 32, 32, 32, 33, 2200, 4, 440]
def slen (t : Nat) : Nat := slens.getD t 0
/-- the fields of an object of tag t at id i -/
def flds (ad : Nat → Nat) (t i : Nat) (w : Nat → Int32) : List Value := match t with
  | 0 => [.int (w 0), .int (w 1), .ref (ad (i + 1)), .ref (ad (i + 2)), .ref (ad (i + 3)), .ref (ad (i + 4))]
  | 1 => [.ref (ad (i + 1)), .int (w 1)]
  | 2 => [.ref (ad (i + 1)), .ref (ad (i + 5))]
  | 3 => [.int (w 0), .int (w 1), .int (w 2), .int (w 3), .int (w 4), .int (w 5), .int (w 6), .int (w 7)]
  | 4 => [.ref (ad (i + 1)), .ref (ad (i + 7)), .int (w 2)]
  | 5 => [.int (w 0), .int (w 1), .int (w 2), .ref (ad (i + 1)), .ref (ad (i + 2)), .ref (ad (i + 3))]
  | 6 => [.ref (ad (i + 1)), .int (w 1)]
  | 7 => [.int (w 0), .ref (ad (i + 1)), .ref (ad (i + 2)), .ref (ad (i + 3)), .ref (ad (i + 4)), .ref (ad (i + 5))]
  | 8 => [.ref (ad (i + 1)), .ref (ad (i + 3)), .ref (ad (i + 9)), .ref (ad (i + 15)), .ref (ad (i + 53)), .ref (ad (i + 70)), .ref (ad (i + 76)), .ref (ad (i + 84))]
  | _ => [.int (w 0), .ref (ad (i + 1)), .ref (ad (i + 2)), .ref (ad (i + 3)), .int (w 4), .ref (ad (i + 4)), .int (w 6), .ref (ad (i + 5)), .int (w 8), .ref (ad (i + 6)), .ref (ad (i + 7)), .int (w 11), .int (w 12), .ref (ad (i + 8)), .ref (ad (i + 9)), .ref (ad (i + 10)), .int (w 16), .ref (ad (i + 11)), .ref (ad (i + 12)), .ref (ad (i + 13)), .int (w 20), .int (w 21), .int (w 22), .ref (ad (i + 14))]
/-- the cell of a tag t at id i, when its row is w -/
def cellT (ad : Nat → Nat) (cy : Nat → ClassId) (t i : Nat) (w : Nat → Int32) : va_E :=
  if t < 10 then .inr (t, flds ad t i w)
  else if t = 10 then .inl (cy 0, 200, .inl w)
  else if t = 43 then .inl (cy 2, 440, .inl w)
  else if t = 16 then .inl (cy 3, 6, .inr (.inr (.inr (.inr (fun k => some (ad (w k).toNatClampNeg))))))
  else if t = 17 then .inl (cy 4, 4, .inr (.inr (.inr (.inr (fun k => some (ad (54 + 4 * k)))))))
  else if t = 21 then .inl (cy 5, 5, .inr (.inr (.inr (.inr (fun k => some (ad (78 + k)))))))
  else .inl (cy 1, slen t, .inl w)
def cellOf (ad : Nat → Nat) (cy : Nat → ClassId) (i : Nat) (w : Nat → Int32) : va_E := cellT ad cy (stag i) i w
def wl (G : Gt) (I : Mem) : va_W := (List.range (gn G)).map fun i => (gad G i, cellOf (gad G) (gy G) i (I i))
/-- the row of id a is w -/
def upR (I : Mem) (a : Nat) (w : Nat → Int32) : Mem := fun i => if i = a then w else I i
/-- place k of id a is x -/
def stm (I : Mem) (a k : Nat) (x : Int32) : Mem := upR I a (upd (I a) k x)
theorem wl_get {G : Gt} {I : Mem} {i : Nat} (h : i < gn G) : (wl G I)[i]? = some (gad G i, cellOf (gad G) (gy G) i (I i)) := by
  unfold wl
  rw [List.getElem?_map, List.getElem?_range h]
  rfl
theorem wl_some {G : Gt} {I : Mem} {i : Nat} {q : Nat × va_E} (h : (wl G I)[i]? = some q) : i < gn G ∧ q = (gad G i, cellOf (gad G) (gy G) i (I i)) := by
  by_cases hi : i < gn G
  · rw [wl_get hi] at h
    exact ⟨hi, (Option.some.inj h).symm⟩
  · have hn : (wl G I)[i]? = none := List.getElem?_eq_none (by unfold wl; rw [List.length_map, List.length_range]; omega)
    rw [hn] at h
    cases h
theorem wl_set {G : Gt} {I : Mem} {a : Nat} (w : Nat → Int32) (h : a < gn G) : (wl G I).set a (gad G a, cellOf (gad G) (gy G) a w) = wl G (upR I a w) := by
  apply List.ext_getElem?
  intro i
  rw [List.getElem?_set]
  by_cases e : a = i
  · subst e
    rw [if_pos rfl, if_pos (by unfold wl; rw [List.length_map, List.length_range]; exact h), wl_get h]
    simp [upR]
  · rw [if_neg e]
    by_cases hi : i < gn G
    · rw [wl_get hi, wl_get hi]
      simp [upR, Ne.symm e]
    · rw [List.getElem?_eq_none (by unfold wl; rw [List.length_map, List.length_range]; omega), List.getElem?_eq_none (by unfold wl; rw [List.length_map, List.length_range]; omega)]
/-- the addresses are apart, and new -/
def Gok (G : Gt) : Prop := (∀ i j : Nat, i < gn G → j < gn G → gad G i = gad G j → i = j) ∧ ∀ i : Nat, i < gn G → gsz G ≤ gad G i
def gA (G : Gt) : Nat → Prop := fun q => gsz G ≤ q
theorem Gok.D {G : Gt} (h : Gok G) (I : Mem) : va_D (gA G) (wl G I) := by
  refine ⟨fun i j p q hi hj hpq => ?_, fun k q hk => ?_⟩
  · obtain ⟨h1, rfl⟩ := wl_some hi
    obtain ⟨h2, rfl⟩ := wl_some hj
    exact h.1 i j h1 h2 hpq
  · obtain ⟨h1, rfl⟩ := wl_some hk
    exact h.2 k h1
def gtys (G : Gt) : List (ClassId × FieldType) := [(gy G 0, .char), (gy G 1, .int), (gy G 2, .boolean), (gy G 3, .object RX7), (gy G 4, .object RX5), (gy G 5, .array .int)]
/-- the static arrays NUMBER_LEAST, NUMBER_MOST, NUMBER_FIRST -/
def exv (j i : Nat) : Int32 := match j with
  | 0 => if i = 0 then 1 else 0
  | 1 => if i = 0 then 400 else if i = 1 then 20 else 1
  | _ => if i = 0 then 16 else if i = 1 then 2 else 0
/-- the texts "ncm", "blrt", "kl;krbl;ktr;n30;p1,14;" as bytes -/
def sby : List (List Int32) := [[110, 99, 109], [98, 108, 114, 116], [107, 108, 59, 107, 114, 98, 108, 59, 107, 116, 114, 59, 110, 51, 48, 59, 112, 49, 44, 49, 52, 59]]
def sln : List Nat := [3, 4, 22]
/-- what is there ahead of us and stays: static arrays, Strings -/
def Ex (G : Gt) (U : State) : Prop :=
  (va_Z RX8 "NUMBER_LEAST" "[I" (.ref (gad G 1000)) (gA G) U U.heap ∧ va_Z RX8 "NUMBER_MOST" "[I" (.ref (gad G 1001)) (gA G) U U.heap ∧ va_Z RX8 "NUMBER_FIRST" "[I" (.ref (gad G 1002)) (gA G) U U.heap) ∧
  (∀ j : Nat, j < 3 → va_T .int (gad G (1000 + j)) 3 (fun i => .int (exv j i)) (gA G) U U.heap) ∧
  (va_Z RJ0 "COMPACT_STRINGS" "Z" (.int 1) (gA G) U U.heap ∧ va_Zq RJ3 "SIOOBE_FORMATTER" "Ljava/util/function/BiFunction;" (gA G) U U.heap) ∧
  (vk_S 3 sln sby (fun i => gad G (1010 + i)) (fun i => gad G (1020 + i)) (gA G) U U.heap) ∧
  (vk_R RX6 38 "ncm" (gad G 1010) U ∧ vk_R RX6 77 "blrt" (gad G 1011) U ∧ vk_R RX8 152 "blrt" (gad G 1011) U ∧ vk_R RX8 61 "kl;krbl;ktr;n30;p1,14;" (gad G 1012) U)
/-- a value of the logical machine, as the machine has it -/
def tv (G : Gt) (v : Value) : Value := match v with
  | .ref i => .ref (gad G i)
  | w => w
/-- the locals that are set, by their places -/
def lvl (G : Gt) : Nat → List (Option Value) → List (Nat × Value)
  | _, [] => []
  | k, none :: r => lvl G (k + 1) r
  | k, some v :: r => (k, tv G v) :: lvl G (k + 1) r
theorem lvl_mem {G : Gt} : ∀ {ls : List (Option Value)} {k i : Nat} {v : Value}, ls[i]? = some (some v) → (k + i, tv G v) ∈ lvl G k ls
  | [], k, i, v, h => by simp at h
  | none :: r, k, 0, v, h => by simp at h
  | none :: r, k, i + 1, v, h => by
    have h2 : (k + 1 + i, tv G v) ∈ lvl G (k + 1) r := lvl_mem (by simpa using h)
    rw [show k + (i + 1) = k + 1 + i by omega]
    exact h2
  | some w :: r, k, 0, v, h => by
    simp at h
    subst h
    exact List.mem_cons_self
  | some w :: r, k, i + 1, v, h => by
    have h2 : (k + 1 + i, tv G v) ∈ lvl G (k + 1) r := lvl_mem (by simpa using h)
    rw [show k + (i + 1) = k + 1 + i by omega]
    exact List.mem_cons_of_mem _ h2
theorem lvl_of {G : Gt} : ∀ {ls : List (Option Value)} {k : Nat} {q : Nat × Value}, q ∈ lvl G k ls → ∃ (i : Nat) (v : Value), ls[i]? = some (some v) ∧ q = (k + i, tv G v)
  | [], k, q, h => by cases h
  | none :: r, k, q, h => by
    obtain ⟨i, v, h1, h2⟩ := lvl_of (ls := r) h
    exact ⟨i + 1, v, by simpa using h1, by rw [h2]; congr 1; omega⟩
  | some w :: r, k, q, h => by
    rcases List.mem_cons.mp h with h | h
    · exact ⟨0, w, rfl, h⟩
    · obtain ⟨i, v, h1, h2⟩ := lvl_of (ls := r) h
      exact ⟨i + 1, v, by simpa using h1, by rw [h2]; congr 1; omega⟩
/-- no long, no double among them -/
def noLong : List (Option Value) → Bool
  | [] => true
  | none :: r => noLong r
  | some v :: r => v.category == 1 && noLong r
theorem noLong_at : ∀ {ls : List (Option Value)} {i : Nat} {v : Value}, noLong ls = true → ls[i]? = some (some v) → v.category = 1
  | [], i, v, h, e => by simp at e
  | none :: r, 0, v, h, e => by simp at e
  | none :: r, i + 1, v, h, e => noLong_at (ls := r) h (by simpa using e)
  | some w :: r, 0, v, h, e => by
    simp at e
    subst e
    simp [noLong] at h
    exact h.1
  | some w :: r, i + 1, v, h, e => by
    simp [noLong] at h
    exact noLong_at (ls := r) h.2 (by simpa using e)
theorem tv_cat {G : Gt} (v : Value) : (tv G v).category = v.category := by cases v <;> rfl
theorem lvl_load {G : Gt} {lsm : Array Slot} {n i : Nat} {ls : List (Option Value)} {v : Value} (h : lv_has lsm n (lvl G 0 ls)) (e : ls[i]? = some (some v)) : lsm[i]? = some (.val (tv G v)) := by
  have := h.2.2 (0 + i, tv G v) (lvl_mem e)
  simpa using this
theorem lvl_store {G : Gt} {lsm : Array Slot} {n i : Nat} {ls : List (Option Value)} {v : Value} (hc : noLong ls = true) (h : lv_has lsm n ((i, tv G v) :: (lvl G 0 ls).filter (fun q => !(q.1 == i) && !(q.1 + 1 == i && q.2.category == 2)))) : lv_has lsm n (lvl G 0 (ls.set i (some v))) := by
  refine ⟨h.1, h.2.1, fun q hq => ?_⟩
  obtain ⟨j, w, h1, rfl⟩ := lvl_of hq
  refine h.2.2 _ ?_
  rw [List.getElem?_set] at h1
  by_cases e : i = j
  · subst e
    rw [if_pos rfl] at h1
    by_cases hl : i < ls.length
    · rw [if_pos hl] at h1
      cases h1
      simp
    · rw [if_neg hl] at h1
      cases h1
  · rw [if_neg e] at h1
    refine List.mem_cons_of_mem _ (List.mem_filter.mpr ⟨lvl_mem h1, ?_⟩)
    have := noLong_at hc h1
    simp [tv_cat, this]
    omega
/-- a list of locals that knows less -/
def lsle : List (Option Value) → List (Option Value) → Prop
  | [], _ => True
  | none :: a, _ :: b => lsle a b
  | none :: a, [] => lsle a []
  | some v :: a, x :: b => x = some v ∧ lsle a b
  | some _ :: _, [] => False
theorem lsle_at : ∀ {a b : List (Option Value)} {i : Nat} {v : Value}, lsle a b → a[i]? = some (some v) → b[i]? = some (some v)
  | [], b, i, v, h, e => by simp at e
  | none :: a, x :: b, 0, v, h, e => by simp at e
  | none :: a, x :: b, i + 1, v, h, e => by
    have := lsle_at (a := a) (b := b) h (by simpa using e)
    simpa using this
  | none :: a, [], 0, v, h, e => by simp at e
  | none :: a, [], i + 1, v, h, e => by
    have := lsle_at (a := a) (b := []) h (by simpa using e)
    simp at this
  | some w :: a, x :: b, 0, v, h, e => by
    simp at e
    subst e
    simpa using h.1
  | some w :: a, x :: b, i + 1, v, h, e => by
    have := lsle_at (a := a) (b := b) h.2 (by simpa using e)
    simpa using this
  | some w :: a, [], i, v, h, e => h.elim
theorem lsle_has {G : Gt} {lsm : Array Slot} {n : Nat} {a b : List (Option Value)} (hl : lsle a b) (h : lv_has lsm n (lvl G 0 b)) : lv_has lsm n (lvl G 0 a) := by
  refine ⟨h.1, h.2.1, fun q hq => ?_⟩
  obtain ⟨j, w, h1, rfl⟩ := lvl_of hq
  exact h.2.2 _ (lvl_mem (lsle_at hl h1))
/-- a method: its bytes, its locals, its class, its answer's type, its room, the cells and slots that are made, what is to hold at its end -/
abbrev Mt (α : Type) : Type := ByteArray × Nat × String × Option FieldType × Room × Nat × Nat × (List Frame → Array Value → State → α → State → Prop)
def mco {α : Type} (μ : Mt α) : ByteArray := μ.1
def mnl {α : Type} (μ : Mt α) : Nat := μ.2.1
def mow {α : Type} (μ : Mt α) : String := μ.2.2.1
def mrt {α : Type} (μ : Mt α) : Option FieldType := μ.2.2.2.1
def mrm {α : Type} (μ : Mt α) : Room := μ.2.2.2.2.1
def mce {α : Type} (μ : Mt α) : Nat := μ.2.2.2.2.2.1
def msl {α : Type} (μ : Mt α) : Nat := μ.2.2.2.2.2.2.1
def mZ {α : Type} (μ : Mt α) : List Frame → Array Value → State → α → State → Prop := μ.2.2.2.2.2.2.2
/-- what holds of the machine and of the start of the method while it runs -/
def Bx {α : Type} (G : Gt) (μ : Mt α) (p : Program) (s : State) (m : MethodId) (args : Array Value) (meth : Method) (c : Code) : Prop :=
  p.tables.exec = Jvm.exec ∧ c.code = mco μ ∧ c.maxLocals = mnl μ ∧ s.vm.findClass (mow μ) = some m.cls ∧ (∀ w ∈ wsG, w.before args s = true) ∧ va_K (gD G) vwCl (gtys G) s ∧ Ex G s ∧ Gok G ∧ meth.sig.returnType = mrt μ ∧ meth.locks = false
/-- THE JUDGEMENT: from here the machine comes to the end that F tells, if F tells one -/
def J {α : Type} (G : Gt) (μ : Mt α) (pc : Nat) (ls : List (Option Value)) (st : List Value) (I : Mem) (F : Option α) : Prop :=
  ∀ (p : Program) (e : Env) (s : State) (m : MethodId) (args : Array Value) (below : List Frame) (meth : Method) (c : Code), Bx G μ p s m args meth c → ∀ r : α, F = some r → ∀ (H : Heap) (locs : List Loc) (lsm : Array Slot), va_P (gD G) vwCl (wl G I) H → va_S (gA G) s.heap H locs → lv_has lsm (mnl μ) (lvl G 0 ls) →
    W p (gl G) e (mrm μ) s m args below meth c H locs (mce μ) (msl μ) (mZ μ below args s r) (F0 m pc lsm (st.map (tv G)))
section JR
variable {α : Type} {G : Gt} {μ : Mt α} {pc : Nat} {ls : List (Option Value)} {st : List Value} {I : Mem} {F : Option α}
theorem J_none : J G μ pc ls st I none := fun _ _ _ _ _ _ _ _ _ _ h => by cases h
theorem J_eq {F' : Option α} (h : F = F') (k : J G μ pc ls st I F') : J G μ pc ls st I F := h ▸ k
theorem J_weak {ls' : List (Option Value)} (h : lsle ls' ls) (k : J G μ pc ls' st I F) : J G μ pc ls st I F :=
  fun p e s m args below meth c B r hF H locs lsm hP hS hl => k p e s m args below meth c B r hF H locs lsm hP hS (lsle_has h hl)
theorem J_chk {q : Prop} {dq : Decidable q} (k : q → J G μ pc ls st I F) : J G μ pc ls st I (@ite (Option α) q dq F none) := by
  by_cases h : q
  · rw [if_pos h]; exact k h
  · rw [if_neg h]; exact J_none
theorem J_ite {q : Prop} {dq : Decidable q} {F' : Option α} (k : q → J G μ pc ls st I F) (k2 : ¬ q → J G μ pc ls st I F') : J G μ pc ls st I (@ite (Option α) q dq F F') := by
  by_cases h : q
  · rw [if_pos h]; exact k h
  · rw [if_neg h]; exact k2 h
theorem J_iconst {n : Int} {v : Int32} (hd : decode (mco μ) pc = .ok (.iconst n, 1)) (hv : Int32.ofInt n = v) (k : J G μ (pc + 1) ls (.int v :: st) I F) : J G μ pc ls st I F :=
  fun p e s m args below meth c B r hF H locs lsm hP hS hl => lv_iconst B.1 B.2.1 hd hv (k p e s m args below meth c B r hF H locs lsm hP hS hl)
theorem J_bipush {n : Int} {v : Int32} (hd : decode (mco μ) pc = .ok (.bipush n, 2)) (hv : (Int8.ofInt n).toInt32 = v) (k : J G μ (pc + 2) ls (.int v :: st) I F) : J G μ pc ls st I F :=
  fun p e s m args below meth c B r hF H locs lsm hP hS hl => lv_bipush B.1 B.2.1 hd hv (k p e s m args below meth c B r hF H locs lsm hP hS hl)
theorem J_sipush {n : Int} {v : Int32} (hd : decode (mco μ) pc = .ok (.sipush n, 3)) (hv : (Int16.ofInt n).toInt32 = v) (k : J G μ (pc + 3) ls (.int v :: st) I F) : J G μ pc ls st I F :=
  fun p e s m args below meth c B r hF H locs lsm hP hS hl => lv_sipush B.1 B.2.1 hd hv (k p e s m args below meth c B r hF H locs lsm hP hS hl)
theorem J_lconst {n : Fin 2} {v : Int64} (hd : decode (mco μ) pc = .ok (.lconst n, 1)) (hv : Int64.ofNat (n : Nat) = v) (k : J G μ (pc + 1) ls (.long v :: st) I F) : J G μ pc ls st I F :=
  fun p e s m args below meth c B r hF H locs lsm hP hS hl => lv_lconst B.1 B.2.1 hd hv (k p e s m args below meth c B r hF H locs lsm hP hS hl)
theorem J_iload_n {j : Fin 4} {x : Int32} (hd : decode (mco μ) pc = .ok (.iload_n j, 1)) (hl0 : ls[(j : Nat)]? = some (some (.int x))) (k : J G μ (pc + 1) ls (.int x :: st) I F) : J G μ pc ls st I F :=
  fun p e s m args below meth c B r hF H locs lsm hP hS hl => lv_iload_n B.1 B.2.1 hd rfl (lvl_load hl hl0) (k p e s m args below meth c B r hF H locs lsm hP hS hl)
theorem J_iload {j : Nat} {x : Int32} (hd : decode (mco μ) pc = .ok (.iload j, 2)) (hl0 : ls[j]? = some (some (.int x))) (k : J G μ (pc + 2) ls (.int x :: st) I F) : J G μ pc ls st I F :=
  fun p e s m args below meth c B r hF H locs lsm hP hS hl => lv_iload B.1 B.2.1 hd (lvl_load hl hl0) (k p e s m args below meth c B r hF H locs lsm hP hS hl)
theorem J_lload_n {j : Fin 4} {x : Int64} (hd : decode (mco μ) pc = .ok (.lload_n j, 1)) (hl0 : ls[(j : Nat)]? = some (some (.long x))) (k : J G μ (pc + 1) ls (.long x :: st) I F) : J G μ pc ls st I F :=
  fun p e s m args below meth c B r hF H locs lsm hP hS hl => lv_lload_n B.1 B.2.1 hd rfl (lvl_load hl hl0) (k p e s m args below meth c B r hF H locs lsm hP hS hl)
theorem J_lload {j : Nat} {x : Int64} (hd : decode (mco μ) pc = .ok (.lload j, 2)) (hl0 : ls[j]? = some (some (.long x))) (k : J G μ (pc + 2) ls (.long x :: st) I F) : J G μ pc ls st I F :=
  fun p e s m args below meth c B r hF H locs lsm hP hS hl => lv_lload B.1 B.2.1 hd (lvl_load hl hl0) (k p e s m args below meth c B r hF H locs lsm hP hS hl)
theorem J_aload_n {j : Fin 4} {x : Nat} (hd : decode (mco μ) pc = .ok (.aload_n j, 1)) (hl0 : ls[(j : Nat)]? = some (some (.ref x))) (k : J G μ (pc + 1) ls (.ref x :: st) I F) : J G μ pc ls st I F :=
  fun p e s m args below meth c B r hF H locs lsm hP hS hl => lv_aload_n B.1 B.2.1 hd rfl (lvl_load hl hl0) (k p e s m args below meth c B r hF H locs lsm hP hS hl)
theorem J_aload {j : Nat} {x : Nat} (hd : decode (mco μ) pc = .ok (.aload j, 2)) (hl0 : ls[j]? = some (some (.ref x))) (k : J G μ (pc + 2) ls (.ref x :: st) I F) : J G μ pc ls st I F :=
  fun p e s m args below meth c B r hF H locs lsm hP hS hl => lv_aload B.1 B.2.1 hd (lvl_load hl hl0) (k p e s m args below meth c B r hF H locs lsm hP hS hl)
theorem J_istore_n {j : Fin 4} {x : Int32} {ls' : List (Option Value)} (hd : decode (mco μ) pc = .ok (.istore_n j, 1)) (hj : (j : Nat) < mnl μ) (hc : noLong ls = true) (hs : ls.set (j : Nat) (some (.int x)) = ls') (k : J G μ (pc + 1) ls' st I F) : J G μ pc ls (.int x :: st) I F :=
  fun p e s m args below meth c B r hF H locs lsm hP hS hl => lv_istore_n B.1 B.2.1 hd rfl hl hj rfl fun lsm' hl' => by
    subst hs
    exact k p e s m args below meth c B r hF H locs lsm' hP hS (lvl_store (v := .int x) hc hl')
theorem J_istore {j : Nat} {x : Int32} {ls' : List (Option Value)} (hd : decode (mco μ) pc = .ok (.istore j, 2)) (hj : j < mnl μ) (hc : noLong ls = true) (hs : ls.set j (some (.int x)) = ls') (k : J G μ (pc + 2) ls' st I F) : J G μ pc ls (.int x :: st) I F :=
  fun p e s m args below meth c B r hF H locs lsm hP hS hl => lv_istore B.1 B.2.1 hd hl hj rfl fun lsm' hl' => by
    subst hs
    exact k p e s m args below meth c B r hF H locs lsm' hP hS (lvl_store (v := .int x) hc hl')
theorem J_astore_n {j : Fin 4} {x : Nat} {ls' : List (Option Value)} (hd : decode (mco μ) pc = .ok (.astore_n j, 1)) (hj : (j : Nat) < mnl μ) (hc : noLong ls = true) (hs : ls.set (j : Nat) (some (.ref x)) = ls') (k : J G μ (pc + 1) ls' st I F) : J G μ pc ls (.ref x :: st) I F :=
  fun p e s m args below meth c B r hF H locs lsm hP hS hl => lv_astore_n B.1 B.2.1 hd rfl hl hj rfl fun lsm' hl' => by
    subst hs
    exact k p e s m args below meth c B r hF H locs lsm' hP hS (lvl_store (v := .ref x) hc hl')
theorem J_astore {j : Nat} {x : Nat} {ls' : List (Option Value)} (hd : decode (mco μ) pc = .ok (.astore j, 2)) (hj : j < mnl μ) (hc : noLong ls = true) (hs : ls.set j (some (.ref x)) = ls') (k : J G μ (pc + 2) ls' st I F) : J G μ pc ls (.ref x :: st) I F :=
  fun p e s m args below meth c B r hF H locs lsm hP hS hl => lv_astore B.1 B.2.1 hd hl hj rfl fun lsm' hl' => by
    subst hs
    exact k p e s m args below meth c B r hF H locs lsm' hP hS (lvl_store (v := .ref x) hc hl')
theorem lvl_place {G : Gt} : ∀ {ls : List (Option Value)} {k i : Nat} {v : Value}, ls[i]? = some (some v) → ∃ j : Nat, (lvl G k ls)[j]? = some (k + i, tv G v) := fun h => List.getElem?_of_mem (lvl_mem h)
theorem J_iinc {j : Nat} {n : Int} {x d : Int32} {ls' : List (Option Value)} (hd : decode (mco μ) pc = .ok (.iinc j n, 3)) (hn : Int32.ofInt n = d) (hl0 : ls[j]? = some (some (.int x))) (hj : j < mnl μ) (hc : noLong ls = true) (hs : ls.set j (some (.int (x + d))) = ls') (k : J G μ (pc + 3) ls' st I F) : J G μ pc ls st I F :=
  fun p e s m args below meth c B r hF H locs lsm hP hS hl => by
    subst hn
    obtain ⟨i0, hi0⟩ := lvl_place (G := G) (k := 0) hl0
    rw [Nat.zero_add] at hi0
    refine lv_iinc B.1 B.2.1 hd hl hi0 rfl hj rfl fun lsm' hl' => ?_
    subst hs
    exact k p e s m args below meth c B r hF H locs lsm' hP hS (lvl_store (v := .int (x + Int32.ofInt n)) hc hl')
theorem J_iadd {x y : Int32} (hd : decode (mco μ) pc = .ok (.iadd, 1)) (k : J G μ (pc + 1) ls (.int (x + y) :: st) I F) : J G μ pc ls (.int y :: .int x :: st) I F :=
  fun p e s m args below meth c B r hF H locs lsm hP hS hl => lv_iadd B.1 B.2.1 hd (k p e s m args below meth c B r hF H locs lsm hP hS hl)
theorem J_isub {x y : Int32} (hd : decode (mco μ) pc = .ok (.isub, 1)) (k : J G μ (pc + 1) ls (.int (x - y) :: st) I F) : J G μ pc ls (.int y :: .int x :: st) I F :=
  fun p e s m args below meth c B r hF H locs lsm hP hS hl => lv_isub B.1 B.2.1 hd (k p e s m args below meth c B r hF H locs lsm hP hS hl)
theorem J_imul {x y : Int32} (hd : decode (mco μ) pc = .ok (.imul, 1)) (k : J G μ (pc + 1) ls (.int (x * y) :: st) I F) : J G μ pc ls (.int y :: .int x :: st) I F :=
  fun p e s m args below meth c B r hF H locs lsm hP hS hl => lv_imul B.1 B.2.1 hd (k p e s m args below meth c B r hF H locs lsm hP hS hl)
theorem J_iand {x y : Int32} (hd : decode (mco μ) pc = .ok (.iand, 1)) (k : J G μ (pc + 1) ls (.int (x &&& y) :: st) I F) : J G μ pc ls (.int y :: .int x :: st) I F :=
  fun p e s m args below meth c B r hF H locs lsm hP hS hl => lv_iand B.1 B.2.1 hd (k p e s m args below meth c B r hF H locs lsm hP hS hl)
theorem J_ixor {x y : Int32} (hd : decode (mco μ) pc = .ok (.ixor, 1)) (k : J G μ (pc + 1) ls (.int (x ^^^ y) :: st) I F) : J G μ pc ls (.int y :: .int x :: st) I F :=
  fun p e s m args below meth c B r hF H locs lsm hP hS hl => lv_ixor B.1 B.2.1 hd (k p e s m args below meth c B r hF H locs lsm hP hS hl)
theorem J_ishl {x y : Int32} (hd : decode (mco μ) pc = .ok (.ishl, 1)) (k : J G μ (pc + 1) ls (.int (x <<< (y &&& 31)) :: st) I F) : J G μ pc ls (.int y :: .int x :: st) I F :=
  fun p e s m args below meth c B r hF H locs lsm hP hS hl => lv_ishl B.1 B.2.1 hd (k p e s m args below meth c B r hF H locs lsm hP hS hl)
theorem J_ishr {x y : Int32} (hd : decode (mco μ) pc = .ok (.ishr, 1)) (k : J G μ (pc + 1) ls (.int (x >>> (y &&& 31)) :: st) I F) : J G μ pc ls (.int y :: .int x :: st) I F :=
  fun p e s m args below meth c B r hF H locs lsm hP hS hl => lv_ishr B.1 B.2.1 hd (k p e s m args below meth c B r hF H locs lsm hP hS hl)
theorem J_idiv {x y : Int32} (hd : decode (mco μ) pc = .ok (.idiv, 1)) (hne : ¬ y = 0) (k : J G μ (pc + 1) ls (.int (x / y) :: st) I F) : J G μ pc ls (.int y :: .int x :: st) I F :=
  fun p e s m args below meth c B r hF H locs lsm hP hS hl => lv_idiv B.1 B.2.1 hd hne (k p e s m args below meth c B r hF H locs lsm hP hS hl)
theorem J_irem {x y : Int32} (hd : decode (mco μ) pc = .ok (.irem, 1)) (hne : ¬ y = 0) (k : J G μ (pc + 1) ls (.int (x - x / y * y) :: st) I F) : J G μ pc ls (.int y :: .int x :: st) I F :=
  fun p e s m args below meth c B r hF H locs lsm hP hS hl => lv_irem B.1 B.2.1 hd hne (k p e s m args below meth c B r hF H locs lsm hP hS hl)
theorem J_i2l {x : Int32} (hd : decode (mco μ) pc = .ok (.i2l, 1)) (k : J G μ (pc + 1) ls (.long x.toInt64 :: st) I F) : J G μ pc ls (.int x :: st) I F :=
  fun p e s m args below meth c B r hF H locs lsm hP hS hl => lv_i2l B.1 B.2.1 hd rfl (k p e s m args below meth c B r hF H locs lsm hP hS hl)
theorem J_i2c {x : Int32} (hd : decode (mco μ) pc = .ok (.i2c, 1)) (k : J G μ (pc + 1) ls (.int (x.toUInt32 % 65536).toInt32 :: st) I F) : J G μ pc ls (.int x :: st) I F :=
  fun p e s m args below meth c B r hF H locs lsm hP hS hl => lv_i2c B.1 B.2.1 hd rfl (k p e s m args below meth c B r hF H locs lsm hP hS hl)
theorem J_i2b {x : Int32} (hd : decode (mco μ) pc = .ok (.i2b, 1)) (k : J G μ (pc + 1) ls (.int x.toInt8.toInt32 :: st) I F) : J G μ pc ls (.int x :: st) I F :=
  fun p e s m args below meth c B r hF H locs lsm hP hS hl => lv_i2b B.1 B.2.1 hd rfl (k p e s m args below meth c B r hF H locs lsm hP hS hl)
theorem J_lcmp {x y : Int64} (hd : decode (mco μ) pc = .ok (.lcmp, 1)) (k : J G μ (pc + 1) ls (.int (lg_cmp x y) :: st) I F) : J G μ pc ls (.long y :: .long x :: st) I F :=
  fun p e s m args below meth c B r hF H locs lsm hP hS hl => W.lcmp B.1 B.2.1 hd (k p e s m args below meth c B r hF H locs lsm hP hS hl)
theorem J_dupI {x : Int32} (hd : decode (mco μ) pc = .ok (.dup, 1)) (k : J G μ (pc + 1) ls (.int x :: .int x :: st) I F) : J G μ pc ls (.int x :: st) I F :=
  fun p e s m args below meth c B r hF H locs lsm hP hS hl => lv_dup B.1 B.2.1 hd rfl (k p e s m args below meth c B r hF H locs lsm hP hS hl)
theorem J_dupR {x : Nat} (hd : decode (mco μ) pc = .ok (.dup, 1)) (k : J G μ (pc + 1) ls (.ref x :: .ref x :: st) I F) : J G μ pc ls (.ref x :: st) I F :=
  fun p e s m args below meth c B r hF H locs lsm hP hS hl => lv_dup B.1 B.2.1 hd rfl (k p e s m args below meth c B r hF H locs lsm hP hS hl)
theorem J_dup2 {x : Nat} {y : Int32} (hd : decode (mco μ) pc = .ok (.dup2, 1)) (k : J G μ (pc + 1) ls (.int y :: .ref x :: .int y :: .ref x :: st) I F) : J G μ pc ls (.int y :: .ref x :: st) I F :=
  fun p e s m args below meth c B r hF H locs lsm hP hS hl => lv_dup2_11 B.1 B.2.1 hd rfl rfl (k p e s m args below meth c B r hF H locs lsm hP hS hl)
theorem J_popI {x : Int32} (hd : decode (mco μ) pc = .ok (.pop, 1)) (k : J G μ (pc + 1) ls st I F) : J G μ pc ls (.int x :: st) I F :=
  fun p e s m args below meth c B r hF H locs lsm hP hS hl => lv_pop B.1 B.2.1 hd rfl (k p e s m args below meth c B r hF H locs lsm hP hS hl)
theorem J_goto {off : Int} {tgt : Nat} (hd : decode (mco μ) pc = .ok (.goto off, 3)) (ht : (pc : Int) + off = (tgt : Int)) (k : J G μ tgt ls st I F) : J G μ pc ls st I F :=
  fun p e s m args below meth c B r hF H locs lsm hP hS hl => lv_goto B.1 B.2.1 hd ht (k p e s m args below meth c B r hF H locs lsm hP hS hl)
theorem J_ldc {i : Nat} {v : Int32} (hw : Cond.constant (mow μ) i v ∈ wsG) (hd : decode (mco μ) pc = .ok (.ldc i, 2)) (k : J G μ (pc + 2) ls (.int v :: st) I F) : J G μ pc ls st I F :=
  fun p e s m args below meth c B r hF H locs lsm hP hS hl => lv_ldc B.1 B.2.1 B.2.2.2.1 (B.2.2.2.2.1 _ hw) hd (k p e s m args below meth c B r hF H locs lsm hP hS hl)
theorem J_ldc2 {i : Nat} {v : Int64} (hw : Cond.constantLong (mow μ) i v ∈ wsG) (hd : decode (mco μ) pc = .ok (.ldc2_w i, 3)) (k : J G μ (pc + 3) ls (.long v :: st) I F) : J G μ pc ls st I F :=
  fun p e s m args below meth c B r hF H locs lsm hP hS hl => lv_ldc2 B.1 B.2.1 B.2.2.2.1 (B.2.2.2.2.1 _ hw) hd (k p e s m args below meth c B r hF H locs lsm hP hS hl)
end JR
end
section
section JB
variable {α : Type} {G : Gt} {μ : Mt α} {pc : Nat} {ls : List (Option Value)} {st : List Value} {I : Mem} {A B : Option α}
theorem J_icmp_eq {x y : Int32} {off : Int} {tgt : Nat} (hd : decode (mco μ) pc = .ok (.if_icmp .eq off, 3)) (ht : (pc : Int) + off = (tgt : Int)) (kt : J G μ tgt ls st I A) (kf : J G μ (pc + 3) ls st I B) : J G μ pc ls (.int y :: .int x :: st) I (if x = y then A else B) :=
  fun p e s m args below meth c Bq r hF H locs lsm hP hS hl => lv_icmp_eq Bq.1 Bq.2.1 hd ht (fun q => kt p e s m args below meth c Bq r (by rw [if_pos q] at hF; exact hF) H locs lsm hP hS hl) (fun q => kf p e s m args below meth c Bq r (by rw [if_neg q] at hF; exact hF) H locs lsm hP hS hl)
theorem J_if_eq {x : Int32} {off : Int} {tgt : Nat} (hd : decode (mco μ) pc = .ok (.ifCond .eq off, 3)) (ht : (pc : Int) + off = (tgt : Int)) (kt : J G μ tgt ls st I A) (kf : J G μ (pc + 3) ls st I B) : J G μ pc ls (.int x :: st) I (if x = 0 then A else B) :=
  fun p e s m args below meth c Bq r hF H locs lsm hP hS hl => lv_if_eq Bq.1 Bq.2.1 hd ht (fun q => kt p e s m args below meth c Bq r (by rw [if_pos q] at hF; exact hF) H locs lsm hP hS hl) (fun q => kf p e s m args below meth c Bq r (by rw [if_neg q] at hF; exact hF) H locs lsm hP hS hl)
theorem J_icmp_lt {x y : Int32} {off : Int} {tgt : Nat} (hd : decode (mco μ) pc = .ok (.if_icmp .lt off, 3)) (ht : (pc : Int) + off = (tgt : Int)) (kt : J G μ tgt ls st I A) (kf : J G μ (pc + 3) ls st I B) : J G μ pc ls (.int y :: .int x :: st) I (if x < y then A else B) :=
  fun p e s m args below meth c Bq r hF H locs lsm hP hS hl => lv_icmp_lt Bq.1 Bq.2.1 hd ht (fun q => kt p e s m args below meth c Bq r (by rw [if_pos q] at hF; exact hF) H locs lsm hP hS hl) (fun q => kf p e s m args below meth c Bq r (by rw [if_neg q] at hF; exact hF) H locs lsm hP hS hl)
theorem J_if_lt {x : Int32} {off : Int} {tgt : Nat} (hd : decode (mco μ) pc = .ok (.ifCond .lt off, 3)) (ht : (pc : Int) + off = (tgt : Int)) (kt : J G μ tgt ls st I A) (kf : J G μ (pc + 3) ls st I B) : J G μ pc ls (.int x :: st) I (if x < 0 then A else B) :=
  fun p e s m args below meth c Bq r hF H locs lsm hP hS hl => lv_if_lt Bq.1 Bq.2.1 hd ht (fun q => kt p e s m args below meth c Bq r (by rw [if_pos q] at hF; exact hF) H locs lsm hP hS hl) (fun q => kf p e s m args below meth c Bq r (by rw [if_neg q] at hF; exact hF) H locs lsm hP hS hl)
theorem J_icmp_ge {x y : Int32} {off : Int} {tgt : Nat} (hd : decode (mco μ) pc = .ok (.if_icmp .ge off, 3)) (ht : (pc : Int) + off = (tgt : Int)) (kt : J G μ tgt ls st I A) (kf : J G μ (pc + 3) ls st I B) : J G μ pc ls (.int y :: .int x :: st) I (if y ≤ x then A else B) :=
  fun p e s m args below meth c Bq r hF H locs lsm hP hS hl => lv_icmp_ge Bq.1 Bq.2.1 hd ht (fun q => kt p e s m args below meth c Bq r (by rw [if_pos q] at hF; exact hF) H locs lsm hP hS hl) (fun q => kf p e s m args below meth c Bq r (by rw [if_neg q] at hF; exact hF) H locs lsm hP hS hl)
theorem J_if_ge {x : Int32} {off : Int} {tgt : Nat} (hd : decode (mco μ) pc = .ok (.ifCond .ge off, 3)) (ht : (pc : Int) + off = (tgt : Int)) (kt : J G μ tgt ls st I A) (kf : J G μ (pc + 3) ls st I B) : J G μ pc ls (.int x :: st) I (if 0 ≤ x then A else B) :=
  fun p e s m args below meth c Bq r hF H locs lsm hP hS hl => lv_if_ge Bq.1 Bq.2.1 hd ht (fun q => kt p e s m args below meth c Bq r (by rw [if_pos q] at hF; exact hF) H locs lsm hP hS hl) (fun q => kf p e s m args below meth c Bq r (by rw [if_neg q] at hF; exact hF) H locs lsm hP hS hl)
theorem J_icmp_gt {x y : Int32} {off : Int} {tgt : Nat} (hd : decode (mco μ) pc = .ok (.if_icmp .gt off, 3)) (ht : (pc : Int) + off = (tgt : Int)) (kt : J G μ tgt ls st I A) (kf : J G μ (pc + 3) ls st I B) : J G μ pc ls (.int y :: .int x :: st) I (if y < x then A else B) :=
  fun p e s m args below meth c Bq r hF H locs lsm hP hS hl => lv_icmp_gt Bq.1 Bq.2.1 hd ht (fun q => kt p e s m args below meth c Bq r (by rw [if_pos q] at hF; exact hF) H locs lsm hP hS hl) (fun q => kf p e s m args below meth c Bq r (by rw [if_neg q] at hF; exact hF) H locs lsm hP hS hl)
theorem J_if_gt {x : Int32} {off : Int} {tgt : Nat} (hd : decode (mco μ) pc = .ok (.ifCond .gt off, 3)) (ht : (pc : Int) + off = (tgt : Int)) (kt : J G μ tgt ls st I A) (kf : J G μ (pc + 3) ls st I B) : J G μ pc ls (.int x :: st) I (if 0 < x then A else B) :=
  fun p e s m args below meth c Bq r hF H locs lsm hP hS hl => lv_if_gt Bq.1 Bq.2.1 hd ht (fun q => kt p e s m args below meth c Bq r (by rw [if_pos q] at hF; exact hF) H locs lsm hP hS hl) (fun q => kf p e s m args below meth c Bq r (by rw [if_neg q] at hF; exact hF) H locs lsm hP hS hl)
theorem J_icmp_le {x y : Int32} {off : Int} {tgt : Nat} (hd : decode (mco μ) pc = .ok (.if_icmp .le off, 3)) (ht : (pc : Int) + off = (tgt : Int)) (kt : J G μ tgt ls st I A) (kf : J G μ (pc + 3) ls st I B) : J G μ pc ls (.int y :: .int x :: st) I (if x ≤ y then A else B) :=
  fun p e s m args below meth c Bq r hF H locs lsm hP hS hl => lv_icmp_le Bq.1 Bq.2.1 hd ht (fun q => kt p e s m args below meth c Bq r (by rw [if_pos q] at hF; exact hF) H locs lsm hP hS hl) (fun q => kf p e s m args below meth c Bq r (by rw [if_neg q] at hF; exact hF) H locs lsm hP hS hl)
theorem J_if_le {x : Int32} {off : Int} {tgt : Nat} (hd : decode (mco μ) pc = .ok (.ifCond .le off, 3)) (ht : (pc : Int) + off = (tgt : Int)) (kt : J G μ tgt ls st I A) (kf : J G μ (pc + 3) ls st I B) : J G μ pc ls (.int x :: st) I (if x ≤ 0 then A else B) :=
  fun p e s m args below meth c Bq r hF H locs lsm hP hS hl => lv_if_le Bq.1 Bq.2.1 hd ht (fun q => kt p e s m args below meth c Bq r (by rw [if_pos q] at hF; exact hF) H locs lsm hP hS hl) (fun q => kf p e s m args below meth c Bq r (by rw [if_neg q] at hF; exact hF) H locs lsm hP hS hl)
theorem J_icmp_ne {x y : Int32} {off : Int} {tgt : Nat} (hd : decode (mco μ) pc = .ok (.if_icmp .ne off, 3)) (ht : (pc : Int) + off = (tgt : Int)) (kf : J G μ (pc + 3) ls st I A) (kt : J G μ tgt ls st I B) : J G μ pc ls (.int y :: .int x :: st) I (if x = y then A else B) :=
  fun p e s m args below meth c Bq r hF H locs lsm hP hS hl => lv_icmp_ne Bq.1 Bq.2.1 hd ht (fun q => kt p e s m args below meth c Bq r (by rw [if_neg q] at hF; exact hF) H locs lsm hP hS hl) (fun q => kf p e s m args below meth c Bq r (by rw [if_pos q] at hF; exact hF) H locs lsm hP hS hl)
theorem J_if_ne {x : Int32} {off : Int} {tgt : Nat} (hd : decode (mco μ) pc = .ok (.ifCond .ne off, 3)) (ht : (pc : Int) + off = (tgt : Int)) (kf : J G μ (pc + 3) ls st I A) (kt : J G μ tgt ls st I B) : J G μ pc ls (.int x :: st) I (if x = 0 then A else B) :=
  fun p e s m args below meth c Bq r hF H locs lsm hP hS hl => lv_if_ne Bq.1 Bq.2.1 hd ht (fun q => kt p e s m args below meth c Bq r (by rw [if_neg q] at hF; exact hF) H locs lsm hP hS hl) (fun q => kf p e s m args below meth c Bq r (by rw [if_pos q] at hF; exact hF) H locs lsm hP hS hl)
end JB
section JH
variable {α : Type} {G : Gt} {μ : Mt α} {pc : Nat} {ls : List (Option Value)} {st : List Value} {I : Mem} {F : Option α}
/-- id a has tag t -/
def ok (G : Gt) (a t : Nat) : Prop := a < gn G ∧ stag a = t
theorem ok_get {a t : Nat} (h : ok G a t) : (wl G I)[a]? = some (gad G a, cellT (gad G) (gy G) t a (I a)) := by
  rw [wl_get h.1]
  unfold cellOf
  rw [h.2]
theorem ok_obj {a t : Nat} (h : ok G a t) (ht : t < 10) : (wl G I)[a]? = some (gad G a, .inr (t, flds (gad G) t a (I a))) := by
  rw [ok_get h]
  unfold cellT
  rw [if_pos ht]
theorem ok_int {a t : Nat} (h : ok G a t) (ht : ¬ t < 10) (h1 : ¬ t = 10) (h2 : ¬ t = 43) (h3 : ¬ t = 16) (h4 : ¬ t = 17) (h5 : ¬ t = 21) : (wl G I)[a]? = some (gad G a, .inl (gy G 1, slen t, .inl (I a))) := by
  rw [ok_get h]
  unfold cellT
  rw [if_neg ht, if_neg h1, if_neg h2, if_neg h3, if_neg h4, if_neg h5]
theorem ok_set {a t : Nat} (h : ok G a t) (w : Nat → Int32) : (wl G I).set a (gad G a, cellT (gad G) (gy G) t a w) = wl G (upR I a w) := by
  rw [← wl_set w h.1]
  unfold cellOf
  rw [h.2]
theorem J_get {a t k idx : Nat} {C : String} {T : u_T} {N : Nat} (v : Value) (ho : ok G a t) (ht : t < 10) (hc : vwCl[t]? = some (C, T, N)) (hin : ∀ w ∈ u_ws C T N, w ∈ wsG) (hk : k < N) (hl : Cond.fieldLink (mow μ) idx (T k).1 (T k).2.1 (T k).2.2.1 ∈ wsG) (hv : (flds (gad G) t a (I a))[k]? = some (tv G v)) (hd : decode (mco μ) pc = .ok (.getfield idx, 3))
    (kk : J G μ (pc + 3) ls (v :: st) I F) : J G μ pc ls (.ref a :: st) I F :=
  fun p e s m args below meth c B r hF H locs lsm hP hS hl1 => va_get (own := mow μ) B.1 B.2.1 B.2.2.2.2.1 hin B.2.2.2.1 B.2.2.2.2.2.1 hP a (ok_obj ho ht) hc k hk (B.2.2.2.2.1 _ hl) (fun _ h9 => h9) hv hd (kk p e s m args below meth c B r hF H locs lsm hP hS hl1)
theorem J_put {a t k idx : Nat} {C : String} {T : u_T} {N : Nat} {x : Int32} (ho : ok G a t) (ht : t < 10) (hc : vwCl[t]? = some (C, T, N)) (hin : ∀ w ∈ u_ws C T N, w ∈ wsG) (ty0 : Nat → FieldType) (hty : ∀ k, k < N → parseFieldDescriptor (T k).2.2.1 = some (ty0 k)) (hnm : ∀ a, a < N → ∀ b, b < N → a ≠ b → (T a).2.1 ≠ (T b).2.1) (hk : k < N) (hl : Cond.fieldLink (mow μ) idx (T k).1 (T k).2.1 (T k).2.2.1 ∈ wsG) (hfin : (T k).2.2.2 = false) (hde : parseFieldDescriptor (T k).2.2.1 = some .int)
    (hlen : k < (flds (gad G) t a (I a)).length) (hset : (flds (gad G) t a (I a)).set k (.int x) = flds (gad G) t a (upd (I a) k x)) (hd : decode (mco μ) pc = .ok (.putfield idx, 3))
    (kk : J G μ (pc + 3) ls st (stm I a k x) F) : J G μ pc ls (.int x :: .ref a :: st) I F :=
  fun p e s m args below meth c B r hF H locs lsm hP hS hl1 => va_put (own := mow μ) (v := .int x) (ty := .int) B.1 B.2.1 B.2.2.2.2.1 hin ty0 hty hnm B.2.2.2.1 B.2.2.2.2.2.1 hP (B.2.2.2.2.2.2.2.1.D I) hS a (ok_obj ho ht) hc k hk (B.2.2.2.2.1 _ hl) (fun _ h9 => h9) hfin hde rfl rfl hlen hd fun H1 locs1 hP1 _ hS1 => by
    refine kk p e s m args below meth c B r hF H1 locs1 lsm ?_ hS1 hl1
    rw [hset] at hP1
    have e1 : (Sum.inr (t, flds (gad G) t a (upd (I a) k x)) : va_E) = cellT (gad G) (gy G) t a (upd (I a) k x) := by unfold cellT; rw [if_pos ht]
    rw [e1, ok_set ho] at hP1
    exact hP1
theorem J_iald {a t : Nat} {i : Int32} (ho : ok G a t) (ht : ¬ t < 10) (h1 : ¬ t = 10) (h2 : ¬ t = 43) (h3 : ¬ t = 16) (h4 : ¬ t = 17) (h5 : ¬ t = 21) (hin : vp_in i (slen t)) (hd : decode (mco μ) pc = .ok (.iaload, 1)) (kk : J G μ (pc + 1) ls (.int (I a i.toNatClampNeg) :: st) I F) : J G μ pc ls (.int i :: .ref a :: st) I F :=
  fun p e s m args below meth c B r hF H locs lsm hP hS hl1 => va_iald B.1 B.2.1 B.2.2.2.2.2.1 hP a 1 (ok_int ho ht h1 h2 h3 h4 h5) rfl hin hd (kk p e s m args below meth c B r hF H locs lsm hP hS hl1)
theorem J_iast {a t : Nat} {i x : Int32} (ho : ok G a t) (ht : ¬ t < 10) (h1 : ¬ t = 10) (h2 : ¬ t = 43) (h3 : ¬ t = 16) (h4 : ¬ t = 17) (h5 : ¬ t = 21) (hin : vp_in i (slen t)) (hd : decode (mco μ) pc = .ok (.iastore, 1)) (kk : J G μ (pc + 1) ls st (stm I a i.toNatClampNeg x) F) : J G μ pc ls (.int x :: .int i :: .ref a :: st) I F :=
  fun p e s m args below meth c B r hF H locs lsm hP hS hl1 => va_iast B.1 B.2.1 B.2.2.2.2.2.1 hP (B.2.2.2.2.2.2.2.1.D I) hS a 1 (ok_int ho ht h1 h2 h3 h4 h5) rfl hin hd fun H1 locs1 hP1 _ hS1 => by
    refine kk p e s m args below meth c B r hF H1 locs1 lsm ?_ hS1 hl1
    have e1 : (Sum.inl (gy G 1, slen t, .inl (upd (I a) i.toNatClampNeg x)) : va_E) = cellT (gad G) (gy G) t a (upd (I a) i.toNatClampNeg x) := by unfold cellT; rw [if_neg ht, if_neg h1, if_neg h2, if_neg h3, if_neg h4, if_neg h5]
    rw [e1, ok_set ho] at hP1
    exact hP1
theorem J_cald {a : Nat} {i : Int32} (ho : ok G a 10) (hin : vp_in i 200) (hd : decode (mco μ) pc = .ok (.caload, 1)) (kk : J G μ (pc + 1) ls (.int (I a i.toNatClampNeg) :: st) I F) : J G μ pc ls (.int i :: .ref a :: st) I F :=
  fun p e s m args below meth c B r hF H locs lsm hP hS hl1 => va_cald (f := I a) B.1 B.2.1 B.2.2.2.2.2.1 hP a 0 (ok_get ho) rfl hin hd (kk p e s m args below meth c B r hF H locs lsm hP hS hl1)
theorem J_cast {a : Nat} {i x : Int32} (ho : ok G a 10) (hin : vp_in i 200) (hd : decode (mco μ) pc = .ok (.castore, 1)) (kk : J G μ (pc + 1) ls st (stm I a i.toNatClampNeg (vp_nar .char x)) F) : J G μ pc ls (.int x :: .int i :: .ref a :: st) I F :=
  fun p e s m args below meth c B r hF H locs lsm hP hS hl1 => va_cast (f := I a) B.1 B.2.1 B.2.2.2.2.2.1 hP (B.2.2.2.2.2.2.2.1.D I) hS a 0 (ok_get ho) rfl hin hd fun H1 locs1 hP1 _ hS1 => by
    refine kk p e s m args below meth c B r hF H1 locs1 lsm ?_ hS1 hl1
    have e1 := ok_set (G := G) (I := I) ho (upd (I a) i.toNatClampNeg (vp_nar .char x))
    exact e1 ▸ hP1
theorem J_zald {a : Nat} {i : Int32} (ho : ok G a 43) (hin : vp_in i 440) (hd : decode (mco μ) pc = .ok (.baload, 1)) (kk : J G μ (pc + 1) ls (.int (I a i.toNatClampNeg) :: st) I F) : J G μ pc ls (.int i :: .ref a :: st) I F :=
  fun p e s m args below meth c B r hF H locs lsm hP hS hl1 => va_zald (f := I a) B.1 B.2.1 B.2.2.2.2.2.1 hP a 2 (ok_get ho) rfl hin hd (kk p e s m args below meth c B r hF H locs lsm hP hS hl1)
theorem J_zast {a : Nat} {i x : Int32} (ho : ok G a 43) (hin : vp_in i 440) (hd : decode (mco μ) pc = .ok (.bastore, 1)) (kk : J G μ (pc + 1) ls st (stm I a i.toNatClampNeg (vp_nar .boolean x)) F) : J G μ pc ls (.int x :: .int i :: .ref a :: st) I F :=
  fun p e s m args below meth c B r hF H locs lsm hP hS hl1 => va_zast (f := I a) B.1 B.2.1 B.2.2.2.2.2.1 hP (B.2.2.2.2.2.2.2.1.D I) hS a 2 (ok_get ho) rfl hin hd fun H1 locs1 hP1 _ hS1 => by
    refine kk p e s m args below meth c B r hF H1 locs1 lsm ?_ hS1 hl1
    have e1 := ok_set (G := G) (I := I) ho (upd (I a) i.toNatClampNeg (vp_nar .boolean x))
    exact e1 ▸ hP1
/-- kept[i]: the id stands in the memory as an int -/
theorem J_kald {a : Nat} {i : Int32} (ho : ok G a 16) (hin : vp_in i 6) (hd : decode (mco μ) pc = .ok (.aaload, 1)) (kk : J G μ (pc + 1) ls (.ref (I a i.toNatClampNeg).toNatClampNeg :: st) I F) : J G μ pc ls (.int i :: .ref a :: st) I F :=
  fun p e s m args below meth c B r hF H locs lsm hP hS hl1 => va_aldq (C := RX7) (f := fun k => some (gad G (I a k).toNatClampNeg)) B.1 B.2.1 B.2.2.2.2.2.1 hP a 3 (ok_get ho) rfl hin hd (kk p e s m args below meth c B r hF H locs lsm hP hS hl1)
/-- sheets[i] -/
theorem J_sald {a : Nat} {i : Int32} (ho : ok G a 17) (hin : vp_in i 4) (hd : decode (mco μ) pc = .ok (.aaload, 1)) (kk : J G μ (pc + 1) ls (.ref (54 + 4 * i.toNatClampNeg) :: st) I F) : J G μ pc ls (.int i :: .ref a :: st) I F :=
  fun p e s m args below meth c B r hF H locs lsm hP hS hl1 => va_aldq (C := RX5) (f := fun k => some (gad G (54 + 4 * k))) B.1 B.2.1 B.2.2.2.2.2.1 hP a 4 (ok_get ho) rfl hin hd (kk p e s m args below meth c B r hF H locs lsm hP hS hl1)
theorem J_alen {a t : Nat} (ho : ok G a t) (ht : ¬ t < 10) (h1 : ¬ t = 10) (h2 : ¬ t = 43) (h3 : ¬ t = 16) (h4 : ¬ t = 17) (h5 : ¬ t = 21) (hd : decode (mco μ) pc = .ok (.arraylength, 1)) (kk : J G μ (pc + 1) ls (.int (Int32.ofNat (slen t)) :: st) I F) : J G μ pc ls (.ref a :: st) I F :=
  fun p e s m args below meth c B r hF H locs lsm hP hS hl1 => va_alen B.1 B.2.1 B.2.2.2.2.2.1 hP a 1 (ok_int ho ht h1 h2 h3 h4 h5) (ty := .int) rfl rfl hd (kk p e s m args below meth c B r hF H locs lsm hP hS hl1)
end JH
end
section
section JK
variable {α : Type} {G : Gt} {μ : Mt α} {pc : Nat} {ls : List (Option Value)} {st : List Value} {I : Mem} {F : Option α}
/-- least[i] -/
theorem J_lald {a : Nat} {i : Int32} (ho : ok G a 21) (hin : vp_in i 5) (hd : decode (mco μ) pc = .ok (.aaload, 1)) (kk : J G μ (pc + 1) ls (.ref (78 + i.toNatClampNeg) :: st) I F) : J G μ pc ls (.int i :: .ref a :: st) I F := by
  intro p e s m args below meth c B r hF H locs lsm hP hS hl1
  have ha : (wl G I)[a]? = some (gad G a, .inl (gy G 5, 5, .inr (.inr (.inr (.inr (fun k => some (gad G (78 + k)))))))) := ok_get ho
  have hK := B.2.2.2.2.2.1
  have hlt : i.toNatClampNeg < 5 := Nat.not_le.mp fun q => hin (Or.inr q)
  exact W.aald (v := va_rf (some (gad G (78 + i.toNatClampNeg)))) (ty := .array .int) B.1 B.2.1 (hP a _ ha) ((hK.2 5 _ rfl).1 5 (fun j => va_rf (some (gad G (78 + j))))) rfl (fun q => by cases q) (by show ¬ (i < 0 ∨ (arrV _ _ _).slots.size ≤ _); rw [arrV_size]; exact hin) (by show (arrV _ _ _).slots[_]? = _; rw [arrV_read _ _ hlt]) rfl rfl hd (kk p e s m args below meth c B r hF H locs lsm hP hS hl1)
/-- kept[i] = a Told -/
theorem J_kast {a v : Nat} {i : Int32} (ho : ok G a 16) (hv : ok G v 7) (hv31 : v < 2 ^ 31) (hin : vp_in i 6) (hd : decode (mco μ) pc = .ok (.aastore, 1)) (kk : J G μ (pc + 1) ls st (stm I a i.toNatClampNeg (nI v)) F) : J G μ pc ls (.ref v :: .int i :: .ref a :: st) I F := by
  intro p e s m args below meth c B r hF H locs lsm hP hS hl1
  refine va_astq (r := (RX7, TX7, 6)) (f := fun k => some (gad G (I a k).toNatClampNeg)) B.1 B.2.1 B.2.2.2.2.2.1 hP (B.2.2.2.2.2.2.2.1.D I) hS a 3 v 7 (ok_get ho) rfl (ok_obj hv (by decide)) rfl hin hd fun H1 locs1 hP1 _ hS1 => ?_
  refine kk p e s m args below meth c B r hF H1 locs1 lsm ?_ hS1 hl1
  have e1 := ok_set (G := G) (I := I) ho (upd (I a) i.toNatClampNeg (nI v))
  have e2 : (va_up (fun k => some (gad G (I a k).toNatClampNeg)) i.toNatClampNeg (some (gad G v))) = (fun k => some (gad G (upd (I a) i.toNatClampNeg (nI v) k).toNatClampNeg)) := by
    funext k
    unfold va_up upd
    by_cases hk : k = i.toNatClampNeg
    · rw [if_pos hk, if_pos hk, nI_clamp hv31]
    · rw [if_neg hk, if_neg hk]
  rw [e2] at hP1
  exact e1 ▸ hP1
/-- the static arrays -/
theorem J_gets (j : Nat) {idx : Nat} {nm : String} (hj : (j = 0 ∧ nm = "NUMBER_LEAST") ∨ (j = 1 ∧ nm = "NUMBER_MOST") ∨ (j = 2 ∧ nm = "NUMBER_FIRST")) (hl : Cond.fieldLink (mow μ) idx RX8 nm "[I" ∈ wsG) (hd : decode (mco μ) pc = .ok (.getstatic idx, 3)) (kk : J G μ (pc + 3) ls (.ref (1000 + j) :: st) I F) : J G μ pc ls st I F := by
  intro p e s m args below meth c B r hF H locs lsm hP hS hl1
  have hZ : va_Z RX8 nm "[I" (.ref (gad G (1000 + j))) (gA G) s s.heap := by
    obtain ⟨h1, h2, h3⟩ := B.2.2.2.2.2.2.1.1
    rcases hj with ⟨rfl, rfl⟩ | ⟨rfl, rfl⟩ | ⟨rfl, rfl⟩
    · exact h1
    · exact h2
    · exact h3
  exact va_gets B.1 B.2.1 hZ hS B.2.2.2.1 (B.2.2.2.2.1 _ hl) (fun _ h => h) hd (kk p e s m args below meth c B r hF H locs lsm hP hS hl1)
theorem J_eald {j : Nat} {i : Int32} (hj : j < 3) (hin : vp_in i 3) (hd : decode (mco μ) pc = .ok (.iaload, 1)) (kk : J G μ (pc + 1) ls (.int (exv j i.toNatClampNeg) :: st) I F) : J G μ pc ls (.int i :: .ref (1000 + j) :: st) I F :=
  fun p e s m args below meth c B r hF H locs lsm hP hS hl1 => va_ti B.1 B.2.1 (B.2.2.2.2.2.2.1.2.1 j hj) hS hin rfl hd (kk p e s m args below meth c B r hF H locs lsm hP hS hl1)
theorem J_tblIn {dflt lo hi : Int} {offs : Array Int} {len : Nat} {x : Int32} {off : Int} {tgt : Nat} (hd : decode (mco μ) pc = .ok (.tableswitch dflt lo hi offs, len)) (h1 : ¬ x.toInt < lo) (h2 : ¬ hi < x.toInt) (ho : offs[(x.toInt - lo).toNat]? = some off) (ht : (pc : Int) + off = (tgt : Int)) (kk : J G μ tgt ls st I F) : J G μ pc ls (.int x :: st) I F :=
  fun p e s m args below meth c B r hF H locs lsm hP hS hl1 => lv_tableIn B.1 B.2.1 hd h1 h2 ho ht (kk p e s m args below meth c B r hF H locs lsm hP hS hl1)
theorem J_tblOut {dflt lo hi : Int} {offs : Array Int} {len : Nat} {x : Int32} {tgt : Nat} (hd : decode (mco μ) pc = .ok (.tableswitch dflt lo hi offs, len)) (h : x.toInt < lo ∨ hi < x.toInt) (ht : (pc : Int) + dflt = (tgt : Int)) (kk : J G μ tgt ls st I F) : J G μ pc ls (.int x :: st) I F :=
  fun p e s m args below meth c B r hF H locs lsm hP hS hl1 => lv_tableOut B.1 B.2.1 hd h ht (kk p e s m args below meth c B r hF H locs lsm hP hS hl1)
theorem J_min {x y : Int32} {idx : Nat} (w1 : Cond.methodLink (mow μ) idx Lib.Math.min.name ∈ wsG) (w2 : Cond.static Lib.Math.min.name ∈ wsG) (w3 : Cond.initialized "java/lang/Math" ∈ wsG) (w4 : Cond.code Lib.Math.min.name Lib.Math.min.code 2 (some .int) ∈ wsG) (hR : 1 ≤ (mrm μ).frames ∧ ((st.map (tv G)).map fun v => v.category).sum + 13 ≤ (mrm μ).locals) (hce : mce μ ≤ (mrm μ).cells ∧ msl μ ≤ (mrm μ).slots) (hd : decode (mco μ) pc = .ok (.invokestatic idx, 3)) (kk : J G μ (pc + 3) ls (.int (if y < x then y else x) :: st) I F) : J G μ pc ls (.int y :: .int x :: st) I F :=
  fun p e s m args below meth c B r hF H locs lsm hP hS hl1 => va_mmin B.1 B.2.1 (by rw [B.2.2.1]; exact hl1.1.symm) B.2.2.2.1 (B.2.2.2.2.1 _ w1) (B.2.2.2.2.1 _ w2) (B.2.2.2.2.1 _ w3) (B.2.2.2.2.1 _ w4) hR.1 hR.2 hce.1 hce.2 hd (kk p e s m args below meth c B r hF H locs lsm hP hS hl1)
theorem J_max {x y : Int32} {idx : Nat} (w1 : Cond.methodLink (mow μ) idx Lib.Math.max.name ∈ wsG) (w2 : Cond.static Lib.Math.max.name ∈ wsG) (w3 : Cond.initialized "java/lang/Math" ∈ wsG) (w4 : Cond.code Lib.Math.max.name Lib.Math.max.code 2 (some .int) ∈ wsG) (hR : 1 ≤ (mrm μ).frames ∧ ((st.map (tv G)).map fun v => v.category).sum + 13 ≤ (mrm μ).locals) (hce : mce μ ≤ (mrm μ).cells ∧ msl μ ≤ (mrm μ).slots) (hd : decode (mco μ) pc = .ok (.invokestatic idx, 3)) (kk : J G μ (pc + 3) ls (.int (if x < y then y else x) :: st) I F) : J G μ pc ls (.int y :: .int x :: st) I F :=
  fun p e s m args below meth c B r hF H locs lsm hP hS hl1 => va_mmax B.1 B.2.1 (by rw [B.2.2.1]; exact hl1.1.symm) B.2.2.2.1 (B.2.2.2.2.1 _ w1) (B.2.2.2.2.1 _ w2) (B.2.2.2.2.1 _ w3) (B.2.2.2.2.1 _ w4) hR.1 hR.2 hce.1 hce.2 hd (kk p e s m args below meth c B r hF H locs lsm hP hS hl1)
end JK
/-! contracts -/
/-- a call's answer and memory go on -/
def bI {α : Type} (f : Option (Int32 × Mem)) (K : Int32 → Mem → Option α) : Option α := f.bind fun q => K q.1 q.2
def bV {α : Type} (f : Option Mem) (K : Mem → Option α) : Option α := f.bind K
/-- only if -/
def ck {α : Type} (b : Bool) (x : Option α) : Option α := if b = true then x else none
/-- a place of an array of n -/
def inb (i : Int32) (n : Nat) : Bool := decide (0 ≤ i) && decide (i.toNatClampNeg < n)
theorem inb_in {i : Int32} {n : Nat} (h : inb i n = true) : vp_in i n := by
  unfold inb at h
  rw [Bool.and_eq_true, decide_eq_true_eq, decide_eq_true_eq] at h
  exact fun q => q.elim (fun q => absurd h.1 (Int32.not_le.mpr q)) (fun q => absurd h.2 (Nat.not_lt.mpr q))
/-- a loop with fuel -/
def fx {τ : Type} (B : τ → τ) (z : τ) : Nat → τ
  | 0 => z
  | n + 1 => B (fx B z n)
def fuel : Nat := 5000
theorem nar01 {v : Int32} (h : (v == 0 || v == 1) = true) : narrow .boolean (.int v) = .int v := by
  rw [Bool.or_eq_true, beq_iff_eq, beq_iff_eq] at h
  rcases h with rfl | rfl <;> rfl
def Wd (G : Gt) (I : Mem) (U : State) : Prop := va_P (gD G) vwCl (wl G I) U.heap ∧ va_K (gD G) vwCl (gtys G) U
def Zi (G : Gt) : List Frame → Array Value → State → (Int32 × Mem) → State → Prop := fun below args s r => MQ below (va_Qi (fun (v : Int32) (u : Mem) => (v, u) = r) (Wd G) (gA G)) args s 0 0 (gA G)
def Zv (G : Gt) : List Frame → Array Value → State → Mem → State → Prop := fun below args s r => MQ below (va_Qv (fun (u : Mem) => u = r) (Wd G) (gA G)) args s 0 0 (gA G)
abbrev rmk (fr lo : Nat) : Room := { frames := fr, cells := 0, slots := 0, locals := lo }
def mi (G : Gt) (cc : ByteArray) (nl : Nat) (own : String) (rt : Option FieldType) (fr lo : Nat) : Mt (Int32 × Mem) := (cc, nl, own, rt, rmk fr lo, 0, 0, Zi G)
def mv (G : Gt) (cc : ByteArray) (nl : Nat) (own : String) (fr lo : Nat) : Mt Mem := (cc, nl, own, none, rmk fr lo, 0, 0, Zv G)
def Cti (G : Gt) (y : MethodName) (cc : ByteArray) (nl : Nat) (rt : Option FieldType) (fr lo : Nat) (as : List Value) (I : Mem) (F : Option (Int32 × Mem)) : Prop :=
  ∀ r : Int32 × Mem, F = some r → Met (gl G) y (.code y cc nl rt :: wsG) (rmk fr lo) (va_Pc (as.map (tv G)) (fun U => Wd G I U ∧ Ex G U)) (va_Qi (fun (v : Int32) (u : Mem) => (v, u) = r) (Wd G) (gA G)) 0 0 (gA G)
def Ctv (G : Gt) (y : MethodName) (cc : ByteArray) (nl : Nat) (fr lo : Nat) (as : List Value) (I : Mem) (F : Option Mem) : Prop :=
  ∀ r : Mem, F = some r → Met (gl G) y (.code y cc nl none :: wsG) (rmk fr lo) (va_Pc (as.map (tv G)) (fun U => Wd G I U ∧ Ex G U)) (va_Qv (fun (u : Mem) => u = r) (Wd G) (gA G)) 0 0 (gA G)
theorem Ex_warm {G : Gt} {s U : State} (hW : s.WarmedH U.vm) (hh : ∀ a : Nat, a < s.heap.size → ¬ gA G a → U.heap[a]? = s.heap[a]?) (h : Ex G s) : Ex G U := by
  obtain ⟨⟨a1, a2, a3⟩, b, ⟨c1, c2⟩, d, e1, e2, e3, e4⟩ := h
  have hv := hW.alike
  exact ⟨⟨(a1.moved hv).kept hh, (a2.moved hv).kept hh, (a3.moved hv).kept hh⟩, fun j hj => ((b j hj).moved hv).kept hh, ⟨(c1.moved hv).kept hh, (c2.moved hv).kept hh⟩, (d.moved hv).kept hh, e1.warm hW, e2.warm hW, e3.warm hW, e4.warm hW⟩
theorem WE_blind {G : Gt} {I : Mem} {as : List Value} : FrameBlind (va_Pc (as.map (tv G)) (fun U => Wd G I U ∧ Ex G U)) := by
  intro a U g mk q
  obtain ⟨q0, ⟨qP, qK⟩, qE⟩ := q
  exact ⟨q0, ⟨qP, va_K.moved (u := U) (U := U.calling g mk a) (Vm.Alike.refl U.vm) qK⟩, Ex_warm (U := U.calling g mk a) (State.WarmedH.refl U) (fun _ _ _ => rfl) qE⟩
theorem WE_call {G : Gt} {I : Mem} {s U : State} {H : Heap} {locs : List Loc} (hU : U.heap = H) (hW : s.WarmedH U.vm) (hP : va_P (gD G) vwCl (wl G I) H) (hK : va_K (gD G) vwCl (gtys G) s) (hE : Ex G s) (hS : va_S (gA G) s.heap H locs) : Wd G I U ∧ Ex G U :=
  ⟨⟨by rw [hU]; exact hP, va_K.moved hW.alike hK⟩, Ex_warm hW (fun a h1 h2 => by rw [hU]; exact hS.2.1 a h1 h2) hE⟩
/-- the locals at the entry -/
def enl : List Value → List (Option Value)
  | [] => []
  | v :: r => if v.category = 2 then some v :: none :: enl r else some v :: enl r
theorem enl_args {G : Gt} (m : Nat) : ∀ (vs : List Value) (k : Nat), lvl G k (enl vs ++ List.replicate m none) = lv_args k (vs.map (tv G))
  | [], k => by
    have : ∀ (m k : Nat), lvl G k (List.replicate m none) = [] := by
      intro m
      induction m with
      | zero => intro k; rfl
      | succ m ih => intro k; exact ih (k + 1)
    exact this m k
  | v :: r, k => by
    show lvl G k ((if v.category = 2 then some v :: none :: enl r else some v :: enl r) ++ List.replicate m none) = (k, tv G v) :: lv_args (if (tv G v).category = 2 then k + 2 else k + 1) (r.map (tv G))
    rw [tv_cat]
    by_cases h : v.category = 2
    · rw [if_pos h, if_pos h, ← enl_args m r (k + 2)]
      rfl
    · rw [if_neg h, if_neg h, ← enl_args m r (k + 1)]
      rfl
theorem Cti.of {G : Gt} {y : MethodName} {cc : ByteArray} {nl : Nat} {rt : Option FieldType} {fr lo : Nat} {as : List Value} {I : Mem} {F : Option (Int32 × Mem)} {ls : List (Option Value)} (k : Nat) (hG : Gok G) (hy : plainName y.cls = true) (hls : enl as ++ List.replicate k none = ls) (hlen : (lg_sl (as.map (tv G))).length ≤ nl) (h : J G (mi G cc nl y.cls rt fr lo) 0 ls [] I F) : Cti G y cc nl rt fr lo as I F := by
  intro r hF
  refine Met.ofW (cc := cc) (maxL := nl) (ret := rt) hy rfl ?_
  intro p e s m args below meth c s₁ B hml hv
  obtain ⟨rfl, ⟨hP, hK⟩, hEx⟩ := hv
  have hts := atoms_spec (ws := .code y cc nl rt :: wsG) B.pre
  have hown : s.vm.findClass y.cls = some m.cls := findClass_of_methodNamed B.named
  rw [lg_entry_eq]
  have hl := lv_entry (as.map (tv G)) hlen
  rw [← enl_args (G := G) k as 0, hls] at hl
  exact h p e s m _ below meth c ⟨B.exec, B.bytes, hml, hown, fun w hw => hts w (List.mem_cons_of_mem _ hw), hK, hEx, hG, B.returns, B.notSynchronized⟩ r hF s.heap [] _ hP va_S.rf hl
theorem Ctv.of {G : Gt} {y : MethodName} {cc : ByteArray} {nl : Nat} {fr lo : Nat} {as : List Value} {I : Mem} {F : Option Mem} {ls : List (Option Value)} (k : Nat) (hG : Gok G) (hy : plainName y.cls = true) (hls : enl as ++ List.replicate k none = ls) (hlen : (lg_sl (as.map (tv G))).length ≤ nl) (h : J G (mv G cc nl y.cls fr lo) 0 ls [] I F) : Ctv G y cc nl fr lo as I F := by
  intro r hF
  refine Met.ofW (cc := cc) (maxL := nl) (ret := none) hy rfl ?_
  intro p e s m args below meth c s₁ B hml hv
  obtain ⟨rfl, ⟨hP, hK⟩, hEx⟩ := hv
  have hts := atoms_spec (ws := .code y cc nl none :: wsG) B.pre
  have hown : s.vm.findClass y.cls = some m.cls := findClass_of_methodNamed B.named
  rw [lg_entry_eq]
  have hl := lv_entry (as.map (tv G)) hlen
  rw [← enl_args (G := G) k as 0, hls] at hl
  exact h p e s m _ below meth c ⟨B.exec, B.bytes, hml, hown, fun w hw => hts w (List.mem_cons_of_mem _ hw), hK, hEx, hG, B.returns, B.notSynchronized⟩ r hF s.heap [] _ hP va_S.rf hl
section JC
variable {α : Type} {G : Gt} {μ : Mt α} {pc : Nat} {ls : List (Option Value)} {st st0 : List Value} {I : Mem}
theorem J_iret {cc : ByteArray} {nl fr lo : Nat} {own : String} {v : Int32} (hd : decode cc pc = .ok (.ireturn, 1)) : J G (mi G cc nl own (some .int) fr lo) pc ls [.int v] I (some (v, I)) := by
  intro p e s m args below meth c B r hF H locs lsm hP hS hl1
  cases hF
  exact W.iret B.1 B.2.1 B.2.2.2.2.2.2.2.2.1 (fun t ht hW => ⟨⟨v, I, rfl, rfl, by rw [ht]; exact hP, va_K.moved hW.alike B.2.2.2.2.2.1⟩, hS.F ht⟩) hS.2.2 hd B.2.2.2.2.2.2.2.2.2
theorem J_zret {cc : ByteArray} {nl fr lo : Nat} {own : String} {v : Int32} {ty : FieldType} (hn : narrow ty (.int v) = .int v) (hd : decode cc pc = .ok (.ireturn, 1)) : J G (mi G cc nl own (some ty) fr lo) pc ls [.int v] I (some (v, I)) := by
  intro p e s m args below meth c B r hF H locs lsm hP hS hl1
  cases hF
  exact W.zret B.1 B.2.1 B.2.2.2.2.2.2.2.2.1 hn (fun t ht hW => ⟨⟨v, I, rfl, rfl, by rw [ht]; exact hP, va_K.moved hW.alike B.2.2.2.2.2.1⟩, hS.F ht⟩) hS.2.2 hd B.2.2.2.2.2.2.2.2.2
theorem J_vret {cc : ByteArray} {nl fr lo : Nat} {own : String} (hd : decode cc pc = .ok (.return_, 1)) : J G (mv G cc nl own fr lo) pc ls [] I (some I) := by
  intro p e s m args below meth c B r hF H locs lsm hP hS hl1
  cases hF
  exact W.vret B.1 B.2.1 B.2.2.2.2.2.2.2.2.1 (fun t ht hW => ⟨⟨I, rfl, rfl, by rw [ht]; exact hP, va_K.moved hW.alike B.2.2.2.2.2.1⟩, hS.F ht⟩) hS.2.2 hd B.2.2.2.2.2.2.2.2.2
/-- the words of a call -/
def CW {α : Type} (μ : Mt α) (idx : Nat) (y : MethodName) (cc : ByteArray) (nl : Nat) (rt : Option FieldType) (n : Nat) : Prop :=
  Cond.methodLink (mow μ) idx y ∈ wsG ∧ Cond.initialized y.cls ∈ wsG ∧ Cond.code y cc nl rt ∈ wsG ∧ (y.cls ≠ "java/lang/invoke/MethodHandle" ∧ y.cls ≠ "java/lang/invoke/VarHandle") ∧ (parseMethodDescriptor y.desc).map (fun d => d.parameters.length) = some n
def CR {α : Type} (μ : Mt α) (nl fr lo : Nat) : Prop := fr + 1 ≤ (mrm μ).frames ∧ 8 + (nl + 11) + lo ≤ (mrm μ).locals ∧ mce μ ≤ (mrm μ).cells ∧ msl μ ≤ (mrm μ).slots
theorem CW.B {idx nl fr lo n : Nat} {y : MethodName} {cc : ByteArray} {rt : Option FieldType} {p : Program} {s : State} {m : MethodId} {args : Array Value} {meth : Method} {c : Code} (h : CW μ idx y cc nl rt n) (hR : CR μ nl fr lo) (B : Bx G μ p s m args meth c) : CallB (mrm μ) s args (mow μ) idx y cc nl rt (.code y cc nl rt :: wsG) (rmk fr lo) 0 0 n := by
  obtain ⟨h1, h2, h3, h4, h5⟩ := h
  have hts := B.2.2.2.2.1
  exact callB_of n hts (fun w hw => by
    rcases List.mem_cons.mp hw with rfl | hw
    · exact wsG_good _ h3
    · exact wsG_good _ hw) rfl rfl rfl (hts _ h2) (hts _ h1) ⟨h4.1, h4.2, h5⟩ ⟨hR.1, hR.2.1⟩
theorem J_callVi {a t idx nl fr lo n : Nat} {q : vw_C} {as : List Value} {y : MethodName} {cc : ByteArray} {rt : Option FieldType} {f : Option (Int32 × Mem)} {K : Int32 → Mem → Option α} (hC : Cti G y cc nl rt fr lo (.ref a :: as) I f) (ho : ok G a t) (ht : t < 10) (hc : vwCl[t]? = some q) (hw : CW μ idx y cc nl rt n) (w1 : Cond.instanceMethod y ∈ wsG) (w2 : Cond.selects q.1 y y ∈ wsG) (hn : as.length = n) (hR : CR μ nl fr lo) (hcat : ((st.map (tv G)).map fun v => v.category).sum ≤ 8) (hst : st0.map (tv G) = (as.map (tv G)).reverse ++ .ref (gad G a) :: st.map (tv G)) (hd : decode (mco μ) pc = .ok (.invokevirtual idx, 3))
    (kk : ∀ (v : Int32) (I1 : Mem), J G μ (pc + 3) ls (.int v :: st) I1 (K v I1)) : J G μ pc ls st0 I (bI f K) := by
  intro p e s m args below meth c B r hF H locs lsm hP hS hl1
  obtain ⟨⟨v, I1⟩, hf, hF⟩ := Option.bind_eq_some_iff.mp hF
  rw [hst]
  refine va_calli (va_runV (As := as.map (tv G)) (rest := st.map (tv G)) ⟨B.1, B.2.1, B.2.2.1, B.2.2.2.1, B.2.2.2.2.1⟩ (hC _ hf) ⟨hw.B hR B, B.2.2.2.2.1 _ w1, B.2.2.2.2.1 _ w2⟩ ⟨WE_blind, va_recv B.2.2.2.2.2.1 hP hc (ok_obj ho ht), fun U hU hW => ⟨rfl, WE_call hU hW hP B.2.2.2.2.2.1 B.2.2.2.2.2.2.1 hS⟩⟩ rfl (by rw [List.length_map]; exact hn) hl1.1 rfl (lv_room hcat) hd ⟨by rw [Nat.add_zero]; exact hR.2.2.1, by rw [Nat.add_zero]; exact hR.2.2.2⟩) hS (fun _ _ h => h) (fun _ h => h) (fun v' u t H1 locs1 ht hvm hpost hB hz hk hS1 => ?_)
  cases hpost
  exact kk v I1 p e s m args below meth c B r hF H1 locs1 lsm (by rw [← ht]; exact hB.1) hS1 hl1
theorem J_callVv {a t idx nl fr lo n : Nat} {q : vw_C} {as : List Value} {y : MethodName} {cc : ByteArray} {f : Option Mem} {K : Mem → Option α} (hC : Ctv G y cc nl fr lo (.ref a :: as) I f) (ho : ok G a t) (ht : t < 10) (hc : vwCl[t]? = some q) (hw : CW μ idx y cc nl none n) (w1 : Cond.instanceMethod y ∈ wsG) (w2 : Cond.selects q.1 y y ∈ wsG) (hn : as.length = n) (hR : CR μ nl fr lo) (hcat : ((st.map (tv G)).map fun v => v.category).sum ≤ 8) (hst : st0.map (tv G) = (as.map (tv G)).reverse ++ .ref (gad G a) :: st.map (tv G)) (hd : decode (mco μ) pc = .ok (.invokevirtual idx, 3))
    (kk : ∀ (I1 : Mem), J G μ (pc + 3) ls st I1 (K I1)) : J G μ pc ls st0 I (bV f K) := by
  intro p e s m args below meth c B r hF H locs lsm hP hS hl1
  obtain ⟨I1, hf, hF⟩ := Option.bind_eq_some_iff.mp hF
  rw [hst]
  refine va_callv (va_runV (As := as.map (tv G)) (rest := st.map (tv G)) ⟨B.1, B.2.1, B.2.2.1, B.2.2.2.1, B.2.2.2.2.1⟩ (hC _ hf) ⟨hw.B hR B, B.2.2.2.2.1 _ w1, B.2.2.2.2.1 _ w2⟩ ⟨WE_blind, va_recv B.2.2.2.2.2.1 hP hc (ok_obj ho ht), fun U hU hW => ⟨rfl, WE_call hU hW hP B.2.2.2.2.2.1 B.2.2.2.2.2.2.1 hS⟩⟩ rfl (by rw [List.length_map]; exact hn) hl1.1 rfl (lv_room hcat) hd ⟨by rw [Nat.add_zero]; exact hR.2.2.1, by rw [Nat.add_zero]; exact hR.2.2.2⟩) hS (fun _ _ h => h) (fun _ h => h) (fun u t H1 locs1 ht hvm hpost hB hz hk hS1 => ?_)
  cases hpost
  exact kk I1 p e s m args below meth c B r hF H1 locs1 lsm (by rw [← ht]; exact hB.1) hS1 hl1
theorem J_callSi {idx nl fr lo n : Nat} {as : List Value} {y : MethodName} {cc : ByteArray} {rt : Option FieldType} {f : Option (Int32 × Mem)} {K : Int32 → Mem → Option α} (hC : Cti G y cc nl rt fr lo as I f) (hw : CW μ idx y cc nl rt n) (w1 : Cond.static y ∈ wsG) (hn : as.length = n) (hR : CR μ nl fr lo) (hcat : ((st.map (tv G)).map fun v => v.category).sum ≤ 8) (hst : st0.map (tv G) = (as.map (tv G)).reverse ++ st.map (tv G)) (hd : decode (mco μ) pc = .ok (.invokestatic idx, 3))
    (kk : ∀ (v : Int32) (I1 : Mem), J G μ (pc + 3) ls (.int v :: st) I1 (K v I1)) : J G μ pc ls st0 I (bI f K) := by
  intro p e s m args below meth c B r hF H locs lsm hP hS hl1
  obtain ⟨⟨v, I1⟩, hf, hF⟩ := Option.bind_eq_some_iff.mp hF
  rw [hst]
  refine va_calli (va_runS (As := as.map (tv G)) (rest := st.map (tv G)) ⟨B.1, B.2.1, B.2.2.1, B.2.2.2.1, B.2.2.2.2.1⟩ (hC _ hf) ⟨hw.B hR B, B.2.2.2.2.1 _ w1⟩ ⟨WE_blind, fun U hU hW => ⟨rfl, WE_call hU hW hP B.2.2.2.2.2.1 B.2.2.2.2.2.2.1 hS⟩⟩ rfl (by rw [List.length_map]; exact hn) hl1.1 rfl (lv_room hcat) hd ⟨by rw [Nat.add_zero]; exact hR.2.2.1, by rw [Nat.add_zero]; exact hR.2.2.2⟩) hS (fun _ _ h => h) (fun _ h => h) (fun v' u t H1 locs1 ht hvm hpost hB hz hk hS1 => ?_)
  cases hpost
  exact kk v I1 p e s m args below meth c B r hF H1 locs1 lsm (by rw [← ht]; exact hB.1) hS1 hl1
theorem J_callSv {idx nl fr lo n : Nat} {as : List Value} {y : MethodName} {cc : ByteArray} {f : Option Mem} {K : Mem → Option α} (hC : Ctv G y cc nl fr lo as I f) (hw : CW μ idx y cc nl none n) (w1 : Cond.static y ∈ wsG) (hn : as.length = n) (hR : CR μ nl fr lo) (hcat : ((st.map (tv G)).map fun v => v.category).sum ≤ 8) (hst : st0.map (tv G) = (as.map (tv G)).reverse ++ st.map (tv G)) (hd : decode (mco μ) pc = .ok (.invokestatic idx, 3))
    (kk : ∀ (I1 : Mem), J G μ (pc + 3) ls st I1 (K I1)) : J G μ pc ls st0 I (bV f K) := by
  intro p e s m args below meth c B r hF H locs lsm hP hS hl1
  obtain ⟨I1, hf, hF⟩ := Option.bind_eq_some_iff.mp hF
  rw [hst]
  refine va_callv (va_runS (As := as.map (tv G)) (rest := st.map (tv G)) ⟨B.1, B.2.1, B.2.2.1, B.2.2.2.1, B.2.2.2.2.1⟩ (hC _ hf) ⟨hw.B hR B, B.2.2.2.2.1 _ w1⟩ ⟨WE_blind, fun U hU hW => ⟨rfl, WE_call hU hW hP B.2.2.2.2.2.1 B.2.2.2.2.2.2.1 hS⟩⟩ rfl (by rw [List.length_map]; exact hn) hl1.1 rfl (lv_room hcat) hd ⟨by rw [Nat.add_zero]; exact hR.2.2.1, by rw [Nat.add_zero]; exact hR.2.2.2⟩) hS (fun _ _ h => h) (fun _ h => h) (fun u t H1 locs1 ht hvm hpost hB hz hk hS1 => ?_)
  cases hpost
  exact kk I1 p e s m args below meth c B r hF H1 locs1 lsm (by rw [← ht]; exact hB.1) hS1 hl1
end JC
section JX
variable {α : Type} {G : Gt} {μ : Mt α} {pc : Nat} {ls : List (Option Value)} {st st0 : List Value} {I : Mem} {F : Option α}
theorem J_ck {b : Bool} (k : b = true → J G μ pc ls st I F) : J G μ pc ls st I (ck b F) := J_chk k
/-- a call that answers and leaves the memory: on a String constant -/
theorem J_str {a j idx nl fr lo n : Nat} {as : List Value} {y : MethodName} {cc : ByteArray} {rt : Option FieldType} {w : Int32} (hC : Cti G y cc nl rt fr lo (.ref (1010 + j) :: as) I (some (w, I))) (hj : j < 3) (hw : CW μ idx y cc nl rt n) (w1 : Cond.instanceMethod y ∈ wsG) (w2 : Cond.selects "java/lang/String" y y ∈ wsG) (hn : as.length = n) (hR : CR μ nl fr lo) (hcat : ((st.map (tv G)).map fun v => v.category).sum ≤ 8) (hst : st0.map (tv G) = (as.map (tv G)).reverse ++ .ref (gad G (1010 + j)) :: st.map (tv G)) (hd : decode (mco μ) pc = .ok (.invokevirtual idx, 3))
    (kk : J G μ (pc + 3) ls (.int w :: st) I F) : J G μ pc ls st0 I F := by
  intro p e s m args below meth c B r hF H locs lsm hP hS hl1
  rw [hst]
  refine va_calli (va_runV (As := as.map (tv G)) (rest := st.map (tv G)) ⟨B.1, B.2.1, B.2.2.1, B.2.2.2.1, B.2.2.2.2.1⟩ (hC _ rfl) ⟨hw.B hR B, B.2.2.2.2.1 _ w1, B.2.2.2.2.1 _ w2⟩ ⟨WE_blind, vk_recv B.2.2.2.2.2.2.1.2.2.2.1 hj hS, fun U hU hW => ⟨rfl, WE_call hU hW hP B.2.2.2.2.2.1 B.2.2.2.2.2.2.1 hS⟩⟩ rfl (by rw [List.length_map]; exact hn) hl1.1 rfl (lv_room hcat) hd ⟨by rw [Nat.add_zero]; exact hR.2.2.1, by rw [Nat.add_zero]; exact hR.2.2.2⟩) hS (fun _ _ h => h) (fun _ h => h) (fun v' u t H1 locs1 ht hvm hpost hB hz hk hS1 => ?_)
  cases hpost
  exact kk p e s m args below meth c B r hF H1 locs1 lsm (by rw [← ht]; exact hB.1) hS1 hl1
theorem J_ldcS (j : Nat) {idx : Nat} {own tx : String} (ho : mow μ = own) (hj : (j = 0 ∧ own = RX6 ∧ idx = 38 ∧ tx = "ncm") ∨ (j = 1 ∧ own = RX6 ∧ idx = 77 ∧ tx = "blrt") ∨ (j = 1 ∧ own = RX8 ∧ idx = 152 ∧ tx = "blrt") ∨ (j = 2 ∧ own = RX8 ∧ idx = 61 ∧ tx = "kl;krbl;ktr;n30;p1,14;")) (hd : decode (mco μ) pc = .ok (.ldc idx, 2)) (kk : J G μ (pc + 2) ls (.ref (1010 + j) :: st) I F) : J G μ pc ls st I F := by
  intro p e s m args below meth c B r hF H locs lsm hP hS hl1
  have hZ : vk_R own idx tx (gad G (1010 + j)) s := by
    obtain ⟨h1, h2, h3, h4⟩ := B.2.2.2.2.2.2.1.2.2.2.2
    rcases hj with ⟨rfl, rfl, rfl, rfl⟩ | ⟨rfl, rfl, rfl, rfl⟩ | ⟨rfl, rfl, rfl, rfl⟩ | ⟨rfl, rfl, rfl, rfl⟩
    · exact h1
    · exact h2
    · exact h3
    · exact h4
  exact va_ldcS B.1 B.2.1 (by rw [← ho]; exact B.2.2.2.1) hZ hd (kk p e s m args below meth c B r hF H locs lsm hP hS hl1)
end JX
/-- the class's cells, or all -/
def Gn (G : Gt) : Prop := gn G = 89 ∨ gn G = 104
theorem ok_c {G : Gt} (hn : Gn G) (i : Nat) {t : Nat} (h : i < 89) (ht : stag i = t) : ok G i t := ⟨by rcases hn with h1 | h1 <;> omega, ht⟩
theorem ok_m {G : Gt} (hn : gn G = 104) (i : Nat) {t : Nat} (h : i < 104) (ht : stag i = t) : ok G i t := ⟨by omega, ht⟩
theorem ok_off {G : Gt} (hn : Gn G) {a t : Nat} (k : Nat) {t' : Nat} (h : ok G a t) (hc : (List.range 104).all (fun i => !(stag i == t) || (stag (i + k) == t' && (decide (89 ≤ i + k) == decide (89 ≤ i)) && decide (i + k < 104))) = true) : ok G (a + k) t' := by
  have ha : a < 104 := by rcases hn with h1 | h1 <;> (have := h.1; omega)
  have h2 := List.all_eq_true.mp hc a (List.mem_range.mpr ha)
  rw [h.2] at h2
  simp only [BEq.rfl, Bool.not_true, Bool.false_or, Bool.and_eq_true, beq_iff_eq, decide_eq_true_eq, decide_eq_decide] at h2
  refine ⟨?_, h2.1.1⟩
  have := h.1
  have := h2.1.2
  have := h2.2
  rcases hn with h1 | h1 <;> omega
theorem ok_told {G : Gt} (hn : Gn G) {x : Nat} (h : (stag x == 7) = true) : ok G x 7 := by
  have h7 := beq_iff_eq.mp h
  have hx : x < 89 := by
    rcases Nat.lt_or_ge x 104 with h1 | h1
    · have h2 := List.all_eq_true.mp (show (List.range 104).all (fun i => !(stag i == 7) || decide (i < 89)) = true by decide +kernel) x (List.mem_range.mpr h1)
      rw [h7] at h2
      simpa using h2
    · have h3 : stag x = 99 := by
        unfold stag
        rw [List.getD_eq_getElem?_getD, List.getElem?_eq_none (by exact h1)]
        rfl
      rw [h3] at h7
      cases h7
  exact ok_c hn x hx h7
theorem ok_sheet {G : Gt} (hn : Gn G) {i : Int32} (h : inb i 4 = true) : ok G (54 + 4 * i.toNatClampNeg) 5 := by
  have h1 : i.toNatClampNeg < 4 := Nat.not_le.mp fun q => inb_in h (Or.inr q)
  generalize i.toNatClampNeg = k at h1
  refine ok_c hn _ (by omega) ?_
  match k, h1 with
  | 0, _ => rfl
  | 1, _ => rfl
  | 2, _ => rfl
  | 3, _ => rfl
theorem ok_least {G : Gt} (hn : Gn G) {i : Int32} (h : inb i 5 = true) : ok G (78 + i.toNatClampNeg) 22 := by
  have h1 : i.toNatClampNeg < 5 := Nat.not_le.mp fun q => inb_in h (Or.inr q)
  generalize i.toNatClampNeg = k at h1
  refine ok_c hn _ (by omega) ?_
  match k, h1 with
  | 0, _ => rfl
  | 1, _ => rfl
  | 2, _ => rfl
  | 3, _ => rfl
  | 4, _ => rfl
end

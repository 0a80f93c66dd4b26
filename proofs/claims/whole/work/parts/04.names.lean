-- ===== PART A: goes FIRST, ahead of the names: the tables' words, and 'selects' of the private methods out of them =====
/-- a private method of a class that the tables say can be made, by its rows of tables_1 -/
def lw_okq (q : MethodName × Nat) : Prop := (q.1.cls ≠ "java/lang/invoke/MethodHandle" ∧ q.1.cls ≠ "java/lang/invoke/VarHandle") ∧ Cond.instantiable q.1.cls q.2 ∈ tables_1 ∧ Cond.privateMethod q.1 ∈ tables_1 ∧ Cond.instanceMethod q.1 ∈ tables_1
theorem lw_p0 : lw_okq (⟨"LanguageTags", "formsAreFixed", "()Z"⟩, 16) := ⟨⟨by decide +kernel, by decide +kernel⟩, List.mem_of_getElem? (i := 13) (by decide +kernel), List.mem_of_getElem? (i := 295) (by decide +kernel), List.mem_of_getElem? (i := 296) (by decide +kernel)⟩
theorem lw_p1 : lw_okq (⟨"LanguageTags$Reader", "roleOf", "(JI)I"⟩, 3) := ⟨⟨by decide +kernel, by decide +kernel⟩, List.mem_of_getElem? (i := 35) (by decide +kernel), List.mem_of_getElem? (i := 336) (by decide +kernel), List.mem_of_getElem? (i := 337) (by decide +kernel)⟩
theorem lw_p2 : lw_okq (⟨"LanguageTags$Reader", "roleInExtension", "(JI)I"⟩, 3) := ⟨⟨by decide +kernel, by decide +kernel⟩, List.mem_of_getElem? (i := 35) (by decide +kernel), List.mem_of_getElem? (i := 342) (by decide +kernel), List.mem_of_getElem? (i := 343) (by decide +kernel)⟩
theorem lw_p3 : lw_okq (⟨"LanguageTags$Reader", "isThere", "(JI)Z"⟩, 3) := ⟨⟨by decide +kernel, by decide +kernel⟩, List.mem_of_getElem? (i := 35) (by decide +kernel), List.mem_of_getElem? (i := 349) (by decide +kernel), List.mem_of_getElem? (i := 350) (by decide +kernel)⟩
theorem lw_p4 : lw_okq (⟨"LanguageTags$Reader", "roleInFront", "(JI)I"⟩, 3) := ⟨⟨by decide +kernel, by decide +kernel⟩, List.mem_of_getElem? (i := 35) (by decide +kernel), List.mem_of_getElem? (i := 356) (by decide +kernel), List.mem_of_getElem? (i := 357) (by decide +kernel)⟩
theorem lw_p5 : lw_okq (⟨"LanguageTags$Reader", "partWith", "(I)J"⟩, 3) := ⟨⟨by decide +kernel, by decide +kernel⟩, List.mem_of_getElem? (i := 35) (by decide +kernel), List.mem_of_getElem? (i := 372) (by decide +kernel), List.mem_of_getElem? (i := 373) (by decide +kernel)⟩
theorem lw_p6 : lw_okq (⟨"LanguageTags$Reader", "addInOrder", "(LLanguageTags$Form;I)V"⟩, 3) := ⟨⟨by decide +kernel, by decide +kernel⟩, List.mem_of_getElem? (i := 35) (by decide +kernel), List.mem_of_getElem? (i := 405) (by decide +kernel), List.mem_of_getElem? (i := 406) (by decide +kernel)⟩
theorem lw_p7 : lw_okq (⟨"LanguageTags$Reader", "leastAbove", "(JI)I"⟩, 3) := ⟨⟨by decide +kernel, by decide +kernel⟩, List.mem_of_getElem? (i := 35) (by decide +kernel), List.mem_of_getElem? (i := 409) (by decide +kernel), List.mem_of_getElem? (i := 410) (by decide +kernel)⟩
theorem lw_p8 : lw_okq (⟨"LanguageTags$Reader", "addTypes", "(LLanguageTags$Form;I)V"⟩, 3) := ⟨⟨by decide +kernel, by decide +kernel⟩, List.mem_of_getElem? (i := 35) (by decide +kernel), List.mem_of_getElem? (i := 414) (by decide +kernel), List.mem_of_getElem? (i := 415) (by decide +kernel)⟩
theorem lw_p9 : lw_okq (⟨"LanguageTags$Reader", "addPrivate", "(LLanguageTags$Form;)V"⟩, 3) := ⟨⟨by decide +kernel, by decide +kernel⟩, List.mem_of_getElem? (i := 35) (by decide +kernel), List.mem_of_getElem? (i := 419) (by decide +kernel), List.mem_of_getElem? (i := 420) (by decide +kernel)⟩
theorem lw_p10 : lw_okq (⟨"LanguageTags", "tagWithForm", "(LLanguageTags$Form;I)I"⟩, 16) := ⟨⟨by decide +kernel, by decide +kernel⟩, List.mem_of_getElem? (i := 13) (by decide +kernel), List.mem_of_getElem? (i := 427) (by decide +kernel), List.mem_of_getElem? (i := 428) (by decide +kernel)⟩
theorem lw_p11 : lw_okq (⟨"LanguageTags", "readPlain", "(LLanguageTags$Form;II)Z"⟩, 16) := ⟨⟨by decide +kernel, by decide +kernel⟩, List.mem_of_getElem? (i := 13) (by decide +kernel), List.mem_of_getElem? (i := 452) (by decide +kernel), List.mem_of_getElem? (i := 453) (by decide +kernel)⟩
theorem lw_p12 : lw_okq (⟨"LanguageTags", "isTag", "(I)Z"⟩, 16) := ⟨⟨by decide +kernel, by decide +kernel⟩, List.mem_of_getElem? (i := 13) (by decide +kernel), List.mem_of_getElem? (i := 487) (by decide +kernel), List.mem_of_getElem? (i := 488) (by decide +kernel)⟩
theorem lw_p13 : lw_okq (⟨"LanguageTags$Likely", "sourceFor", "(LLanguageTags$Core;)LLanguageTags$Core;"⟩, 4) := ⟨⟨by decide +kernel, by decide +kernel⟩, List.mem_of_getElem? (i := 127) (by decide +kernel), List.mem_of_getElem? (i := 519) (by decide +kernel), List.mem_of_getElem? (i := 520) (by decide +kernel)⟩
theorem lw_p14 : lw_okq (⟨"LanguageTags$Likely", "isEnough", "(JJ)Z"⟩, 4) := ⟨⟨by decide +kernel, by decide +kernel⟩, List.mem_of_getElem? (i := 127) (by decide +kernel), List.mem_of_getElem? (i := 542) (by decide +kernel), List.mem_of_getElem? (i := 543) (by decide +kernel)⟩
theorem lw_p15 : lw_okq (⟨"LanguageTags", "distanceOf", "(II)I"⟩, 16) := ⟨⟨by decide +kernel, by decide +kernel⟩, List.mem_of_getElem? (i := 13) (by decide +kernel), List.mem_of_getElem? (i := 586) (by decide +kernel), List.mem_of_getElem? (i := 587) (by decide +kernel)⟩
def lw_privs_1 : List (MethodName × Nat) := [(⟨"LanguageTags", "formsAreFixed", "()Z"⟩, 16), (⟨"LanguageTags$Reader", "roleOf", "(JI)I"⟩, 3), (⟨"LanguageTags$Reader", "roleInExtension", "(JI)I"⟩, 3), (⟨"LanguageTags$Reader", "isThere", "(JI)Z"⟩, 3), (⟨"LanguageTags$Reader", "roleInFront", "(JI)I"⟩, 3), (⟨"LanguageTags$Reader", "partWith", "(I)J"⟩, 3), (⟨"LanguageTags$Reader", "addInOrder", "(LLanguageTags$Form;I)V"⟩, 3), (⟨"LanguageTags$Reader", "leastAbove", "(JI)I"⟩, 3), (⟨"LanguageTags$Reader", "addTypes", "(LLanguageTags$Form;I)V"⟩, 3), (⟨"LanguageTags$Reader", "addPrivate", "(LLanguageTags$Form;)V"⟩, 3), (⟨"LanguageTags", "tagWithForm", "(LLanguageTags$Form;I)I"⟩, 16), (⟨"LanguageTags", "readPlain", "(LLanguageTags$Form;II)Z"⟩, 16), (⟨"LanguageTags", "isTag", "(I)Z"⟩, 16), (⟨"LanguageTags$Likely", "sourceFor", "(LLanguageTags$Core;)LLanguageTags$Core;"⟩, 4), (⟨"LanguageTags$Likely", "isEnough", "(JJ)Z"⟩, 4), (⟨"LanguageTags", "distanceOf", "(II)I"⟩, 16)]
theorem lw_r1 : ∀ q ∈ lw_privs_1, lw_okq q := List.forall_mem_cons.mpr ⟨lw_p0, List.forall_mem_cons.mpr ⟨lw_p1, List.forall_mem_cons.mpr ⟨lw_p2, List.forall_mem_cons.mpr ⟨lw_p3, List.forall_mem_cons.mpr ⟨lw_p4, List.forall_mem_cons.mpr ⟨lw_p5, List.forall_mem_cons.mpr ⟨lw_p6, List.forall_mem_cons.mpr ⟨lw_p7, List.forall_mem_cons.mpr ⟨lw_p8, List.forall_mem_cons.mpr ⟨lw_p9, List.forall_mem_cons.mpr ⟨lw_p10, List.forall_mem_cons.mpr ⟨lw_p11, List.forall_mem_cons.mpr ⟨lw_p12, List.forall_mem_cons.mpr ⟨lw_p13, List.forall_mem_cons.mpr ⟨lw_p14, List.forall_mem_cons.mpr ⟨lw_p15, fun _ h => absurd h List.not_mem_nil⟩⟩⟩⟩⟩⟩⟩⟩⟩⟩⟩⟩⟩⟩⟩⟩
theorem lw_p16 : lw_okq (⟨"LanguageTagsModel", "letter", "(C)Z"⟩, 44) := ⟨⟨by decide +kernel, by decide +kernel⟩, List.mem_of_getElem? (i := 626) (by decide +kernel), List.mem_of_getElem? (i := 769) (by decide +kernel), List.mem_of_getElem? (i := 770) (by decide +kernel)⟩
theorem lw_p17 : lw_okq (⟨"LanguageTagsModel", "small", "(C)C"⟩, 44) := ⟨⟨by decide +kernel, by decide +kernel⟩, List.mem_of_getElem? (i := 626) (by decide +kernel), List.mem_of_getElem? (i := 773) (by decide +kernel), List.mem_of_getElem? (i := 774) (by decide +kernel)⟩
theorem lw_p18 : lw_okq (⟨"LanguageTagsModel", "digit", "(C)Z"⟩, 44) := ⟨⟨by decide +kernel, by decide +kernel⟩, List.mem_of_getElem? (i := 626) (by decide +kernel), List.mem_of_getElem? (i := 777) (by decide +kernel), List.mem_of_getElem? (i := 778) (by decide +kernel)⟩
theorem lw_p19 : lw_okq (⟨"LanguageTagsModel", "equalSign", "()I"⟩, 44) := ⟨⟨by decide +kernel, by decide +kernel⟩, List.mem_of_getElem? (i := 626) (by decide +kernel), List.mem_of_getElem? (i := 789) (by decide +kernel), List.mem_of_getElem? (i := 790) (by decide +kernel)⟩
theorem lw_p20 : lw_okq (⟨"LanguageTagsModel", "isRegion", "(II)Z"⟩, 44) := ⟨⟨by decide +kernel, by decide +kernel⟩, List.mem_of_getElem? (i := 626) (by decide +kernel), List.mem_of_getElem? (i := 793) (by decide +kernel), List.mem_of_getElem? (i := 794) (by decide +kernel)⟩
theorem lw_p21 : lw_okq (⟨"LanguageTagsModel", "allLetters", "(II)Z"⟩, 44) := ⟨⟨by decide +kernel, by decide +kernel⟩, List.mem_of_getElem? (i := 626) (by decide +kernel), List.mem_of_getElem? (i := 797) (by decide +kernel), List.mem_of_getElem? (i := 798) (by decide +kernel)⟩
theorem lw_p22 : lw_okq (⟨"LanguageTagsModel", "allDigits", "(II)Z"⟩, 44) := ⟨⟨by decide +kernel, by decide +kernel⟩, List.mem_of_getElem? (i := 626) (by decide +kernel), List.mem_of_getElem? (i := 801) (by decide +kernel), List.mem_of_getElem? (i := 802) (by decide +kernel)⟩
theorem lw_p23 : lw_okq (⟨"LanguageTagsModel", "isLanguage", "(II)Z"⟩, 44) := ⟨⟨by decide +kernel, by decide +kernel⟩, List.mem_of_getElem? (i := 626) (by decide +kernel), List.mem_of_getElem? (i := 805) (by decide +kernel), List.mem_of_getElem? (i := 806) (by decide +kernel)⟩
theorem lw_p24 : lw_okq (⟨"LanguageTagsModel", "same", "(IIII)Z"⟩, 44) := ⟨⟨by decide +kernel, by decide +kernel⟩, List.mem_of_getElem? (i := 626) (by decide +kernel), List.mem_of_getElem? (i := 809) (by decide +kernel), List.mem_of_getElem? (i := 810) (by decide +kernel)⟩
theorem lw_p25 : lw_okq (⟨"LanguageTagsModel", "number", "(II)I"⟩, 44) := ⟨⟨by decide +kernel, by decide +kernel⟩, List.mem_of_getElem? (i := 626) (by decide +kernel), List.mem_of_getElem? (i := 813) (by decide +kernel), List.mem_of_getElem? (i := 814) (by decide +kernel)⟩
theorem lw_p26 : lw_okq (⟨"LanguageTagsModel", "replaced", "(IZ)I"⟩, 44) := ⟨⟨by decide +kernel, by decide +kernel⟩, List.mem_of_getElem? (i := 626) (by decide +kernel), List.mem_of_getElem? (i := 817) (by decide +kernel), List.mem_of_getElem? (i := 818) (by decide +kernel)⟩
theorem lw_p27 : lw_okq (⟨"LanguageTagsModel", "parse", "(II)I"⟩, 44) := ⟨⟨by decide +kernel, by decide +kernel⟩, List.mem_of_getElem? (i := 626) (by decide +kernel), List.mem_of_getElem? (i := 825) (by decide +kernel), List.mem_of_getElem? (i := 826) (by decide +kernel)⟩
theorem lw_p28 : lw_okq (⟨"LanguageTagsModel", "stand", "(III)I"⟩, 44) := ⟨⟨by decide +kernel, by decide +kernel⟩, List.mem_of_getElem? (i := 626) (by decide +kernel), List.mem_of_getElem? (i := 829) (by decide +kernel), List.mem_of_getElem? (i := 830) (by decide +kernel)⟩
theorem lw_p29 : lw_okq (⟨"LanguageTagsModel", "allBoth", "(II)Z"⟩, 44) := ⟨⟨by decide +kernel, by decide +kernel⟩, List.mem_of_getElem? (i := 626) (by decide +kernel), List.mem_of_getElem? (i := 833) (by decide +kernel), List.mem_of_getElem? (i := 834) (by decide +kernel)⟩
theorem lw_p30 : lw_okq (⟨"LanguageTagsModel", "isOne", "(IIC)Z"⟩, 44) := ⟨⟨by decide +kernel, by decide +kernel⟩, List.mem_of_getElem? (i := 626) (by decide +kernel), List.mem_of_getElem? (i := 837) (by decide +kernel), List.mem_of_getElem? (i := 838) (by decide +kernel)⟩
theorem lw_p31 : lw_okq (⟨"LanguageTagsModel", "standVariant", "(II)I"⟩, 44) := ⟨⟨by decide +kernel, by decide +kernel⟩, List.mem_of_getElem? (i := 626) (by decide +kernel), List.mem_of_getElem? (i := 841) (by decide +kernel), List.mem_of_getElem? (i := 842) (by decide +kernel)⟩
def lw_privs_2 : List (MethodName × Nat) := [(⟨"LanguageTagsModel", "letter", "(C)Z"⟩, 44), (⟨"LanguageTagsModel", "small", "(C)C"⟩, 44), (⟨"LanguageTagsModel", "digit", "(C)Z"⟩, 44), (⟨"LanguageTagsModel", "equalSign", "()I"⟩, 44), (⟨"LanguageTagsModel", "isRegion", "(II)Z"⟩, 44), (⟨"LanguageTagsModel", "allLetters", "(II)Z"⟩, 44), (⟨"LanguageTagsModel", "allDigits", "(II)Z"⟩, 44), (⟨"LanguageTagsModel", "isLanguage", "(II)Z"⟩, 44), (⟨"LanguageTagsModel", "same", "(IIII)Z"⟩, 44), (⟨"LanguageTagsModel", "number", "(II)I"⟩, 44), (⟨"LanguageTagsModel", "replaced", "(IZ)I"⟩, 44), (⟨"LanguageTagsModel", "parse", "(II)I"⟩, 44), (⟨"LanguageTagsModel", "stand", "(III)I"⟩, 44), (⟨"LanguageTagsModel", "allBoth", "(II)Z"⟩, 44), (⟨"LanguageTagsModel", "isOne", "(IIC)Z"⟩, 44), (⟨"LanguageTagsModel", "standVariant", "(II)I"⟩, 44)]
theorem lw_r2 : ∀ q ∈ lw_privs_2, lw_okq q := List.forall_mem_cons.mpr ⟨lw_p16, List.forall_mem_cons.mpr ⟨lw_p17, List.forall_mem_cons.mpr ⟨lw_p18, List.forall_mem_cons.mpr ⟨lw_p19, List.forall_mem_cons.mpr ⟨lw_p20, List.forall_mem_cons.mpr ⟨lw_p21, List.forall_mem_cons.mpr ⟨lw_p22, List.forall_mem_cons.mpr ⟨lw_p23, List.forall_mem_cons.mpr ⟨lw_p24, List.forall_mem_cons.mpr ⟨lw_p25, List.forall_mem_cons.mpr ⟨lw_p26, List.forall_mem_cons.mpr ⟨lw_p27, List.forall_mem_cons.mpr ⟨lw_p28, List.forall_mem_cons.mpr ⟨lw_p29, List.forall_mem_cons.mpr ⟨lw_p30, List.forall_mem_cons.mpr ⟨lw_p31, fun _ h => absurd h List.not_mem_nil⟩⟩⟩⟩⟩⟩⟩⟩⟩⟩⟩⟩⟩⟩⟩⟩
theorem lw_p32 : lw_okq (⟨"LanguageTagsModel", "isVariant", "(II)Z"⟩, 44) := ⟨⟨by decide +kernel, by decide +kernel⟩, List.mem_of_getElem? (i := 626) (by decide +kernel), List.mem_of_getElem? (i := 845) (by decide +kernel), List.mem_of_getElem? (i := 846) (by decide +kernel)⟩
theorem lw_p33 : lw_okq (⟨"LanguageTagsModel", "standKeyword", "(III)I"⟩, 44) := ⟨⟨by decide +kernel, by decide +kernel⟩, List.mem_of_getElem? (i := 626) (by decide +kernel), List.mem_of_getElem? (i := 849) (by decide +kernel), List.mem_of_getElem? (i := 850) (by decide +kernel)⟩
theorem lw_p34 : lw_okq (⟨"LanguageTagsModel", "isKey", "(II)Z"⟩, 44) := ⟨⟨by decide +kernel, by decide +kernel⟩, List.mem_of_getElem? (i := 626) (by decide +kernel), List.mem_of_getElem? (i := 853) (by decide +kernel), List.mem_of_getElem? (i := 854) (by decide +kernel)⟩
theorem lw_p35 : lw_okq (⟨"LanguageTagsModel", "makeForm", "()V"⟩, 44) := ⟨⟨by decide +kernel, by decide +kernel⟩, List.mem_of_getElem? (i := 626) (by decide +kernel), List.mem_of_getElem? (i := 857) (by decide +kernel), List.mem_of_getElem? (i := 858) (by decide +kernel)⟩
theorem lw_p36 : lw_okq (⟨"LanguageTagsModel", "putShort", "(III)V"⟩, 44) := ⟨⟨by decide +kernel, by decide +kernel⟩, List.mem_of_getElem? (i := 626) (by decide +kernel), List.mem_of_getElem? (i := 861) (by decide +kernel), List.mem_of_getElem? (i := 862) (by decide +kernel)⟩
theorem lw_p37 : lw_okq (⟨"LanguageTagsModel", "putNumber", "(II)V"⟩, 44) := ⟨⟨by decide +kernel, by decide +kernel⟩, List.mem_of_getElem? (i := 626) (by decide +kernel), List.mem_of_getElem? (i := 865) (by decide +kernel), List.mem_of_getElem? (i := 866) (by decide +kernel)⟩
theorem lw_p38 : lw_okq (⟨"LanguageTagsModel", "character", "(I)C"⟩, 44) := ⟨⟨by decide +kernel, by decide +kernel⟩, List.mem_of_getElem? (i := 626) (by decide +kernel), List.mem_of_getElem? (i := 869) (by decide +kernel), List.mem_of_getElem? (i := 870) (by decide +kernel)⟩
theorem lw_p39 : lw_okq (⟨"LanguageTagsModel", "capital", "(C)C"⟩, 44) := ⟨⟨by decide +kernel, by decide +kernel⟩, List.mem_of_getElem? (i := 626) (by decide +kernel), List.mem_of_getElem? (i := 873) (by decide +kernel), List.mem_of_getElem? (i := 874) (by decide +kernel)⟩
theorem lw_p40 : lw_okq (⟨"LanguageTagsModel", "putChar", "(C)V"⟩, 44) := ⟨⟨by decide +kernel, by decide +kernel⟩, List.mem_of_getElem? (i := 626) (by decide +kernel), List.mem_of_getElem? (i := 877) (by decide +kernel), List.mem_of_getElem? (i := 878) (by decide +kernel)⟩
theorem lw_p41 : lw_okq (⟨"LanguageTagsModel", "before", "(IIII)Z"⟩, 44) := ⟨⟨by decide +kernel, by decide +kernel⟩, List.mem_of_getElem? (i := 626) (by decide +kernel), List.mem_of_getElem? (i := 881) (by decide +kernel), List.mem_of_getElem? (i := 882) (by decide +kernel)⟩
theorem lw_p42 : lw_okq (⟨"LanguageTagsModel", "putTyped", "(II)V"⟩, 44) := ⟨⟨by decide +kernel, by decide +kernel⟩, List.mem_of_getElem? (i := 626) (by decide +kernel), List.mem_of_getElem? (i := 885) (by decide +kernel), List.mem_of_getElem? (i := 886) (by decide +kernel)⟩
theorem lw_p43 : lw_okq (⟨"LanguageTagsModel", "makeKeywords", "()V"⟩, 44) := ⟨⟨by decide +kernel, by decide +kernel⟩, List.mem_of_getElem? (i := 626) (by decide +kernel), List.mem_of_getElem? (i := 889) (by decide +kernel), List.mem_of_getElem? (i := 890) (by decide +kernel)⟩
theorem lw_p44 : lw_okq (⟨"LanguageTagsModel", "find", "()I"⟩, 44) := ⟨⟨by decide +kernel, by decide +kernel⟩, List.mem_of_getElem? (i := 626) (by decide +kernel), List.mem_of_getElem? (i := 893) (by decide +kernel), List.mem_of_getElem? (i := 894) (by decide +kernel)⟩
theorem lw_p45 : lw_okq (⟨"LanguageTagsModel", "plain", "()Z"⟩, 44) := ⟨⟨by decide +kernel, by decide +kernel⟩, List.mem_of_getElem? (i := 626) (by decide +kernel), List.mem_of_getElem? (i := 901) (by decide +kernel), List.mem_of_getElem? (i := 902) (by decide +kernel)⟩
theorem lw_p46 : lw_okq (⟨"LanguageTagsModel", "leads", "(IIII)I"⟩, 44) := ⟨⟨by decide +kernel, by decide +kernel⟩, List.mem_of_getElem? (i := 626) (by decide +kernel), List.mem_of_getElem? (i := 905) (by decide +kernel), List.mem_of_getElem? (i := 906) (by decide +kernel)⟩
theorem lw_p47 : lw_okq (⟨"LanguageTagsModel", "none", "(I)Z"⟩, 44) := ⟨⟨by decide +kernel, by decide +kernel⟩, List.mem_of_getElem? (i := 626) (by decide +kernel), List.mem_of_getElem? (i := 913) (by decide +kernel), List.mem_of_getElem? (i := 914) (by decide +kernel)⟩
def lw_privs_3 : List (MethodName × Nat) := [(⟨"LanguageTagsModel", "isVariant", "(II)Z"⟩, 44), (⟨"LanguageTagsModel", "standKeyword", "(III)I"⟩, 44), (⟨"LanguageTagsModel", "isKey", "(II)Z"⟩, 44), (⟨"LanguageTagsModel", "makeForm", "()V"⟩, 44), (⟨"LanguageTagsModel", "putShort", "(III)V"⟩, 44), (⟨"LanguageTagsModel", "putNumber", "(II)V"⟩, 44), (⟨"LanguageTagsModel", "character", "(I)C"⟩, 44), (⟨"LanguageTagsModel", "capital", "(C)C"⟩, 44), (⟨"LanguageTagsModel", "putChar", "(C)V"⟩, 44), (⟨"LanguageTagsModel", "before", "(IIII)Z"⟩, 44), (⟨"LanguageTagsModel", "putTyped", "(II)V"⟩, 44), (⟨"LanguageTagsModel", "makeKeywords", "()V"⟩, 44), (⟨"LanguageTagsModel", "find", "()I"⟩, 44), (⟨"LanguageTagsModel", "plain", "()Z"⟩, 44), (⟨"LanguageTagsModel", "leads", "(IIII)I"⟩, 44), (⟨"LanguageTagsModel", "none", "(I)Z"⟩, 44)]
theorem lw_r3 : ∀ q ∈ lw_privs_3, lw_okq q := List.forall_mem_cons.mpr ⟨lw_p32, List.forall_mem_cons.mpr ⟨lw_p33, List.forall_mem_cons.mpr ⟨lw_p34, List.forall_mem_cons.mpr ⟨lw_p35, List.forall_mem_cons.mpr ⟨lw_p36, List.forall_mem_cons.mpr ⟨lw_p37, List.forall_mem_cons.mpr ⟨lw_p38, List.forall_mem_cons.mpr ⟨lw_p39, List.forall_mem_cons.mpr ⟨lw_p40, List.forall_mem_cons.mpr ⟨lw_p41, List.forall_mem_cons.mpr ⟨lw_p42, List.forall_mem_cons.mpr ⟨lw_p43, List.forall_mem_cons.mpr ⟨lw_p44, List.forall_mem_cons.mpr ⟨lw_p45, List.forall_mem_cons.mpr ⟨lw_p46, List.forall_mem_cons.mpr ⟨lw_p47, fun _ h => absurd h List.not_mem_nil⟩⟩⟩⟩⟩⟩⟩⟩⟩⟩⟩⟩⟩⟩⟩⟩
theorem lw_p48 : lw_okq (⟨"LanguageTagsModel", "maximise", "(III)V"⟩, 44) := ⟨⟨by decide +kernel, by decide +kernel⟩, List.mem_of_getElem? (i := 626) (by decide +kernel), List.mem_of_getElem? (i := 917) (by decide +kernel), List.mem_of_getElem? (i := 918) (by decide +kernel)⟩
theorem lw_p49 : lw_okq (⟨"LanguageTagsModel", "und", "()I"⟩, 44) := ⟨⟨by decide +kernel, by decide +kernel⟩, List.mem_of_getElem? (i := 626) (by decide +kernel), List.mem_of_getElem? (i := 921) (by decide +kernel), List.mem_of_getElem? (i := 922) (by decide +kernel)⟩
theorem lw_p50 : lw_okq (⟨"LanguageTagsModel", "putMinimised", "(I)V"⟩, 44) := ⟨⟨by decide +kernel, by decide +kernel⟩, List.mem_of_getElem? (i := 626) (by decide +kernel), List.mem_of_getElem? (i := 925) (by decide +kernel), List.mem_of_getElem? (i := 926) (by decide +kernel)⟩
theorem lw_p51 : lw_okq (⟨"LanguageTagsModel", "gives", "(IIIIII)Z"⟩, 44) := ⟨⟨by decide +kernel, by decide +kernel⟩, List.mem_of_getElem? (i := 626) (by decide +kernel), List.mem_of_getElem? (i := 929) (by decide +kernel), List.mem_of_getElem? (i := 930) (by decide +kernel)⟩
theorem lw_p52 : lw_okq (⟨"LanguageTagsModel", "isSupported", "(I)Z"⟩, 44) := ⟨⟨by decide +kernel, by decide +kernel⟩, List.mem_of_getElem? (i := 626) (by decide +kernel), List.mem_of_getElem? (i := 945) (by decide +kernel), List.mem_of_getElem? (i := 946) (by decide +kernel)⟩
theorem lw_p53 : lw_okq (⟨"LanguageTagsModel", "subtagEnd", "(II)I"⟩, 44) := ⟨⟨by decide +kernel, by decide +kernel⟩, List.mem_of_getElem? (i := 626) (by decide +kernel), List.mem_of_getElem? (i := 953) (by decide +kernel), List.mem_of_getElem? (i := 954) (by decide +kernel)⟩
theorem lw_p54 : lw_okq (⟨"LanguageTagsModel", "startCut", "(I)V"⟩, 44) := ⟨⟨by decide +kernel, by decide +kernel⟩, List.mem_of_getElem? (i := 626) (by decide +kernel), List.mem_of_getElem? (i := 961) (by decide +kernel), List.mem_of_getElem? (i := 962) (by decide +kernel)⟩
theorem lw_p55 : lw_okq (⟨"LanguageTagsModel", "cutTag", "()I"⟩, 44) := ⟨⟨by decide +kernel, by decide +kernel⟩, List.mem_of_getElem? (i := 626) (by decide +kernel), List.mem_of_getElem? (i := 965) (by decide +kernel), List.mem_of_getElem? (i := 966) (by decide +kernel)⟩
theorem lw_p56 : lw_okq (⟨"LanguageTagsModel", "truncate", "()V"⟩, 44) := ⟨⟨by decide +kernel, by decide +kernel⟩, List.mem_of_getElem? (i := 626) (by decide +kernel), List.mem_of_getElem? (i := 969) (by decide +kernel), List.mem_of_getElem? (i := 970) (by decide +kernel)⟩
theorem lw_p57 : lw_okq (⟨"LanguageTagsModel", "dropLast", "()V"⟩, 44) := ⟨⟨by decide +kernel, by decide +kernel⟩, List.mem_of_getElem? (i := 626) (by decide +kernel), List.mem_of_getElem? (i := 973) (by decide +kernel), List.mem_of_getElem? (i := 974) (by decide +kernel)⟩
theorem lw_p58 : lw_okq (⟨"LanguageTagsModel", "goOn", "()V"⟩, 44) := ⟨⟨by decide +kernel, by decide +kernel⟩, List.mem_of_getElem? (i := 626) (by decide +kernel), List.mem_of_getElem? (i := 994) (by decide +kernel), List.mem_of_getElem? (i := 995) (by decide +kernel)⟩
def lw_privs_4 : List (MethodName × Nat) := [(⟨"LanguageTagsModel", "maximise", "(III)V"⟩, 44), (⟨"LanguageTagsModel", "und", "()I"⟩, 44), (⟨"LanguageTagsModel", "putMinimised", "(I)V"⟩, 44), (⟨"LanguageTagsModel", "gives", "(IIIIII)Z"⟩, 44), (⟨"LanguageTagsModel", "isSupported", "(I)Z"⟩, 44), (⟨"LanguageTagsModel", "subtagEnd", "(II)I"⟩, 44), (⟨"LanguageTagsModel", "startCut", "(I)V"⟩, 44), (⟨"LanguageTagsModel", "cutTag", "()I"⟩, 44), (⟨"LanguageTagsModel", "truncate", "()V"⟩, 44), (⟨"LanguageTagsModel", "dropLast", "()V"⟩, 44), (⟨"LanguageTagsModel", "goOn", "()V"⟩, 44)]
theorem lw_r4 : ∀ q ∈ lw_privs_4, lw_okq q := List.forall_mem_cons.mpr ⟨lw_p48, List.forall_mem_cons.mpr ⟨lw_p49, List.forall_mem_cons.mpr ⟨lw_p50, List.forall_mem_cons.mpr ⟨lw_p51, List.forall_mem_cons.mpr ⟨lw_p52, List.forall_mem_cons.mpr ⟨lw_p53, List.forall_mem_cons.mpr ⟨lw_p54, List.forall_mem_cons.mpr ⟨lw_p55, List.forall_mem_cons.mpr ⟨lw_p56, List.forall_mem_cons.mpr ⟨lw_p57, List.forall_mem_cons.mpr ⟨lw_p58, fun _ h => absurd h List.not_mem_nil⟩⟩⟩⟩⟩⟩⟩⟩⟩⟩⟩
def lw_privs : List (MethodName × Nat) := lw_privs_1 ++ (lw_privs_2 ++ (lw_privs_3 ++ (lw_privs_4)))
def lw_tbl : List Cond := k2_sels lw_privs ++ tables_1
theorem lw_privs_ok : ∀ q ∈ lw_privs, lw_okq q := by
  show ∀ q ∈ lw_privs_1 ++ (lw_privs_2 ++ (lw_privs_3 ++ (lw_privs_4))), lw_okq q
  exact List.forall_mem_append.mpr ⟨lw_r1, List.forall_mem_append.mpr ⟨lw_r2, List.forall_mem_append.mpr ⟨lw_r3, lw_r4⟩⟩⟩

def im_T : List Cond := lw_tbl.filter goodWord
theorem im_T_in : ∀ w ∈ im_T, w ∈ lw_tbl := fun _ h => (List.mem_filter.mp h).1
theorem im_T_good : ∀ w ∈ im_T, (w.onTables && w.keeps) = true ∨ ∃ ty, w = .arrayClass ty := fun _ h => good_of_word (List.mem_filter.mp h).2
theorem im_good {y : MethodName} {bytes : ByteArray} {maxL : Nat} {ret : Option FieldType} (h : Cond.code y bytes maxL ret ∈ im_T) : GoodIn im_T (Cond.code y bytes maxL ret :: im_T) := fun w hw => by
  rcases List.mem_cons.mp hw with rfl | hw
  · exact ⟨h, im_T_good _ h⟩
  · exact ⟨hw, im_T_good _ hw⟩
theorem im_memT {i : Nat} {w : Cond} (h : tables_1[i]? = some w) (hg : goodWord w = true) : w ∈ im_T := List.mem_filter.mpr ⟨List.mem_append_right _ (List.mem_of_getElem? h), hg⟩
theorem im_memS {i : Nat} {q : MethodName × Nat} (h : lw_privs[i]? = some q) : Cond.selects q.1.cls q.1 q.1 ∈ im_T := List.mem_filter.mpr ⟨List.mem_append_left _ (List.mem_map.mpr ⟨q, List.mem_of_getElem? h, rfl⟩), rfl⟩
abbrev RC_Aliases : String := "LanguageTags$Aliases"
abbrev RC_Core : String := "LanguageTags$Core"
abbrev RC_Form : String := "LanguageTags$Form"
abbrev RC_Likely : String := "LanguageTags$Likely"
abbrev RC_Pairs : String := "LanguageTags$Pairs"
abbrev RC_Reader : String := "LanguageTags$Reader"
abbrev RC_Tag : String := "LanguageTags$Tag"
abbrev RC_Text : String := "LanguageTags$Text"
abbrev RC_LT : String := "LanguageTags"
abbrev RC_Model : String := "LanguageTagsModel"
abbrev RC_Subtag : String := "LanguageTags$Subtag"
abbrev RC_Law : String := "LanguageTagsLaw"
def TC_Aliases : u_T := fun k => match k with
  | 0 => ("LanguageTags$Aliases", "firsts", "[J", true)
  | 1 => ("LanguageTags$Aliases", "seconds", "[J", true)
  | 2 => ("LanguageTags$Aliases", "ofRegions", "[Z", true)
  | _ => ("LanguageTags$Aliases", "count", "I", false)
def tyC_Aliases : Nat → FieldType := fun k => match k with
  | 0 => .array .long
  | 1 => .array .long
  | 2 => .array .boolean
  | _ => .int
theorem nmC_Aliases : ∀ a, a < 4 → ∀ b, b < 4 → a ≠ b → (TC_Aliases a).2.1 ≠ (TC_Aliases b).2.1 := by decide +kernel
theorem tyC_Aliases_ok : ∀ k, k < 4 → parseFieldDescriptor (TC_Aliases k).2.2.1 = some (tyC_Aliases k) := by decide +kernel
theorem inC_Aliases : ∀ w ∈ u_ws RC_Aliases TC_Aliases 4, w ∈ im_T := by
  have h : u_ws RC_Aliases TC_Aliases 4 = [62, 64, 66, 68].filterMap (fun i => tables_1[i]?) := by decide +kernel
  have hg : (u_ws RC_Aliases TC_Aliases 4).all goodWord = true := by decide +kernel
  intro w hw
  have h2 := List.all_eq_true.mp hg w hw
  rw [h] at hw
  obtain ⟨i, -, hi⟩ := List.mem_filterMap.mp hw
  exact im_memT hi h2
def TC_Core : u_T := fun k => match k with
  | 0 => ("LanguageTags$Core", "language", "J", false)
  | 1 => ("LanguageTags$Core", "script", "J", false)
  | _ => ("LanguageTags$Core", "region", "J", false)
def tyC_Core : Nat → FieldType := fun k => match k with
  | 0 => .long
  | 1 => .long
  | _ => .long
theorem nmC_Core : ∀ a, a < 3 → ∀ b, b < 3 → a ≠ b → (TC_Core a).2.1 ≠ (TC_Core b).2.1 := by decide +kernel
theorem tyC_Core_ok : ∀ k, k < 3 → parseFieldDescriptor (TC_Core k).2.2.1 = some (tyC_Core k) := by decide +kernel
theorem inC_Core : ∀ w ∈ u_ws RC_Core TC_Core 3, w ∈ im_T := by
  have h : u_ws RC_Core TC_Core 3 = [97, 99, 101].filterMap (fun i => tables_1[i]?) := by decide +kernel
  have hg : (u_ws RC_Core TC_Core 3).all goodWord = true := by decide +kernel
  intro w hw
  have h2 := List.all_eq_true.mp hg w hw
  rw [h] at hw
  obtain ⟨i, -, hi⟩ := List.mem_filterMap.mp hw
  exact im_memT hi h2
def TC_Form : u_T := fun k => match k with
  | 0 => ("LanguageTags$Form", "core", "LLanguageTags$Core;", true)
  | 1 => ("LanguageTags$Form", "parts", "[J", true)
  | _ => ("LanguageTags$Form", "count", "I", false)
def tyC_Form : Nat → FieldType := fun k => match k with
  | 0 => .object "LanguageTags$Core"
  | 1 => .array .long
  | _ => .int
theorem nmC_Form : ∀ a, a < 3 → ∀ b, b < 3 → a ≠ b → (TC_Form a).2.1 ≠ (TC_Form b).2.1 := by decide +kernel
theorem tyC_Form_ok : ∀ k, k < 3 → parseFieldDescriptor (TC_Form k).2.2.1 = some (tyC_Form k) := by decide +kernel
theorem inC_Form : ∀ w ∈ u_ws RC_Form TC_Form 3, w ∈ im_T := by
  have h : u_ws RC_Form TC_Form 3 = [109, 111, 113].filterMap (fun i => tables_1[i]?) := by decide +kernel
  have hg : (u_ws RC_Form TC_Form 3).all goodWord = true := by decide +kernel
  intro w hw
  have h2 := List.all_eq_true.mp hg w hw
  rw [h] at hw
  obtain ⟨i, -, hi⟩ := List.mem_filterMap.mp hw
  exact im_memT hi h2
def TC_Likely : u_T := fun k => match k with
  | 0 => ("LanguageTags$Likely", "pairs", "LLanguageTags$Pairs;", true)
  | 1 => ("LanguageTags$Likely", "whole", "LLanguageTags$Core;", true)
  | 2 => ("LanguageTags$Likely", "trial", "LLanguageTags$Core;", true)
  | _ => ("LanguageTags$Likely", "trialWhole", "LLanguageTags$Core;", true)
def tyC_Likely : Nat → FieldType := fun k => match k with
  | 0 => .object "LanguageTags$Pairs"
  | 1 => .object "LanguageTags$Core"
  | 2 => .object "LanguageTags$Core"
  | _ => .object "LanguageTags$Core"
theorem nmC_Likely : ∀ a, a < 4 → ∀ b, b < 4 → a ≠ b → (TC_Likely a).2.1 ≠ (TC_Likely b).2.1 := by decide +kernel
theorem tyC_Likely_ok : ∀ k, k < 4 → parseFieldDescriptor (TC_Likely k).2.2.1 = some (tyC_Likely k) := by decide +kernel
theorem inC_Likely : ∀ w ∈ u_ws RC_Likely TC_Likely 4, w ∈ im_T := by
  have h : u_ws RC_Likely TC_Likely 4 = [138, 140, 142, 144].filterMap (fun i => tables_1[i]?) := by decide +kernel
  have hg : (u_ws RC_Likely TC_Likely 4).all goodWord = true := by decide +kernel
  intro w hw
  have h2 := List.all_eq_true.mp hg w hw
  rw [h] at hw
  obtain ⟨i, -, hi⟩ := List.mem_filterMap.mp hw
  exact im_memT hi h2
def TC_Pairs : u_T := fun k => match k with
  | 0 => ("LanguageTags$Pairs", "firsts", "[LLanguageTags$Form;", true)
  | 1 => ("LanguageTags$Pairs", "seconds", "[LLanguageTags$Form;", true)
  | _ => ("LanguageTags$Pairs", "count", "I", false)
def tyC_Pairs : Nat → FieldType := fun k => match k with
  | 0 => .array (.object "LanguageTags$Form")
  | 1 => .array (.object "LanguageTags$Form")
  | _ => .int
theorem nmC_Pairs : ∀ a, a < 3 → ∀ b, b < 3 → a ≠ b → (TC_Pairs a).2.1 ≠ (TC_Pairs b).2.1 := by decide +kernel
theorem tyC_Pairs_ok : ∀ k, k < 3 → parseFieldDescriptor (TC_Pairs k).2.2.1 = some (tyC_Pairs k) := by decide +kernel
theorem inC_Pairs : ∀ w ∈ u_ws RC_Pairs TC_Pairs 3, w ∈ im_T := by
  have h : u_ws RC_Pairs TC_Pairs 3 = [119, 121, 123].filterMap (fun i => tables_1[i]?) := by decide +kernel
  have hg : (u_ws RC_Pairs TC_Pairs 3).all goodWord = true := by decide +kernel
  intro w hw
  have h2 := List.all_eq_true.mp hg w hw
  rw [h] at hw
  obtain ⟨i, -, hi⟩ := List.mem_filterMap.mp hw
  exact im_memT hi h2
def TC_Reader : u_T := fun k => match k with
  | 0 => ("LanguageTags$Reader", "parts", "[J", true)
  | 1 => ("LanguageTags$Reader", "roles", "[I", true)
  | _ => ("LanguageTags$Reader", "count", "I", false)
def tyC_Reader : Nat → FieldType := fun k => match k with
  | 0 => .array .long
  | 1 => .array .int
  | _ => .int
theorem nmC_Reader : ∀ a, a < 3 → ∀ b, b < 3 → a ≠ b → (TC_Reader a).2.1 ≠ (TC_Reader b).2.1 := by decide +kernel
theorem tyC_Reader_ok : ∀ k, k < 3 → parseFieldDescriptor (TC_Reader k).2.2.1 = some (tyC_Reader k) := by decide +kernel
theorem inC_Reader : ∀ w ∈ u_ws RC_Reader TC_Reader 3, w ∈ im_T := by
  have h : u_ws RC_Reader TC_Reader 3 = [43, 45, 47].filterMap (fun i => tables_1[i]?) := by decide +kernel
  have hg : (u_ws RC_Reader TC_Reader 3).all goodWord = true := by decide +kernel
  intro w hw
  have h2 := List.all_eq_true.mp hg w hw
  rw [h] at hw
  obtain ⟨i, -, hi⟩ := List.mem_filterMap.mp hw
  exact im_memT hi h2
def TC_Tag : u_T := fun k => match k with
  | 0 => ("LanguageTags$Tag", "form", "LLanguageTags$Form;", true)
  | 1 => ("LanguageTags$Tag", "values", "[I", true)
  | 2 => ("LanguageTags$Tag", "given", "[Z", true)
  | _ => ("LanguageTags$Tag", "supported", "Z", false)
def tyC_Tag : Nat → FieldType := fun k => match k with
  | 0 => .object "LanguageTags$Form"
  | 1 => .array .int
  | 2 => .array .boolean
  | _ => .boolean
theorem nmC_Tag : ∀ a, a < 4 → ∀ b, b < 4 → a ≠ b → (TC_Tag a).2.1 ≠ (TC_Tag b).2.1 := by decide +kernel
theorem tyC_Tag_ok : ∀ k, k < 4 → parseFieldDescriptor (TC_Tag k).2.2.1 = some (tyC_Tag k) := by decide +kernel
theorem inC_Tag : ∀ w ∈ u_ws RC_Tag TC_Tag 4, w ∈ im_T := by
  have h : u_ws RC_Tag TC_Tag 4 = [162, 164, 166, 168].filterMap (fun i => tables_1[i]?) := by decide +kernel
  have hg : (u_ws RC_Tag TC_Tag 4).all goodWord = true := by decide +kernel
  intro w hw
  have h2 := List.all_eq_true.mp hg w hw
  rw [h] at hw
  obtain ⟨i, -, hi⟩ := List.mem_filterMap.mp hw
  exact im_memT hi h2
def TC_Text : u_T := fun k => match k with
  | 0 => ("LanguageTags$Text", "row", "[C", true)
  | _ => ("LanguageTags$Text", "length", "I", false)
def tyC_Text : Nat → FieldType := fun k => match k with
  | 0 => .array .char
  | _ => .int
theorem nmC_Text : ∀ a, a < 2 → ∀ b, b < 2 → a ≠ b → (TC_Text a).2.1 ≠ (TC_Text b).2.1 := by decide +kernel
theorem tyC_Text_ok : ∀ k, k < 2 → parseFieldDescriptor (TC_Text k).2.2.1 = some (tyC_Text k) := by decide +kernel
theorem inC_Text : ∀ w ∈ u_ws RC_Text TC_Text 2, w ∈ im_T := by
  have h : u_ws RC_Text TC_Text 2 = [28, 30].filterMap (fun i => tables_1[i]?) := by decide +kernel
  have hg : (u_ws RC_Text TC_Text 2).all goodWord = true := by decide +kernel
  intro w hw
  have h2 := List.all_eq_true.mp hg w hw
  rw [h] at hw
  obtain ⟨i, -, hi⟩ := List.mem_filterMap.mp hw
  exact im_memT hi h2
def TC_LT : u_T := fun k => match k with
  | 0 => ("LanguageTags", "typed", "LLanguageTags$Text;", true)
  | 1 => ("LanguageTags", "display", "LLanguageTags$Text;", true)
  | 2 => ("LanguageTags", "reader", "LLanguageTags$Reader;", true)
  | 3 => ("LanguageTags", "aliases", "LLanguageTags$Aliases;", true)
  | 4 => ("LanguageTags", "likelyPairs", "LLanguageTags$Pairs;", true)
  | 5 => ("LanguageTags", "parentPairs", "LLanguageTags$Pairs;", true)
  | 6 => ("LanguageTags", "likely", "LLanguageTags$Likely;", true)
  | 7 => ("LanguageTags", "known", "[LLanguageTags$Tag;", true)
  | 8 => ("LanguageTags", "supported", "[I", true)
  | 9 => ("LanguageTags", "firstForm", "LLanguageTags$Form;", true)
  | 10 => ("LanguageTags", "secondForm", "LLanguageTags$Form;", true)
  | 11 => ("LanguageTags", "oneCore", "LLanguageTags$Core;", true)
  | 12 => ("LanguageTags", "otherCore", "LLanguageTags$Core;", true)
  | 13 => ("LanguageTags", "knownCount", "I", false)
  | 14 => ("LanguageTags", "supportedCount", "I", false)
  | _ => ("LanguageTags", "foundPlace", "I", false)
def tyC_LT : Nat → FieldType := fun k => match k with
  | 0 => .object "LanguageTags$Text"
  | 1 => .object "LanguageTags$Text"
  | 2 => .object "LanguageTags$Reader"
  | 3 => .object "LanguageTags$Aliases"
  | 4 => .object "LanguageTags$Pairs"
  | 5 => .object "LanguageTags$Pairs"
  | 6 => .object "LanguageTags$Likely"
  | 7 => .array (.object "LanguageTags$Tag")
  | 8 => .array .int
  | 9 => .object "LanguageTags$Form"
  | 10 => .object "LanguageTags$Form"
  | 11 => .object "LanguageTags$Core"
  | 12 => .object "LanguageTags$Core"
  | 13 => .int
  | 14 => .int
  | _ => .int
theorem nmC_LT : ∀ a, a < 16 → ∀ b, b < 16 → a ≠ b → (TC_LT a).2.1 ≠ (TC_LT b).2.1 := by decide +kernel
theorem tyC_LT_ok : ∀ k, k < 16 → parseFieldDescriptor (TC_LT k).2.2.1 = some (tyC_LT k) := by decide +kernel
theorem inC_LT : ∀ w ∈ u_ws RC_LT TC_LT 16, w ∈ im_T := by
  have h : u_ws RC_LT TC_LT 16 = [191, 193, 195, 197, 199, 201, 203, 205, 207, 209, 211, 213, 215, 217, 219, 221].filterMap (fun i => tables_1[i]?) := by decide +kernel
  have hg : (u_ws RC_LT TC_LT 16).all goodWord = true := by decide +kernel
  intro w hw
  have h2 := List.all_eq_true.mp hg w hw
  rw [h] at hw
  obtain ⟨i, -, hi⟩ := List.mem_filterMap.mp hw
  exact im_memT hi h2
def TC_Model : u_T := fun k => match k with
  | 0 => ("LanguageTagsModel", "length", "I", false)
  | 1 => ("LanguageTagsModel", "typed", "[C", false)
  | 2 => ("LanguageTagsModel", "language", "I", false)
  | 3 => ("LanguageTagsModel", "script", "I", false)
  | 4 => ("LanguageTagsModel", "region", "I", false)
  | 5 => ("LanguageTagsModel", "variants", "I", false)
  | 6 => ("LanguageTagsModel", "variantFrom", "[I", false)
  | 7 => ("LanguageTagsModel", "variantTo", "[I", false)
  | 8 => ("LanguageTagsModel", "keywords", "I", false)
  | 9 => ("LanguageTagsModel", "keyFrom", "[I", false)
  | 10 => ("LanguageTagsModel", "keyTo", "[I", false)
  | 11 => ("LanguageTagsModel", "privateFrom", "I", false)
  | 12 => ("LanguageTagsModel", "privateTo", "I", false)
  | 13 => ("LanguageTagsModel", "formLength", "I", false)
  | 14 => ("LanguageTagsModel", "form", "[C", false)
  | 15 => ("LanguageTagsModel", "cutLength", "I", false)
  | 16 => ("LanguageTagsModel", "cut", "[C", false)
  | 17 => ("LanguageTagsModel", "aliases", "I", false)
  | 18 => ("LanguageTagsModel", "aliasFirst", "[I", false)
  | 19 => ("LanguageTagsModel", "aliasSecond", "[I", false)
  | 20 => ("LanguageTagsModel", "aliasRegion", "[Z", false)
  | 21 => ("LanguageTagsModel", "pairs", "[I", false)
  | 22 => ("LanguageTagsModel", "fromLanguage", "[I", false)
  | 23 => ("LanguageTagsModel", "fromScript", "[I", false)
  | 24 => ("LanguageTagsModel", "fromRegion", "[I", false)
  | 25 => ("LanguageTagsModel", "toLanguage", "[I", false)
  | 26 => ("LanguageTagsModel", "toScript", "[I", false)
  | 27 => ("LanguageTagsModel", "toRegion", "[I", false)
  | 28 => ("LanguageTagsModel", "maxLanguage", "I", false)
  | 29 => ("LanguageTagsModel", "maxScript", "I", false)
  | 30 => ("LanguageTagsModel", "maxRegion", "I", false)
  | 31 => ("LanguageTagsModel", "count", "I", false)
  | 32 => ("LanguageTagsModel", "forms", "[C", false)
  | 33 => ("LanguageTagsModel", "formLengths", "[I", false)
  | 34 => ("LanguageTagsModel", "tagLanguage", "[I", false)
  | 35 => ("LanguageTagsModel", "tagScript", "[I", false)
  | 36 => ("LanguageTagsModel", "tagRegion", "[I", false)
  | 37 => ("LanguageTagsModel", "values", "[I", false)
  | 38 => ("LanguageTagsModel", "has", "[Z", false)
  | 39 => ("LanguageTagsModel", "supported", "I", false)
  | 40 => ("LanguageTagsModel", "support", "[I", false)
  | 41 => ("LanguageTagsModel", "shownLength", "I", false)
  | 42 => ("LanguageTagsModel", "show", "[C", false)
  | _ => ("LanguageTagsModel", "place", "I", false)
def tyC_Model : Nat → FieldType := fun k => match k with
  | 0 => .int
  | 1 => .array .char
  | 2 => .int
  | 3 => .int
  | 4 => .int
  | 5 => .int
  | 6 => .array .int
  | 7 => .array .int
  | 8 => .int
  | 9 => .array .int
  | 10 => .array .int
  | 11 => .int
  | 12 => .int
  | 13 => .int
  | 14 => .array .char
  | 15 => .int
  | 16 => .array .char
  | 17 => .int
  | 18 => .array .int
  | 19 => .array .int
  | 20 => .array .boolean
  | 21 => .array .int
  | 22 => .array .int
  | 23 => .array .int
  | 24 => .array .int
  | 25 => .array .int
  | 26 => .array .int
  | 27 => .array .int
  | 28 => .int
  | 29 => .int
  | 30 => .int
  | 31 => .int
  | 32 => .array .char
  | 33 => .array .int
  | 34 => .array .int
  | 35 => .array .int
  | 36 => .array .int
  | 37 => .array .int
  | 38 => .array .boolean
  | 39 => .int
  | 40 => .array .int
  | 41 => .int
  | 42 => .array .char
  | _ => .int
theorem nmC_Model : ∀ a, a < 44 → ∀ b, b < 44 → a ≠ b → (TC_Model a).2.1 ≠ (TC_Model b).2.1 := by decide +kernel
theorem tyC_Model_ok : ∀ k, k < 44 → parseFieldDescriptor (TC_Model k).2.2.1 = some (tyC_Model k) := by decide +kernel
theorem inC_Model : ∀ w ∈ u_ws RC_Model TC_Model 44, w ∈ im_T := by
  have h : u_ws RC_Model TC_Model 44 = [675, 677, 679, 681, 683, 685, 687, 689, 691, 693, 695, 697, 699, 701, 703, 705, 707, 709, 711, 713, 715, 717, 719, 721, 723, 725, 727, 729, 731, 733, 735, 737, 739, 741, 743, 745, 747, 749, 751, 753, 755, 757, 759, 761].filterMap (fun i => tables_1[i]?) := by decide +kernel
  have hg : (u_ws RC_Model TC_Model 44).all goodWord = true := by decide +kernel
  intro w hw
  have h2 := List.all_eq_true.mp hg w hw
  rw [h] at hw
  obtain ⟨i, -, hi⟩ := List.mem_filterMap.mp hw
  exact im_memT hi h2
abbrev vwCl : List vw_C := [(RC_Aliases, TC_Aliases, 4), (RC_Core, TC_Core, 3), (RC_Form, TC_Form, 3), (RC_Likely, TC_Likely, 4), (RC_Pairs, TC_Pairs, 3), (RC_Reader, TC_Reader, 3), (RC_Tag, TC_Tag, 4), (RC_Text, TC_Text, 2), (RC_LT, TC_LT, 16), (RC_Model, TC_Model, 44)]
def im_NW : List Cond := [(Jvm.Cond.fieldLinkNest "LanguageTags$Likely" (64 : Nat) "LanguageTags$Core" "language" "J" "LanguageTags"), (Jvm.Cond.fieldLinkNest "LanguageTags$Likely" (61 : Nat) "LanguageTags$Core" "script" "J" "LanguageTags"), (Jvm.Cond.fieldLinkNest "LanguageTags$Likely" (57 : Nat) "LanguageTags$Core" "region" "J" "LanguageTags"), (Jvm.Cond.fieldLinkNest "LanguageTags$Pairs" (39 : Nat) "LanguageTags$Form" "core" "LLanguageTags$Core;" "LanguageTags"), (Jvm.Cond.fieldLinkNest "LanguageTags" (180 : Nat) "LanguageTags$Form" "core" "LLanguageTags$Core;" "LanguageTags"), (Jvm.Cond.fieldLinkNest "LanguageTags" (165 : Nat) "LanguageTags$Tag" "form" "LLanguageTags$Form;" "LanguageTags"), (Jvm.Cond.fieldLinkNest "LanguageTags" (218 : Nat) "LanguageTags$Tag" "supported" "Z" "LanguageTags"), (Jvm.Cond.methodLinkNest "LanguageTags$Tag" (32 : Nat) ({ cls := "LanguageTags", name := "isKey", desc := "(I)Z" } : Jvm.MethodName) "LanguageTags")]
theorem nw_92 : (Jvm.Cond.fieldLinkNest "LanguageTags$Likely" (64 : Nat) "LanguageTags$Core" "language" "J" "LanguageTags") ∈ im_NW := List.mem_of_getElem? (i := 0) rfl
theorem nw_94 : (Jvm.Cond.fieldLinkNest "LanguageTags$Likely" (61 : Nat) "LanguageTags$Core" "script" "J" "LanguageTags") ∈ im_NW := List.mem_of_getElem? (i := 1) rfl
theorem nw_96 : (Jvm.Cond.fieldLinkNest "LanguageTags$Likely" (57 : Nat) "LanguageTags$Core" "region" "J" "LanguageTags") ∈ im_NW := List.mem_of_getElem? (i := 2) rfl
theorem nw_105 : (Jvm.Cond.fieldLinkNest "LanguageTags$Pairs" (39 : Nat) "LanguageTags$Form" "core" "LLanguageTags$Core;" "LanguageTags") ∈ im_NW := List.mem_of_getElem? (i := 3) rfl
theorem nw_106 : (Jvm.Cond.fieldLinkNest "LanguageTags" (180 : Nat) "LanguageTags$Form" "core" "LLanguageTags$Core;" "LanguageTags") ∈ im_NW := List.mem_of_getElem? (i := 4) rfl
theorem nw_157 : (Jvm.Cond.fieldLinkNest "LanguageTags" (165 : Nat) "LanguageTags$Tag" "form" "LLanguageTags$Form;" "LanguageTags") ∈ im_NW := List.mem_of_getElem? (i := 5) rfl
theorem nw_161 : (Jvm.Cond.fieldLinkNest "LanguageTags" (218 : Nat) "LanguageTags$Tag" "supported" "Z" "LanguageTags") ∈ im_NW := List.mem_of_getElem? (i := 6) rfl
theorem nw_608 : (Jvm.Cond.methodLinkNest "LanguageTags$Tag" (32 : Nat) ({ cls := "LanguageTags", name := "isKey", desc := "(I)Z" } : Jvm.MethodName) "LanguageTags") ∈ im_NW := List.mem_of_getElem? (i := 7) rfl
theorem im_NW_ok : ∀ x ∈ im_NW, im_isN x := by
  intro x hx
  simp only [im_NW, List.mem_cons, List.not_mem_nil, or_false] at hx
  rcases hx with rfl | rfl | rfl | rfl | rfl | rfl | rfl | rfl
  all_goals first | exact Or.inl ⟨_, _, _, _, _, _, rfl⟩ | exact Or.inr ⟨_, _, _, _, rfl⟩
theorem im_NW_in : ∀ x ∈ im_NW, x ∈ lw_tbl := by
  have h : im_NW = [92, 94, 96, 105, 106, 157, 161, 608].filterMap (fun i => tables_1[i]?) := by decide +kernel
  intro x hx
  rw [h] at hx
  obtain ⟨i, -, hi⟩ := List.mem_filterMap.mp hx
  exact List.mem_append_right _ (List.mem_of_getElem? hi)
abbrev c_LT_init : ByteArray := prog_1_method_1_code
abbrev y_LT_init : MethodName := ⟨RC_LT, "<init>", "()V"⟩
abbrev c_LT_type : ByteArray := prog_1_method_2_code
abbrev y_LT_type : MethodName := ⟨RC_LT, "type", "(C)Z"⟩
abbrev c_LT_wipe : ByteArray := prog_1_method_3_code
abbrev y_LT_wipe : MethodName := ⟨RC_LT, "wipe", "()V"⟩
abbrev c_LT_alias : ByteArray := prog_1_method_4_code
abbrev y_LT_alias : MethodName := ⟨RC_LT, "alias", "(Z)I"⟩
abbrev c_LT_read : ByteArray := prog_1_method_5_code
abbrev y_LT_read : MethodName := ⟨RC_LT, "read", "()I"⟩
abbrev c_LT_pair : ByteArray := prog_1_method_6_code
abbrev y_LT_pair : MethodName := ⟨RC_LT, "pair", "(Z)I"⟩
abbrev c_LT_show : ByteArray := prog_1_method_7_code
abbrev y_LT_show : MethodName := ⟨RC_LT, "show", "(II)I"⟩
abbrev c_LT_shown : ByteArray := prog_1_method_8_code
abbrev y_LT_shown : MethodName := ⟨RC_LT, "shown", "(I)C"⟩
abbrev c_LT_tags : ByteArray := prog_1_method_9_code
abbrev y_LT_tags : MethodName := ⟨RC_LT, "tags", "()I"⟩
abbrev c_LT_support : ByteArray := prog_1_method_10_code
abbrev y_LT_support : MethodName := ⟨RC_LT, "support", "(I)Z"⟩
abbrev c_LT_fits : ByteArray := prog_1_method_11_code
abbrev y_LT_fits : MethodName := ⟨RC_LT, "fits", "(II)Z"⟩
abbrev c_LT_lookup : ByteArray := prog_1_method_12_code
abbrev y_LT_lookup : MethodName := ⟨RC_LT, "lookup", "(I)I"⟩
abbrev c_LT_distance : ByteArray := prog_1_method_13_code
abbrev y_LT_distance : MethodName := ⟨RC_LT, "distance", "(II)I"⟩
abbrev c_LT_best : ByteArray := prog_1_method_14_code
abbrev y_LT_best : MethodName := ⟨RC_LT, "best", "(I)I"⟩
abbrev c_LT_put : ByteArray := prog_1_method_15_code
abbrev y_LT_put : MethodName := ⟨RC_LT, "put", "(III)Z"⟩
abbrev c_LT_get : ByteArray := prog_1_method_16_code
abbrev y_LT_get : MethodName := ⟨RC_LT, "get", "(II)I"⟩
abbrev c_LT_found : ByteArray := prog_1_method_17_code
abbrev y_LT_found : MethodName := ⟨RC_LT, "found", "()I"⟩
abbrev c_LT_isTag : ByteArray := prog_1_method_18_code
abbrev y_LT_isTag : MethodName := ⟨RC_LT, "isTag", "(I)Z"⟩
abbrev c_LT_isKey : ByteArray := prog_1_method_19_code
abbrev y_LT_isKey : MethodName := ⟨RC_LT, "isKey", "(I)Z"⟩
abbrev c_LT_isAliasPart : ByteArray := prog_1_method_20_code
abbrev y_LT_isAliasPart : MethodName := ⟨RC_LT, "isAliasPart", "(JZ)Z"⟩
abbrev c_LT_formsAreFixed : ByteArray := prog_1_method_21_code
abbrev y_LT_formsAreFixed : MethodName := ⟨RC_LT, "formsAreFixed", "()Z"⟩
abbrev c_LT_readPlain : ByteArray := prog_1_method_22_code
abbrev y_LT_readPlain : MethodName := ⟨RC_LT, "readPlain", "(LLanguageTags$Form;II)Z"⟩
abbrev c_LT_tagWithForm : ByteArray := prog_1_method_23_code
abbrev y_LT_tagWithForm : MethodName := ⟨RC_LT, "tagWithForm", "(LLanguageTags$Form;I)I"⟩
abbrev c_LT_distanceOf : ByteArray := prog_1_method_24_code
abbrev y_LT_distanceOf : MethodName := ⟨RC_LT, "distanceOf", "(II)I"⟩
abbrev c_Model_init : ByteArray := prog_12_method_1_code
abbrev y_Model_init : MethodName := ⟨RC_Model, "<init>", "()V"⟩
abbrev c_Model_digit : ByteArray := prog_12_method_2_code
abbrev y_Model_digit : MethodName := ⟨RC_Model, "digit", "(C)Z"⟩
abbrev c_Model_small : ByteArray := prog_12_method_3_code
abbrev y_Model_small : MethodName := ⟨RC_Model, "small", "(C)C"⟩
abbrev c_Model_letter : ByteArray := prog_12_method_4_code
abbrev y_Model_letter : MethodName := ⟨RC_Model, "letter", "(C)Z"⟩
abbrev c_Model_allLetters : ByteArray := prog_12_method_5_code
abbrev y_Model_allLetters : MethodName := ⟨RC_Model, "allLetters", "(II)Z"⟩
abbrev c_Model_allDigits : ByteArray := prog_12_method_6_code
abbrev y_Model_allDigits : MethodName := ⟨RC_Model, "allDigits", "(II)Z"⟩
abbrev c_Model_allBoth : ByteArray := prog_12_method_7_code
abbrev y_Model_allBoth : MethodName := ⟨RC_Model, "allBoth", "(II)Z"⟩
abbrev c_Model_number : ByteArray := prog_12_method_8_code
abbrev y_Model_number : MethodName := ⟨RC_Model, "number", "(II)I"⟩
abbrev c_Model_type : ByteArray := prog_12_method_9_code
abbrev y_Model_type : MethodName := ⟨RC_Model, "type", "(C)Z"⟩
abbrev c_Model_wipe : ByteArray := prog_12_method_10_code
abbrev y_Model_wipe : MethodName := ⟨RC_Model, "wipe", "()V"⟩
abbrev c_Model_isLanguage : ByteArray := prog_12_method_11_code
abbrev y_Model_isLanguage : MethodName := ⟨RC_Model, "isLanguage", "(II)Z"⟩
abbrev c_Model_isRegion : ByteArray := prog_12_method_12_code
abbrev y_Model_isRegion : MethodName := ⟨RC_Model, "isRegion", "(II)Z"⟩
abbrev c_Model_isVariant : ByteArray := prog_12_method_13_code
abbrev y_Model_isVariant : MethodName := ⟨RC_Model, "isVariant", "(II)Z"⟩
abbrev c_Model_isKey : ByteArray := prog_12_method_14_code
abbrev y_Model_isKey : MethodName := ⟨RC_Model, "isKey", "(II)Z"⟩
abbrev c_Model_isOne : ByteArray := prog_12_method_15_code
abbrev y_Model_isOne : MethodName := ⟨RC_Model, "isOne", "(IIC)Z"⟩
abbrev c_Model_same : ByteArray := prog_12_method_16_code
abbrev y_Model_same : MethodName := ⟨RC_Model, "same", "(IIII)Z"⟩
abbrev c_Model_stand : ByteArray := prog_12_method_17_code
abbrev y_Model_stand : MethodName := ⟨RC_Model, "stand", "(III)I"⟩
abbrev c_Model_standVariant : ByteArray := prog_12_method_18_code
abbrev y_Model_standVariant : MethodName := ⟨RC_Model, "standVariant", "(II)I"⟩
abbrev c_Model_standKeyword : ByteArray := prog_12_method_19_code
abbrev y_Model_standKeyword : MethodName := ⟨RC_Model, "standKeyword", "(III)I"⟩
abbrev c_Model_parse : ByteArray := prog_12_method_20_code
abbrev y_Model_parse : MethodName := ⟨RC_Model, "parse", "(II)I"⟩
abbrev c_Model_replaced : ByteArray := prog_12_method_21_code
abbrev y_Model_replaced : MethodName := ⟨RC_Model, "replaced", "(IZ)I"⟩
abbrev c_Model_putChar : ByteArray := prog_12_method_22_code
abbrev y_Model_putChar : MethodName := ⟨RC_Model, "putChar", "(C)V"⟩
abbrev c_Model_character : ByteArray := prog_12_method_23_code
abbrev y_Model_character : MethodName := ⟨RC_Model, "character", "(I)C"⟩
abbrev c_Model_capital : ByteArray := prog_12_method_24_code
abbrev y_Model_capital : MethodName := ⟨RC_Model, "capital", "(C)C"⟩
abbrev c_Model_putNumber : ByteArray := prog_12_method_25_code
abbrev y_Model_putNumber : MethodName := ⟨RC_Model, "putNumber", "(II)V"⟩
abbrev c_Model_putShort : ByteArray := prog_12_method_26_code
abbrev y_Model_putShort : MethodName := ⟨RC_Model, "putShort", "(III)V"⟩
abbrev c_Model_putTyped : ByteArray := prog_12_method_27_code
abbrev y_Model_putTyped : MethodName := ⟨RC_Model, "putTyped", "(II)V"⟩
abbrev c_Model_before : ByteArray := prog_12_method_28_code
abbrev y_Model_before : MethodName := ⟨RC_Model, "before", "(IIII)Z"⟩
abbrev c_Model_makeForm : ByteArray := prog_12_method_29_code
abbrev y_Model_makeForm : MethodName := ⟨RC_Model, "makeForm", "()V"⟩
abbrev c_Model_makeKeywords : ByteArray := prog_12_method_30_code
abbrev y_Model_makeKeywords : MethodName := ⟨RC_Model, "makeKeywords", "()V"⟩
abbrev c_Model_find : ByteArray := prog_12_method_31_code
abbrev y_Model_find : MethodName := ⟨RC_Model, "find", "()I"⟩
abbrev c_Model_equalSign : ByteArray := prog_12_method_32_code
abbrev y_Model_equalSign : MethodName := ⟨RC_Model, "equalSign", "()I"⟩
abbrev c_Model_alias : ByteArray := prog_12_method_33_code
abbrev y_Model_alias : MethodName := ⟨RC_Model, "alias", "(Z)I"⟩
abbrev c_Model_read : ByteArray := prog_12_method_34_code
abbrev y_Model_read : MethodName := ⟨RC_Model, "read", "()I"⟩
abbrev c_Model_plain : ByteArray := prog_12_method_35_code
abbrev y_Model_plain : MethodName := ⟨RC_Model, "plain", "()Z"⟩
abbrev c_Model_pair : ByteArray := prog_12_method_36_code
abbrev y_Model_pair : MethodName := ⟨RC_Model, "pair", "(Z)I"⟩
abbrev c_Model_leads : ByteArray := prog_12_method_37_code
abbrev y_Model_leads : MethodName := ⟨RC_Model, "leads", "(IIII)I"⟩
abbrev c_Model_und : ByteArray := prog_12_method_38_code
abbrev y_Model_und : MethodName := ⟨RC_Model, "und", "()I"⟩
abbrev c_Model_maximise : ByteArray := prog_12_method_39_code
abbrev y_Model_maximise : MethodName := ⟨RC_Model, "maximise", "(III)V"⟩
abbrev c_Model_gives : ByteArray := prog_12_method_40_code
abbrev y_Model_gives : MethodName := ⟨RC_Model, "gives", "(IIIIII)Z"⟩
abbrev c_Model_putMinimised : ByteArray := prog_12_method_41_code
abbrev y_Model_putMinimised : MethodName := ⟨RC_Model, "putMinimised", "(I)V"⟩
abbrev c_Model_none : ByteArray := prog_12_method_42_code
abbrev y_Model_none : MethodName := ⟨RC_Model, "none", "(I)Z"⟩
abbrev c_Model_show : ByteArray := prog_12_method_43_code
abbrev y_Model_show : MethodName := ⟨RC_Model, "show", "(II)I"⟩
abbrev c_Model_shown : ByteArray := prog_12_method_44_code
abbrev y_Model_shown : MethodName := ⟨RC_Model, "shown", "(I)C"⟩
abbrev c_Model_tags : ByteArray := prog_12_method_45_code
abbrev y_Model_tags : MethodName := ⟨RC_Model, "tags", "()I"⟩
abbrev c_Model_isSupported : ByteArray := prog_12_method_46_code
abbrev y_Model_isSupported : MethodName := ⟨RC_Model, "isSupported", "(I)Z"⟩
abbrev c_Model_support : ByteArray := prog_12_method_47_code
abbrev y_Model_support : MethodName := ⟨RC_Model, "support", "(I)Z"⟩
abbrev c_Model_subtagEnd : ByteArray := prog_12_method_48_code
abbrev y_Model_subtagEnd : MethodName := ⟨RC_Model, "subtagEnd", "(II)I"⟩
abbrev c_Model_fits : ByteArray := prog_12_method_49_code
abbrev y_Model_fits : MethodName := ⟨RC_Model, "fits", "(II)Z"⟩
abbrev c_Model_startCut : ByteArray := prog_12_method_50_code
abbrev y_Model_startCut : MethodName := ⟨RC_Model, "startCut", "(I)V"⟩
abbrev c_Model_dropLast : ByteArray := prog_12_method_51_code
abbrev y_Model_dropLast : MethodName := ⟨RC_Model, "dropLast", "()V"⟩
abbrev c_Model_truncate : ByteArray := prog_12_method_52_code
abbrev y_Model_truncate : MethodName := ⟨RC_Model, "truncate", "()V"⟩
abbrev c_Model_cutTag : ByteArray := prog_12_method_53_code
abbrev y_Model_cutTag : MethodName := ⟨RC_Model, "cutTag", "()I"⟩
abbrev c_Model_lookup : ByteArray := prog_12_method_54_code
abbrev y_Model_lookup : MethodName := ⟨RC_Model, "lookup", "(I)I"⟩
abbrev c_Model_distance : ByteArray := prog_12_method_55_code
abbrev y_Model_distance : MethodName := ⟨RC_Model, "distance", "(II)I"⟩
abbrev c_Model_best : ByteArray := prog_12_method_56_code
abbrev y_Model_best : MethodName := ⟨RC_Model, "best", "(I)I"⟩
abbrev c_Model_put : ByteArray := prog_12_method_57_code
abbrev y_Model_put : MethodName := ⟨RC_Model, "put", "(III)Z"⟩
abbrev c_Model_goOn : ByteArray := prog_12_method_58_code
abbrev y_Model_goOn : MethodName := ⟨RC_Model, "goOn", "()V"⟩
abbrev c_Model_get : ByteArray := prog_12_method_59_code
abbrev y_Model_get : MethodName := ⟨RC_Model, "get", "(II)I"⟩
abbrev c_Model_found : ByteArray := prog_12_method_60_code
abbrev y_Model_found : MethodName := ⟨RC_Model, "found", "()I"⟩
abbrev c_Aliases_init : ByteArray := prog_2_method_1_code
abbrev y_Aliases_init : MethodName := ⟨RC_Aliases, "<init>", "()V"⟩
abbrev c_Aliases_count : ByteArray := prog_2_method_2_code
abbrev y_Aliases_count : MethodName := ⟨RC_Aliases, "count", "()I"⟩
abbrev c_Aliases_isFull : ByteArray := prog_2_method_3_code
abbrev y_Aliases_isFull : MethodName := ⟨RC_Aliases, "isFull", "()Z"⟩
abbrev c_Aliases_append : ByteArray := prog_2_method_4_code
abbrev y_Aliases_append : MethodName := ⟨RC_Aliases, "append", "(JJZ)V"⟩
abbrev c_Aliases_indexOf : ByteArray := prog_2_method_5_code
abbrev y_Aliases_indexOf : MethodName := ⟨RC_Aliases, "indexOf", "(JZ)I"⟩
abbrev c_Aliases_replaced : ByteArray := prog_2_method_6_code
abbrev y_Aliases_replaced : MethodName := ⟨RC_Aliases, "replaced", "(JZ)J"⟩
abbrev c_Core_init : ByteArray := prog_3_method_1_code
abbrev y_Core_init : MethodName := ⟨RC_Core, "<init>", "()V"⟩
abbrev c_Core_assign : ByteArray := prog_3_method_2_code
abbrev y_Core_assign : MethodName := ⟨RC_Core, "assign", "(JJJ)V"⟩
abbrev c_Core_copyFrom : ByteArray := prog_3_method_3_code
abbrev y_Core_copyFrom : MethodName := ⟨RC_Core, "copyFrom", "(LLanguageTags$Core;)V"⟩
abbrev c_Core_hasScript : ByteArray := prog_3_method_4_code
abbrev y_Core_hasScript : MethodName := ⟨RC_Core, "hasScript", "()Z"⟩
abbrev c_Core_hasRegion : ByteArray := prog_3_method_5_code
abbrev y_Core_hasRegion : MethodName := ⟨RC_Core, "hasRegion", "()Z"⟩
abbrev c_Core_isUnd : ByteArray := prog_3_method_6_code
abbrev y_Core_isUnd : MethodName := ⟨RC_Core, "isUnd", "()Z"⟩
abbrev c_Core_count : ByteArray := prog_3_method_7_code
abbrev y_Core_count : MethodName := ⟨RC_Core, "count", "()I"⟩
abbrev c_Core_isMadeOf : ByteArray := prog_3_method_8_code
abbrev y_Core_isMadeOf : MethodName := ⟨RC_Core, "isMadeOf", "(JJJ)Z"⟩
abbrev c_Core_isSame : ByteArray := prog_3_method_9_code
abbrev y_Core_isSame : MethodName := ⟨RC_Core, "isSame", "(LLanguageTags$Core;)Z"⟩
abbrev c_Core_fillFrom : ByteArray := prog_3_method_10_code
abbrev y_Core_fillFrom : MethodName := ⟨RC_Core, "fillFrom", "(LLanguageTags$Core;)V"⟩
abbrev c_Core_apartFrom : ByteArray := prog_3_method_11_code
abbrev y_Core_apartFrom : MethodName := ⟨RC_Core, "apartFrom", "(LLanguageTags$Core;)I"⟩
abbrev c_Core_writeTo : ByteArray := prog_3_method_12_code
abbrev y_Core_writeTo : MethodName := ⟨RC_Core, "writeTo", "(LLanguageTags$Text;)V"⟩
abbrev c_Form_init : ByteArray := prog_4_method_1_code
abbrev y_Form_init : MethodName := ⟨RC_Form, "<init>", "(I)V"⟩
abbrev c_Form_count : ByteArray := prog_4_method_2_code
abbrev y_Form_count : MethodName := ⟨RC_Form, "count", "()I"⟩
abbrev c_Form_at : ByteArray := prog_4_method_3_code
abbrev y_Form_at : MethodName := ⟨RC_Form, "at", "(I)J"⟩
abbrev c_Form_isPlain : ByteArray := prog_4_method_4_code
abbrev y_Form_isPlain : MethodName := ⟨RC_Form, "isPlain", "()Z"⟩
abbrev c_Form_begin : ByteArray := prog_4_method_5_code
abbrev y_Form_begin : MethodName := ⟨RC_Form, "begin", "(JJJ)V"⟩
abbrev c_Form_append : ByteArray := prog_4_method_6_code
abbrev y_Form_append : MethodName := ⟨RC_Form, "append", "(J)V"⟩
abbrev c_Form_copyFrom : ByteArray := prog_4_method_7_code
abbrev y_Form_copyFrom : MethodName := ⟨RC_Form, "copyFrom", "(LLanguageTags$Form;)V"⟩
abbrev c_Form_isStartOf : ByteArray := prog_4_method_8_code
abbrev y_Form_isStartOf : MethodName := ⟨RC_Form, "isStartOf", "(LLanguageTags$Form;I)Z"⟩
abbrev c_Form_truncated : ByteArray := prog_4_method_9_code
abbrev y_Form_truncated : MethodName := ⟨RC_Form, "truncated", "(I)I"⟩
abbrev c_Form_isWithin : ByteArray := prog_4_method_10_code
abbrev y_Form_isWithin : MethodName := ⟨RC_Form, "isWithin", "(LLanguageTags$Form;)Z"⟩
abbrev c_Form_writeTo : ByteArray := prog_4_method_11_code
abbrev y_Form_writeTo : MethodName := ⟨RC_Form, "writeTo", "(LLanguageTags$Text;)V"⟩
abbrev c_Likely_init : ByteArray := prog_5_method_1_code
abbrev y_Likely_init : MethodName := ⟨RC_Likely, "<init>", "(LLanguageTags$Pairs;)V"⟩
abbrev c_Likely_maximise : ByteArray := prog_5_method_2_code
abbrev y_Likely_maximise : MethodName := ⟨RC_Likely, "maximise", "(LLanguageTags$Core;LLanguageTags$Core;)V"⟩
abbrev c_Likely_minimise : ByteArray := prog_5_method_3_code
abbrev y_Likely_minimise : MethodName := ⟨RC_Likely, "minimise", "(LLanguageTags$Core;LLanguageTags$Core;)V"⟩
abbrev c_Likely_isEnough : ByteArray := prog_5_method_4_code
abbrev y_Likely_isEnough : MethodName := ⟨RC_Likely, "isEnough", "(JJ)Z"⟩
abbrev c_Likely_sourceFor : ByteArray := prog_5_method_5_code
abbrev y_Likely_sourceFor : MethodName := ⟨RC_Likely, "sourceFor", "(LLanguageTags$Core;)LLanguageTags$Core;"⟩
abbrev c_Pairs_init : ByteArray := prog_6_method_1_code
abbrev y_Pairs_init : MethodName := ⟨RC_Pairs, "<init>", "()V"⟩
abbrev c_Pairs_count : ByteArray := prog_6_method_2_code
abbrev y_Pairs_count : MethodName := ⟨RC_Pairs, "count", "()I"⟩
abbrev c_Pairs_isFull : ByteArray := prog_6_method_3_code
abbrev y_Pairs_isFull : MethodName := ⟨RC_Pairs, "isFull", "()Z"⟩
abbrev c_Pairs_append : ByteArray := prog_6_method_4_code
abbrev y_Pairs_append : MethodName := ⟨RC_Pairs, "append", "(LLanguageTags$Form;LLanguageTags$Form;)V"⟩
abbrev c_Pairs_formBehind : ByteArray := prog_6_method_5_code
abbrev y_Pairs_formBehind : MethodName := ⟨RC_Pairs, "formBehind", "(LLanguageTags$Form;I)LLanguageTags$Form;"⟩
abbrev c_Pairs_coreBehind : ByteArray := prog_6_method_6_code
abbrev y_Pairs_coreBehind : MethodName := ⟨RC_Pairs, "coreBehind", "(JJJ)LLanguageTags$Core;"⟩
abbrev c_Reader_init : ByteArray := prog_7_method_1_code
abbrev y_Reader_init : MethodName := ⟨RC_Reader, "<init>", "()V"⟩
abbrev c_Reader_cutTag : ByteArray := prog_7_method_2_code
abbrev y_Reader_cutTag : MethodName := ⟨RC_Reader, "cutTag", "(LLanguageTags$Text;II)I"⟩
abbrev c_Reader_fillForm : ByteArray := prog_7_method_3_code
abbrev y_Reader_fillForm : MethodName := ⟨RC_Reader, "fillForm", "(LLanguageTags$Form;LLanguageTags$Aliases;)V"⟩
abbrev c_Reader_roleOf : ByteArray := prog_7_method_4_code
abbrev y_Reader_roleOf : MethodName := ⟨RC_Reader, "roleOf", "(JI)I"⟩
abbrev c_Reader_roleInFront : ByteArray := prog_7_method_5_code
abbrev y_Reader_roleInFront : MethodName := ⟨RC_Reader, "roleInFront", "(JI)I"⟩
abbrev c_Reader_roleInExtension : ByteArray := prog_7_method_6_code
abbrev y_Reader_roleInExtension : MethodName := ⟨RC_Reader, "roleInExtension", "(JI)I"⟩
abbrev c_Reader_isThere : ByteArray := prog_7_method_7_code
abbrev y_Reader_isThere : MethodName := ⟨RC_Reader, "isThere", "(JI)Z"⟩
abbrev c_Reader_partWith : ByteArray := prog_7_method_8_code
abbrev y_Reader_partWith : MethodName := ⟨RC_Reader, "partWith", "(I)J"⟩
abbrev c_Reader_addInOrder : ByteArray := prog_7_method_9_code
abbrev y_Reader_addInOrder : MethodName := ⟨RC_Reader, "addInOrder", "(LLanguageTags$Form;I)V"⟩
abbrev c_Reader_leastAbove : ByteArray := prog_7_method_10_code
abbrev y_Reader_leastAbove : MethodName := ⟨RC_Reader, "leastAbove", "(JI)I"⟩
abbrev c_Reader_addTypes : ByteArray := prog_7_method_11_code
abbrev y_Reader_addTypes : MethodName := ⟨RC_Reader, "addTypes", "(LLanguageTags$Form;I)V"⟩
abbrev c_Reader_addPrivate : ByteArray := prog_7_method_12_code
abbrev y_Reader_addPrivate : MethodName := ⟨RC_Reader, "addPrivate", "(LLanguageTags$Form;)V"⟩
abbrev c_Subtag_isLetter : ByteArray := prog_8_method_2_code
abbrev y_Subtag_isLetter : MethodName := ⟨RC_Subtag, "isLetter", "(C)Z"⟩
abbrev c_Subtag_isDigit : ByteArray := prog_8_method_3_code
abbrev y_Subtag_isDigit : MethodName := ⟨RC_Subtag, "isDigit", "(C)Z"⟩
abbrev c_Subtag_isCut : ByteArray := prog_8_method_4_code
abbrev y_Subtag_isCut : MethodName := ⟨RC_Subtag, "isCut", "(C)Z"⟩
abbrev c_Subtag_cutOut : ByteArray := prog_8_method_5_code
abbrev y_Subtag_cutOut : MethodName := ⟨RC_Subtag, "cutOut", "(LLanguageTags$Text;II)J"⟩
abbrev c_Subtag_at : ByteArray := prog_8_method_6_code
abbrev y_Subtag_at : MethodName := ⟨RC_Subtag, "at", "(JI)C"⟩
abbrev c_Subtag_lengthOf : ByteArray := prog_8_method_7_code
abbrev y_Subtag_lengthOf : MethodName := ⟨RC_Subtag, "lengthOf", "(J)I"⟩
abbrev c_Subtag_isLanguage : ByteArray := prog_8_method_8_code
abbrev y_Subtag_isLanguage : MethodName := ⟨RC_Subtag, "isLanguage", "(J)Z"⟩
abbrev c_Subtag_isScript : ByteArray := prog_8_method_9_code
abbrev y_Subtag_isScript : MethodName := ⟨RC_Subtag, "isScript", "(J)Z"⟩
abbrev c_Subtag_isRegion : ByteArray := prog_8_method_10_code
abbrev y_Subtag_isRegion : MethodName := ⟨RC_Subtag, "isRegion", "(J)Z"⟩
abbrev c_Subtag_isVariant : ByteArray := prog_8_method_11_code
abbrev y_Subtag_isVariant : MethodName := ⟨RC_Subtag, "isVariant", "(J)Z"⟩
abbrev c_Subtag_isKey : ByteArray := prog_8_method_12_code
abbrev y_Subtag_isKey : MethodName := ⟨RC_Subtag, "isKey", "(J)Z"⟩
abbrev c_Subtag_isType : ByteArray := prog_8_method_13_code
abbrev y_Subtag_isType : MethodName := ⟨RC_Subtag, "isType", "(J)Z"⟩
abbrev c_Subtag_titled : ByteArray := prog_8_method_14_code
abbrev y_Subtag_titled : MethodName := ⟨RC_Subtag, "titled", "(J)J"⟩
abbrev c_Subtag_capitals : ByteArray := prog_8_method_15_code
abbrev y_Subtag_capitals : MethodName := ⟨RC_Subtag, "capitals", "(J)J"⟩
abbrev c_Subtag_letters : ByteArray := prog_8_method_16_code
abbrev y_Subtag_letters : MethodName := ⟨RC_Subtag, "letters", "(J)I"⟩
abbrev c_Tag_init : ByteArray := prog_9_method_1_code
abbrev y_Tag_init : MethodName := ⟨RC_Tag, "<init>", "()V"⟩
abbrev c_Tag_give : ByteArray := prog_9_method_2_code
abbrev y_Tag_give : MethodName := ⟨RC_Tag, "give", "(II)V"⟩
abbrev c_Tag_hasValue : ByteArray := prog_9_method_3_code
abbrev y_Tag_hasValue : MethodName := ⟨RC_Tag, "hasValue", "(I)Z"⟩
abbrev c_Tag_valueOf : ByteArray := prog_9_method_4_code
abbrev y_Tag_valueOf : MethodName := ⟨RC_Tag, "valueOf", "(I)I"⟩
abbrev c_Text_init : ByteArray := prog_10_method_1_code
abbrev y_Text_init : MethodName := ⟨RC_Text, "<init>", "(I)V"⟩
abbrev c_Text_length : ByteArray := prog_10_method_2_code
abbrev y_Text_length : MethodName := ⟨RC_Text, "length", "()I"⟩
abbrev c_Text_isFull : ByteArray := prog_10_method_3_code
abbrev y_Text_isFull : MethodName := ⟨RC_Text, "isFull", "()Z"⟩
abbrev c_Text_clear : ByteArray := prog_10_method_4_code
abbrev y_Text_clear : MethodName := ⟨RC_Text, "clear", "()V"⟩
abbrev c_Text_append : ByteArray := prog_10_method_5_code
abbrev y_Text_append : MethodName := ⟨RC_Text, "append", "(C)V"⟩
abbrev c_Text_appendSubtag : ByteArray := prog_10_method_6_code
abbrev y_Text_appendSubtag : MethodName := ⟨RC_Text, "appendSubtag", "(J)V"⟩
abbrev c_Text_at : ByteArray := prog_10_method_7_code
abbrev y_Text_at : MethodName := ⟨RC_Text, "at", "(I)C"⟩
abbrev c_Text_placeOf : ByteArray := prog_10_method_8_code
abbrev y_Text_placeOf : MethodName := ⟨RC_Text, "placeOf", "(C)I"⟩
abbrev c_Law_law : ByteArray := code
theorem sl_LT_formsAreFixed : Cond.selects RC_LT y_LT_formsAreFixed y_LT_formsAreFixed ∈ im_T := im_memS (i := 0) (q := (y_LT_formsAreFixed, 16)) (by decide +kernel)
theorem sl_Reader_roleOf : Cond.selects RC_Reader y_Reader_roleOf y_Reader_roleOf ∈ im_T := im_memS (i := 1) (q := (y_Reader_roleOf, 3)) (by decide +kernel)
theorem sl_Reader_roleInExtension : Cond.selects RC_Reader y_Reader_roleInExtension y_Reader_roleInExtension ∈ im_T := im_memS (i := 2) (q := (y_Reader_roleInExtension, 3)) (by decide +kernel)
theorem sl_Reader_isThere : Cond.selects RC_Reader y_Reader_isThere y_Reader_isThere ∈ im_T := im_memS (i := 3) (q := (y_Reader_isThere, 3)) (by decide +kernel)
theorem sl_Reader_roleInFront : Cond.selects RC_Reader y_Reader_roleInFront y_Reader_roleInFront ∈ im_T := im_memS (i := 4) (q := (y_Reader_roleInFront, 3)) (by decide +kernel)
theorem sl_Reader_partWith : Cond.selects RC_Reader y_Reader_partWith y_Reader_partWith ∈ im_T := im_memS (i := 5) (q := (y_Reader_partWith, 3)) (by decide +kernel)
theorem sl_Reader_addInOrder : Cond.selects RC_Reader y_Reader_addInOrder y_Reader_addInOrder ∈ im_T := im_memS (i := 6) (q := (y_Reader_addInOrder, 3)) (by decide +kernel)
theorem sl_Reader_leastAbove : Cond.selects RC_Reader y_Reader_leastAbove y_Reader_leastAbove ∈ im_T := im_memS (i := 7) (q := (y_Reader_leastAbove, 3)) (by decide +kernel)
theorem sl_Reader_addTypes : Cond.selects RC_Reader y_Reader_addTypes y_Reader_addTypes ∈ im_T := im_memS (i := 8) (q := (y_Reader_addTypes, 3)) (by decide +kernel)
theorem sl_Reader_addPrivate : Cond.selects RC_Reader y_Reader_addPrivate y_Reader_addPrivate ∈ im_T := im_memS (i := 9) (q := (y_Reader_addPrivate, 3)) (by decide +kernel)
theorem sl_LT_tagWithForm : Cond.selects RC_LT y_LT_tagWithForm y_LT_tagWithForm ∈ im_T := im_memS (i := 10) (q := (y_LT_tagWithForm, 16)) (by decide +kernel)
theorem sl_LT_readPlain : Cond.selects RC_LT y_LT_readPlain y_LT_readPlain ∈ im_T := im_memS (i := 11) (q := (y_LT_readPlain, 16)) (by decide +kernel)
theorem sl_LT_isTag : Cond.selects RC_LT y_LT_isTag y_LT_isTag ∈ im_T := im_memS (i := 12) (q := (y_LT_isTag, 16)) (by decide +kernel)
theorem sl_Likely_sourceFor : Cond.selects RC_Likely y_Likely_sourceFor y_Likely_sourceFor ∈ im_T := im_memS (i := 13) (q := (y_Likely_sourceFor, 4)) (by decide +kernel)
theorem sl_Likely_isEnough : Cond.selects RC_Likely y_Likely_isEnough y_Likely_isEnough ∈ im_T := im_memS (i := 14) (q := (y_Likely_isEnough, 4)) (by decide +kernel)
theorem sl_LT_distanceOf : Cond.selects RC_LT y_LT_distanceOf y_LT_distanceOf ∈ im_T := im_memS (i := 15) (q := (y_LT_distanceOf, 16)) (by decide +kernel)
theorem sl_Model_letter : Cond.selects RC_Model y_Model_letter y_Model_letter ∈ im_T := im_memS (i := 16) (q := (y_Model_letter, 44)) (by decide +kernel)
theorem sl_Model_small : Cond.selects RC_Model y_Model_small y_Model_small ∈ im_T := im_memS (i := 17) (q := (y_Model_small, 44)) (by decide +kernel)
theorem sl_Model_digit : Cond.selects RC_Model y_Model_digit y_Model_digit ∈ im_T := im_memS (i := 18) (q := (y_Model_digit, 44)) (by decide +kernel)
theorem sl_Model_equalSign : Cond.selects RC_Model y_Model_equalSign y_Model_equalSign ∈ im_T := im_memS (i := 19) (q := (y_Model_equalSign, 44)) (by decide +kernel)
theorem sl_Model_isRegion : Cond.selects RC_Model y_Model_isRegion y_Model_isRegion ∈ im_T := im_memS (i := 20) (q := (y_Model_isRegion, 44)) (by decide +kernel)
theorem sl_Model_allLetters : Cond.selects RC_Model y_Model_allLetters y_Model_allLetters ∈ im_T := im_memS (i := 21) (q := (y_Model_allLetters, 44)) (by decide +kernel)
theorem sl_Model_allDigits : Cond.selects RC_Model y_Model_allDigits y_Model_allDigits ∈ im_T := im_memS (i := 22) (q := (y_Model_allDigits, 44)) (by decide +kernel)
theorem sl_Model_isLanguage : Cond.selects RC_Model y_Model_isLanguage y_Model_isLanguage ∈ im_T := im_memS (i := 23) (q := (y_Model_isLanguage, 44)) (by decide +kernel)
theorem sl_Model_same : Cond.selects RC_Model y_Model_same y_Model_same ∈ im_T := im_memS (i := 24) (q := (y_Model_same, 44)) (by decide +kernel)
theorem sl_Model_number : Cond.selects RC_Model y_Model_number y_Model_number ∈ im_T := im_memS (i := 25) (q := (y_Model_number, 44)) (by decide +kernel)
theorem sl_Model_replaced : Cond.selects RC_Model y_Model_replaced y_Model_replaced ∈ im_T := im_memS (i := 26) (q := (y_Model_replaced, 44)) (by decide +kernel)
theorem sl_Model_parse : Cond.selects RC_Model y_Model_parse y_Model_parse ∈ im_T := im_memS (i := 27) (q := (y_Model_parse, 44)) (by decide +kernel)
theorem sl_Model_stand : Cond.selects RC_Model y_Model_stand y_Model_stand ∈ im_T := im_memS (i := 28) (q := (y_Model_stand, 44)) (by decide +kernel)
theorem sl_Model_allBoth : Cond.selects RC_Model y_Model_allBoth y_Model_allBoth ∈ im_T := im_memS (i := 29) (q := (y_Model_allBoth, 44)) (by decide +kernel)
theorem sl_Model_isOne : Cond.selects RC_Model y_Model_isOne y_Model_isOne ∈ im_T := im_memS (i := 30) (q := (y_Model_isOne, 44)) (by decide +kernel)
theorem sl_Model_standVariant : Cond.selects RC_Model y_Model_standVariant y_Model_standVariant ∈ im_T := im_memS (i := 31) (q := (y_Model_standVariant, 44)) (by decide +kernel)
theorem sl_Model_isVariant : Cond.selects RC_Model y_Model_isVariant y_Model_isVariant ∈ im_T := im_memS (i := 32) (q := (y_Model_isVariant, 44)) (by decide +kernel)
theorem sl_Model_standKeyword : Cond.selects RC_Model y_Model_standKeyword y_Model_standKeyword ∈ im_T := im_memS (i := 33) (q := (y_Model_standKeyword, 44)) (by decide +kernel)
theorem sl_Model_isKey : Cond.selects RC_Model y_Model_isKey y_Model_isKey ∈ im_T := im_memS (i := 34) (q := (y_Model_isKey, 44)) (by decide +kernel)
theorem sl_Model_makeForm : Cond.selects RC_Model y_Model_makeForm y_Model_makeForm ∈ im_T := im_memS (i := 35) (q := (y_Model_makeForm, 44)) (by decide +kernel)
theorem sl_Model_putShort : Cond.selects RC_Model y_Model_putShort y_Model_putShort ∈ im_T := im_memS (i := 36) (q := (y_Model_putShort, 44)) (by decide +kernel)
theorem sl_Model_putNumber : Cond.selects RC_Model y_Model_putNumber y_Model_putNumber ∈ im_T := im_memS (i := 37) (q := (y_Model_putNumber, 44)) (by decide +kernel)
theorem sl_Model_character : Cond.selects RC_Model y_Model_character y_Model_character ∈ im_T := im_memS (i := 38) (q := (y_Model_character, 44)) (by decide +kernel)
theorem sl_Model_capital : Cond.selects RC_Model y_Model_capital y_Model_capital ∈ im_T := im_memS (i := 39) (q := (y_Model_capital, 44)) (by decide +kernel)
theorem sl_Model_putChar : Cond.selects RC_Model y_Model_putChar y_Model_putChar ∈ im_T := im_memS (i := 40) (q := (y_Model_putChar, 44)) (by decide +kernel)
theorem sl_Model_before : Cond.selects RC_Model y_Model_before y_Model_before ∈ im_T := im_memS (i := 41) (q := (y_Model_before, 44)) (by decide +kernel)
theorem sl_Model_putTyped : Cond.selects RC_Model y_Model_putTyped y_Model_putTyped ∈ im_T := im_memS (i := 42) (q := (y_Model_putTyped, 44)) (by decide +kernel)
theorem sl_Model_makeKeywords : Cond.selects RC_Model y_Model_makeKeywords y_Model_makeKeywords ∈ im_T := im_memS (i := 43) (q := (y_Model_makeKeywords, 44)) (by decide +kernel)
theorem sl_Model_find : Cond.selects RC_Model y_Model_find y_Model_find ∈ im_T := im_memS (i := 44) (q := (y_Model_find, 44)) (by decide +kernel)
theorem sl_Model_plain : Cond.selects RC_Model y_Model_plain y_Model_plain ∈ im_T := im_memS (i := 45) (q := (y_Model_plain, 44)) (by decide +kernel)
theorem sl_Model_leads : Cond.selects RC_Model y_Model_leads y_Model_leads ∈ im_T := im_memS (i := 46) (q := (y_Model_leads, 44)) (by decide +kernel)
theorem sl_Model_none : Cond.selects RC_Model y_Model_none y_Model_none ∈ im_T := im_memS (i := 47) (q := (y_Model_none, 44)) (by decide +kernel)
theorem sl_Model_maximise : Cond.selects RC_Model y_Model_maximise y_Model_maximise ∈ im_T := im_memS (i := 48) (q := (y_Model_maximise, 44)) (by decide +kernel)
theorem sl_Model_und : Cond.selects RC_Model y_Model_und y_Model_und ∈ im_T := im_memS (i := 49) (q := (y_Model_und, 44)) (by decide +kernel)
theorem sl_Model_putMinimised : Cond.selects RC_Model y_Model_putMinimised y_Model_putMinimised ∈ im_T := im_memS (i := 50) (q := (y_Model_putMinimised, 44)) (by decide +kernel)
theorem sl_Model_gives : Cond.selects RC_Model y_Model_gives y_Model_gives ∈ im_T := im_memS (i := 51) (q := (y_Model_gives, 44)) (by decide +kernel)
theorem sl_Model_isSupported : Cond.selects RC_Model y_Model_isSupported y_Model_isSupported ∈ im_T := im_memS (i := 52) (q := (y_Model_isSupported, 44)) (by decide +kernel)
theorem sl_Model_subtagEnd : Cond.selects RC_Model y_Model_subtagEnd y_Model_subtagEnd ∈ im_T := im_memS (i := 53) (q := (y_Model_subtagEnd, 44)) (by decide +kernel)
theorem sl_Model_startCut : Cond.selects RC_Model y_Model_startCut y_Model_startCut ∈ im_T := im_memS (i := 54) (q := (y_Model_startCut, 44)) (by decide +kernel)
theorem sl_Model_cutTag : Cond.selects RC_Model y_Model_cutTag y_Model_cutTag ∈ im_T := im_memS (i := 55) (q := (y_Model_cutTag, 44)) (by decide +kernel)
theorem sl_Model_truncate : Cond.selects RC_Model y_Model_truncate y_Model_truncate ∈ im_T := im_memS (i := 56) (q := (y_Model_truncate, 44)) (by decide +kernel)
theorem sl_Model_dropLast : Cond.selects RC_Model y_Model_dropLast y_Model_dropLast ∈ im_T := im_memS (i := 57) (q := (y_Model_dropLast, 44)) (by decide +kernel)
theorem sl_Model_goOn : Cond.selects RC_Model y_Model_goOn y_Model_goOn ∈ im_T := im_memS (i := 58) (q := (y_Model_goOn, 44)) (by decide +kernel)

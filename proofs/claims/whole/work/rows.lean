section
-- ===== PART A: goes FIRST, ahead of the names: the tables' words, and 'selects' of the private methods out of them =====
/-- a private method of a class that the tables say can be made, by its rows of tables_1 -/
def lw_okq (q : MethodName × Nat) : Prop := (q.1.cls ≠ "java/lang/invoke/MethodHandle" ∧ q.1.cls ≠ "java/lang/invoke/VarHandle") ∧ Cond.instantiable q.1.cls q.2 ∈ tables_1 ∧ Cond.privateMethod q.1 ∈ tables_1 ∧ Cond.instanceMethod q.1 ∈ tables_1
theorem lw_p0 : lw_okq (⟨"PhraseMoods$FrameReader", "skipBlanks", "(LPhraseMoods$Letters;)V"⟩, 2) := ⟨⟨by decide +kernel, by decide +kernel⟩, List.mem_of_getElem? (i := 190) (by decide +kernel), List.mem_of_getElem? (i := 434) (by decide +kernel), List.mem_of_getElem? (i := 435) (by decide +kernel)⟩
theorem lw_p1 : lw_okq (⟨"PhraseMoods$FrameReader", "readHole", "(LPhraseMoods$Book;LPhraseMoods$Letters;)Z"⟩, 2) := ⟨⟨by decide +kernel, by decide +kernel⟩, List.mem_of_getElem? (i := 190) (by decide +kernel), List.mem_of_getElem? (i := 439) (by decide +kernel), List.mem_of_getElem? (i := 440) (by decide +kernel)⟩
theorem lw_p2 : lw_okq (⟨"PhraseMoods$FrameReader", "readPlain", "(LPhraseMoods$Book;LPhraseMoods$Letters;)Z"⟩, 2) := ⟨⟨by decide +kernel, by decide +kernel⟩, List.mem_of_getElem? (i := 190) (by decide +kernel), List.mem_of_getElem? (i := 446) (by decide +kernel), List.mem_of_getElem? (i := 447) (by decide +kernel)⟩
theorem lw_p3 : lw_okq (⟨"PhraseMoods$FrameReader", "readGrouped", "(ILPhraseMoods$Letters;)Z"⟩, 2) := ⟨⟨by decide +kernel, by decide +kernel⟩, List.mem_of_getElem? (i := 190) (by decide +kernel), List.mem_of_getElem? (i := 463) (by decide +kernel), List.mem_of_getElem? (i := 464) (by decide +kernel)⟩
theorem lw_p4 : lw_okq (⟨"PhraseMoods", "sayDesk", "()Z"⟩, 11) := ⟨⟨by decide +kernel, by decide +kernel⟩, List.mem_of_getElem? (i := 20) (by decide +kernel), List.mem_of_getElem? (i := 597) (by decide +kernel), List.mem_of_getElem? (i := 598) (by decide +kernel)⟩
theorem lw_p5 : lw_okq (⟨"PhraseMoods$Speaker", "addSpelled", "()V"⟩, 4) := ⟨⟨by decide +kernel, by decide +kernel⟩, List.mem_of_getElem? (i := 206) (by decide +kernel), List.mem_of_getElem? (i := 617) (by decide +kernel), List.mem_of_getElem? (i := 618) (by decide +kernel)⟩
theorem lw_p6 : lw_okq (⟨"PhraseMoods$Reader", "split", "(LPhraseMoods$Letters;)V"⟩, 10) := ⟨⟨by decide +kernel, by decide +kernel⟩, List.mem_of_getElem? (i := 245) (by decide +kernel), List.mem_of_getElem? (i := 661) (by decide +kernel), List.mem_of_getElem? (i := 662) (by decide +kernel)⟩
theorem lw_p7 : lw_okq (⟨"PhraseMoods$Reader", "waysOfFrame", "(LPhraseMoods$Book;LPhraseMoods$Letters;LPhraseMoods$Frame;I)I"⟩, 10) := ⟨⟨by decide +kernel, by decide +kernel⟩, List.mem_of_getElem? (i := 245) (by decide +kernel), List.mem_of_getElem? (i := 667) (by decide +kernel), List.mem_of_getElem? (i := 668) (by decide +kernel)⟩
theorem lw_p8 : lw_okq (⟨"PhraseMoods$Reader", "waysOfHole", "(LPhraseMoods$Book;LPhraseMoods$Letters;LPhraseMoods$Frame;II)I"⟩, 10) := ⟨⟨by decide +kernel, by decide +kernel⟩, List.mem_of_getElem? (i := 245) (by decide +kernel), List.mem_of_getElem? (i := 672) (by decide +kernel), List.mem_of_getElem? (i := 673) (by decide +kernel)⟩
theorem lw_p9 : lw_okq (⟨"PhraseMoods$Reader", "isSpelledAt", "(LPhraseMoods$Letters;I)Z"⟩, 10) := ⟨⟨by decide +kernel, by decide +kernel⟩, List.mem_of_getElem? (i := 245) (by decide +kernel), List.mem_of_getElem? (i := 685) (by decide +kernel), List.mem_of_getElem? (i := 686) (by decide +kernel)⟩
theorem lw_p10 : lw_okq (⟨"PhraseMoods$Reader", "lengthOf", "(I)I"⟩, 10) := ⟨⟨by decide +kernel, by decide +kernel⟩, List.mem_of_getElem? (i := 245) (by decide +kernel), List.mem_of_getElem? (i := 689) (by decide +kernel), List.mem_of_getElem? (i := 690) (by decide +kernel)⟩
theorem lw_p11 : lw_okq (⟨"PhraseMoods$Reader", "startOf", "(I)I"⟩, 10) := ⟨⟨by decide +kernel, by decide +kernel⟩, List.mem_of_getElem? (i := 245) (by decide +kernel), List.mem_of_getElem? (i := 694) (by decide +kernel), List.mem_of_getElem? (i := 695) (by decide +kernel)⟩
theorem lw_p12 : lw_okq (⟨"PhraseMoods$Reader", "waysOfGroup", "(LPhraseMoods$Book;LPhraseMoods$Letters;LPhraseMoods$Frame;II)I"⟩, 10) := ⟨⟨by decide +kernel, by decide +kernel⟩, List.mem_of_getElem? (i := 245) (by decide +kernel), List.mem_of_getElem? (i := 699) (by decide +kernel), List.mem_of_getElem? (i := 700) (by decide +kernel)⟩
theorem lw_p13 : lw_okq (⟨"PhraseMoods$Reader", "farnessOfFrame", "(LPhraseMoods$Book;LPhraseMoods$Letters;LPhraseMoods$Frame;I)I"⟩, 10) := ⟨⟨by decide +kernel, by decide +kernel⟩, List.mem_of_getElem? (i := 245) (by decide +kernel), List.mem_of_getElem? (i := 712) (by decide +kernel), List.mem_of_getElem? (i := 713) (by decide +kernel)⟩
theorem lw_p14 : lw_okq (⟨"PhraseMoods$Reader", "farnessOfHole", "(LPhraseMoods$Book;LPhraseMoods$Letters;LPhraseMoods$Frame;II)I"⟩, 10) := ⟨⟨by decide +kernel, by decide +kernel⟩, List.mem_of_getElem? (i := 245) (by decide +kernel), List.mem_of_getElem? (i := 716) (by decide +kernel), List.mem_of_getElem? (i := 717) (by decide +kernel)⟩
theorem lw_p15 : lw_okq (⟨"PhraseMoods$Reader", "apartFrom", "(LPhraseMoods$Letters;I)I"⟩, 10) := ⟨⟨by decide +kernel, by decide +kernel⟩, List.mem_of_getElem? (i := 245) (by decide +kernel), List.mem_of_getElem? (i := 720) (by decide +kernel), List.mem_of_getElem? (i := 721) (by decide +kernel)⟩
def lw_privs_1 : List (MethodName × Nat) := [(⟨"PhraseMoods$FrameReader", "skipBlanks", "(LPhraseMoods$Letters;)V"⟩, 2), (⟨"PhraseMoods$FrameReader", "readHole", "(LPhraseMoods$Book;LPhraseMoods$Letters;)Z"⟩, 2), (⟨"PhraseMoods$FrameReader", "readPlain", "(LPhraseMoods$Book;LPhraseMoods$Letters;)Z"⟩, 2), (⟨"PhraseMoods$FrameReader", "readGrouped", "(ILPhraseMoods$Letters;)Z"⟩, 2), (⟨"PhraseMoods", "sayDesk", "()Z"⟩, 11), (⟨"PhraseMoods$Speaker", "addSpelled", "()V"⟩, 4), (⟨"PhraseMoods$Reader", "split", "(LPhraseMoods$Letters;)V"⟩, 10), (⟨"PhraseMoods$Reader", "waysOfFrame", "(LPhraseMoods$Book;LPhraseMoods$Letters;LPhraseMoods$Frame;I)I"⟩, 10), (⟨"PhraseMoods$Reader", "waysOfHole", "(LPhraseMoods$Book;LPhraseMoods$Letters;LPhraseMoods$Frame;II)I"⟩, 10), (⟨"PhraseMoods$Reader", "isSpelledAt", "(LPhraseMoods$Letters;I)Z"⟩, 10), (⟨"PhraseMoods$Reader", "lengthOf", "(I)I"⟩, 10), (⟨"PhraseMoods$Reader", "startOf", "(I)I"⟩, 10), (⟨"PhraseMoods$Reader", "waysOfGroup", "(LPhraseMoods$Book;LPhraseMoods$Letters;LPhraseMoods$Frame;II)I"⟩, 10), (⟨"PhraseMoods$Reader", "farnessOfFrame", "(LPhraseMoods$Book;LPhraseMoods$Letters;LPhraseMoods$Frame;I)I"⟩, 10), (⟨"PhraseMoods$Reader", "farnessOfHole", "(LPhraseMoods$Book;LPhraseMoods$Letters;LPhraseMoods$Frame;II)I"⟩, 10), (⟨"PhraseMoods$Reader", "apartFrom", "(LPhraseMoods$Letters;I)I"⟩, 10)]
theorem lw_r1 : ∀ q ∈ lw_privs_1, lw_okq q := List.forall_mem_cons.mpr ⟨lw_p0, List.forall_mem_cons.mpr ⟨lw_p1, List.forall_mem_cons.mpr ⟨lw_p2, List.forall_mem_cons.mpr ⟨lw_p3, List.forall_mem_cons.mpr ⟨lw_p4, List.forall_mem_cons.mpr ⟨lw_p5, List.forall_mem_cons.mpr ⟨lw_p6, List.forall_mem_cons.mpr ⟨lw_p7, List.forall_mem_cons.mpr ⟨lw_p8, List.forall_mem_cons.mpr ⟨lw_p9, List.forall_mem_cons.mpr ⟨lw_p10, List.forall_mem_cons.mpr ⟨lw_p11, List.forall_mem_cons.mpr ⟨lw_p12, List.forall_mem_cons.mpr ⟨lw_p13, List.forall_mem_cons.mpr ⟨lw_p14, List.forall_mem_cons.mpr ⟨lw_p15, fun _ h => absurd h List.not_mem_nil⟩⟩⟩⟩⟩⟩⟩⟩⟩⟩⟩⟩⟩⟩⟩⟩
theorem lw_p16 : lw_okq (⟨"PhraseMoods$Reader", "farnessOfGroup", "(LPhraseMoods$Book;LPhraseMoods$Letters;LPhraseMoods$Frame;II)I"⟩, 10) := ⟨⟨by decide +kernel, by decide +kernel⟩, List.mem_of_getElem? (i := 245) (by decide +kernel), List.mem_of_getElem? (i := 725) (by decide +kernel), List.mem_of_getElem? (i := 726) (by decide +kernel)⟩
theorem lw_p17 : lw_okq (⟨"PhraseMoods", "sayDrawn", "(I)Z"⟩, 11) := ⟨⟨by decide +kernel, by decide +kernel⟩, List.mem_of_getElem? (i := 20) (by decide +kernel), List.mem_of_getElem? (i := 733) (by decide +kernel), List.mem_of_getElem? (i := 734) (by decide +kernel)⟩
theorem lw_p18 : lw_okq (⟨"PhraseMoods$Drawer", "next", "(I)I"⟩, 2) := ⟨⟨by decide +kernel, by decide +kernel⟩, List.mem_of_getElem? (i := 229) (by decide +kernel), List.mem_of_getElem? (i := 741) (by decide +kernel), List.mem_of_getElem? (i := 742) (by decide +kernel)⟩
theorem lw_p19 : lw_okq (⟨"PhraseMoods", "trayAt", "(I)LPhraseMoods$Tray;"⟩, 11) := ⟨⟨by decide +kernel, by decide +kernel⟩, List.mem_of_getElem? (i := 20) (by decide +kernel), List.mem_of_getElem? (i := 763) (by decide +kernel), List.mem_of_getElem? (i := 764) (by decide +kernel)⟩
theorem lw_p20 : lw_okq (⟨"PhraseMoods", "sheetAt", "(I)LPhraseMoods$Sheet;"⟩, 11) := ⟨⟨by decide +kernel, by decide +kernel⟩, List.mem_of_getElem? (i := 20) (by decide +kernel), List.mem_of_getElem? (i := 810) (by decide +kernel), List.mem_of_getElem? (i := 811) (by decide +kernel)⟩
theorem lw_p21 : lw_okq (⟨"PhraseMoods", "firstOtherwise", "(LPhraseMoods$Sheet;)I"⟩, 11) := ⟨⟨by decide +kernel, by decide +kernel⟩, List.mem_of_getElem? (i := 20) (by decide +kernel), List.mem_of_getElem? (i := 818) (by decide +kernel), List.mem_of_getElem? (i := 819) (by decide +kernel)⟩
theorem lw_p22 : lw_okq (⟨"PhraseMoods", "moodsTold", "(LPhraseMoods$Sheet;)I"⟩, 11) := ⟨⟨by decide +kernel, by decide +kernel⟩, List.mem_of_getElem? (i := 20) (by decide +kernel), List.mem_of_getElem? (i := 836) (by decide +kernel), List.mem_of_getElem? (i := 837) (by decide +kernel)⟩
theorem lw_p23 : lw_okq (⟨"PhraseMoods", "numbersTold", "(LPhraseMoods$Sheet;)I"⟩, 11) := ⟨⟨by decide +kernel, by decide +kernel⟩, List.mem_of_getElem? (i := 20) (by decide +kernel), List.mem_of_getElem? (i := 840) (by decide +kernel), List.mem_of_getElem? (i := 841) (by decide +kernel)⟩
theorem lw_p24 : lw_okq (⟨"PhraseMoodsModel", "letters", "(II)I"⟩, 28) := ⟨⟨by decide +kernel, by decide +kernel⟩, List.mem_of_getElem? (i := 897) (by decide +kernel), List.mem_of_getElem? (i := 999) (by decide +kernel), List.mem_of_getElem? (i := 1000) (by decide +kernel)⟩
theorem lw_p25 : lw_okq (⟨"PhraseMoodsModel", "isWord", "(I)Z"⟩, 28) := ⟨⟨by decide +kernel, by decide +kernel⟩, List.mem_of_getElem? (i := 897) (by decide +kernel), List.mem_of_getElem? (i := 1014) (by decide +kernel), List.mem_of_getElem? (i := 1015) (by decide +kernel)⟩
theorem lw_p26 : lw_okq (⟨"PhraseMoodsModel", "kind", "(I)I"⟩, 28) := ⟨⟨by decide +kernel, by decide +kernel⟩, List.mem_of_getElem? (i := 897) (by decide +kernel), List.mem_of_getElem? (i := 1022) (by decide +kernel), List.mem_of_getElem? (i := 1023) (by decide +kernel)⟩
theorem lw_p27 : lw_okq (⟨"PhraseMoodsModel", "gender", "(I)I"⟩, 28) := ⟨⟨by decide +kernel, by decide +kernel⟩, List.mem_of_getElem? (i := 897) (by decide +kernel), List.mem_of_getElem? (i := 1032) (by decide +kernel), List.mem_of_getElem? (i := 1033) (by decide +kernel)⟩
theorem lw_p28 : lw_okq (⟨"PhraseMoodsModel", "forms", "(IIIII)V"⟩, 28) := ⟨⟨by decide +kernel, by decide +kernel⟩, List.mem_of_getElem? (i := 897) (by decide +kernel), List.mem_of_getElem? (i := 1036) (by decide +kernel), List.mem_of_getElem? (i := 1037) (by decide +kernel)⟩
theorem lw_p29 : lw_okq (⟨"PhraseMoodsModel", "joins", "(IZ)V"⟩, 28) := ⟨⟨by decide +kernel, by decide +kernel⟩, List.mem_of_getElem? (i := 897) (by decide +kernel), List.mem_of_getElem? (i := 1040) (by decide +kernel), List.mem_of_getElem? (i := 1041) (by decide +kernel)⟩
theorem lw_p30 : lw_okq (⟨"PhraseMoodsModel", "ends", "(I)V"⟩, 28) := ⟨⟨by decide +kernel, by decide +kernel⟩, List.mem_of_getElem? (i := 897) (by decide +kernel), List.mem_of_getElem? (i := 1047) (by decide +kernel), List.mem_of_getElem? (i := 1048) (by decide +kernel)⟩
theorem lw_p31 : lw_okq (⟨"PhraseMoodsModel", "readsFrame", "(I)V"⟩, 28) := ⟨⟨by decide +kernel, by decide +kernel⟩, List.mem_of_getElem? (i := 897) (by decide +kernel), List.mem_of_getElem? (i := 1060) (by decide +kernel), List.mem_of_getElem? (i := 1061) (by decide +kernel)⟩
def lw_privs_2 : List (MethodName × Nat) := [(⟨"PhraseMoods$Reader", "farnessOfGroup", "(LPhraseMoods$Book;LPhraseMoods$Letters;LPhraseMoods$Frame;II)I"⟩, 10), (⟨"PhraseMoods", "sayDrawn", "(I)Z"⟩, 11), (⟨"PhraseMoods$Drawer", "next", "(I)I"⟩, 2), (⟨"PhraseMoods", "trayAt", "(I)LPhraseMoods$Tray;"⟩, 11), (⟨"PhraseMoods", "sheetAt", "(I)LPhraseMoods$Sheet;"⟩, 11), (⟨"PhraseMoods", "firstOtherwise", "(LPhraseMoods$Sheet;)I"⟩, 11), (⟨"PhraseMoods", "moodsTold", "(LPhraseMoods$Sheet;)I"⟩, 11), (⟨"PhraseMoods", "numbersTold", "(LPhraseMoods$Sheet;)I"⟩, 11), (⟨"PhraseMoodsModel", "letters", "(II)I"⟩, 28), (⟨"PhraseMoodsModel", "isWord", "(I)Z"⟩, 28), (⟨"PhraseMoodsModel", "kind", "(I)I"⟩, 28), (⟨"PhraseMoodsModel", "gender", "(I)I"⟩, 28), (⟨"PhraseMoodsModel", "forms", "(IIIII)V"⟩, 28), (⟨"PhraseMoodsModel", "joins", "(IZ)V"⟩, 28), (⟨"PhraseMoodsModel", "ends", "(I)V"⟩, 28), (⟨"PhraseMoodsModel", "readsFrame", "(I)V"⟩, 28)]
theorem lw_r2 : ∀ q ∈ lw_privs_2, lw_okq q := List.forall_mem_cons.mpr ⟨lw_p16, List.forall_mem_cons.mpr ⟨lw_p17, List.forall_mem_cons.mpr ⟨lw_p18, List.forall_mem_cons.mpr ⟨lw_p19, List.forall_mem_cons.mpr ⟨lw_p20, List.forall_mem_cons.mpr ⟨lw_p21, List.forall_mem_cons.mpr ⟨lw_p22, List.forall_mem_cons.mpr ⟨lw_p23, List.forall_mem_cons.mpr ⟨lw_p24, List.forall_mem_cons.mpr ⟨lw_p25, List.forall_mem_cons.mpr ⟨lw_p26, List.forall_mem_cons.mpr ⟨lw_p27, List.forall_mem_cons.mpr ⟨lw_p28, List.forall_mem_cons.mpr ⟨lw_p29, List.forall_mem_cons.mpr ⟨lw_p30, List.forall_mem_cons.mpr ⟨lw_p31, fun _ h => absurd h List.not_mem_nil⟩⟩⟩⟩⟩⟩⟩⟩⟩⟩⟩⟩⟩⟩⟩⟩
theorem lw_p32 : lw_okq (⟨"PhraseMoodsModel", "here", "(I)I"⟩, 28) := ⟨⟨by decide +kernel, by decide +kernel⟩, List.mem_of_getElem? (i := 897) (by decide +kernel), List.mem_of_getElem? (i := 1064) (by decide +kernel), List.mem_of_getElem? (i := 1065) (by decide +kernel)⟩
theorem lw_p33 : lw_okq (⟨"PhraseMoodsModel", "reads", "(III)V"⟩, 28) := ⟨⟨by decide +kernel, by decide +kernel⟩, List.mem_of_getElem? (i := 897) (by decide +kernel), List.mem_of_getElem? (i := 1071) (by decide +kernel), List.mem_of_getElem? (i := 1072) (by decide +kernel)⟩
theorem lw_p34 : lw_okq (⟨"PhraseMoodsModel", "isDigit", "(II)Z"⟩, 28) := ⟨⟨by decide +kernel, by decide +kernel⟩, List.mem_of_getElem? (i := 897) (by decide +kernel), List.mem_of_getElem? (i := 1075) (by decide +kernel), List.mem_of_getElem? (i := 1076) (by decide +kernel)⟩
theorem lw_p35 : lw_okq (⟨"PhraseMoodsModel", "readsWord", "(I)V"⟩, 28) := ⟨⟨by decide +kernel, by decide +kernel⟩, List.mem_of_getElem? (i := 897) (by decide +kernel), List.mem_of_getElem? (i := 1079) (by decide +kernel), List.mem_of_getElem? (i := 1080) (by decide +kernel)⟩
theorem lw_p36 : lw_okq (⟨"PhraseMoodsModel", "isFrame", "(I)Z"⟩, 28) := ⟨⟨by decide +kernel, by decide +kernel⟩, List.mem_of_getElem? (i := 897) (by decide +kernel), List.mem_of_getElem? (i := 1087) (by decide +kernel), List.mem_of_getElem? (i := 1088) (by decide +kernel)⟩
theorem lw_p37 : lw_okq (⟨"PhraseMoodsModel", "holes", "(I)I"⟩, 28) := ⟨⟨by decide +kernel, by decide +kernel⟩, List.mem_of_getElem? (i := 897) (by decide +kernel), List.mem_of_getElem? (i := 1091) (by decide +kernel), List.mem_of_getElem? (i := 1092) (by decide +kernel)⟩
theorem lw_p38 : lw_okq (⟨"PhraseMoodsModel", "able", "(II)I"⟩, 28) := ⟨⟨by decide +kernel, by decide +kernel⟩, List.mem_of_getElem? (i := 897) (by decide +kernel), List.mem_of_getElem? (i := 1095) (by decide +kernel), List.mem_of_getElem? (i := 1096) (by decide +kernel)⟩
theorem lw_p39 : lw_okq (⟨"PhraseMoodsModel", "canBe", "(III)Z"⟩, 28) := ⟨⟨by decide +kernel, by decide +kernel⟩, List.mem_of_getElem? (i := 897) (by decide +kernel), List.mem_of_getElem? (i := 1099) (by decide +kernel), List.mem_of_getElem? (i := 1100) (by decide +kernel)⟩
theorem lw_p40 : lw_okq (⟨"PhraseMoodsModel", "ofHole", "(III)I"⟩, 28) := ⟨⟨by decide +kernel, by decide +kernel⟩, List.mem_of_getElem? (i := 897) (by decide +kernel), List.mem_of_getElem? (i := 1103) (by decide +kernel), List.mem_of_getElem? (i := 1104) (by decide +kernel)⟩
theorem lw_p41 : lw_okq (⟨"PhraseMoodsModel", "ableAt", "(III)I"⟩, 28) := ⟨⟨by decide +kernel, by decide +kernel⟩, List.mem_of_getElem? (i := 897) (by decide +kernel), List.mem_of_getElem? (i := 1111) (by decide +kernel), List.mem_of_getElem? (i := 1112) (by decide +kernel)⟩
theorem lw_p42 : lw_okq (⟨"PhraseMoodsModel", "saysDesk", "()V"⟩, 28) := ⟨⟨by decide +kernel, by decide +kernel⟩, List.mem_of_getElem? (i := 897) (by decide +kernel), List.mem_of_getElem? (i := 1127) (by decide +kernel), List.mem_of_getElem? (i := 1128) (by decide +kernel)⟩
theorem lw_p43 : lw_okq (⟨"PhraseMoodsModel", "numbers", "()I"⟩, 28) := ⟨⟨by decide +kernel, by decide +kernel⟩, List.mem_of_getElem? (i := 897) (by decide +kernel), List.mem_of_getElem? (i := 1131) (by decide +kernel), List.mem_of_getElem? (i := 1132) (by decide +kernel)⟩
theorem lw_p44 : lw_okq (⟨"PhraseMoodsModel", "saysDesk", "(II)V"⟩, 28) := ⟨⟨by decide +kernel, by decide +kernel⟩, List.mem_of_getElem? (i := 897) (by decide +kernel), List.mem_of_getElem? (i := 1135) (by decide +kernel), List.mem_of_getElem? (i := 1136) (by decide +kernel)⟩
theorem lw_p45 : lw_okq (⟨"PhraseMoodsModel", "says", "(II[III)V"⟩, 28) := ⟨⟨by decide +kernel, by decide +kernel⟩, List.mem_of_getElem? (i := 897) (by decide +kernel), List.mem_of_getElem? (i := 1139) (by decide +kernel), List.mem_of_getElem? (i := 1140) (by decide +kernel)⟩
theorem lw_p46 : lw_okq (⟨"PhraseMoodsModel", "isFilled", "(II[I)Z"⟩, 28) := ⟨⟨by decide +kernel, by decide +kernel⟩, List.mem_of_getElem? (i := 897) (by decide +kernel), List.mem_of_getElem? (i := 1143) (by decide +kernel), List.mem_of_getElem? (i := 1144) (by decide +kernel)⟩
theorem lw_p47 : lw_okq (⟨"PhraseMoodsModel", "formsAt", "(III[III)V"⟩, 28) := ⟨⟨by decide +kernel, by decide +kernel⟩, List.mem_of_getElem? (i := 897) (by decide +kernel), List.mem_of_getElem? (i := 1147) (by decide +kernel), List.mem_of_getElem? (i := 1148) (by decide +kernel)⟩
def lw_privs_3 : List (MethodName × Nat) := [(⟨"PhraseMoodsModel", "here", "(I)I"⟩, 28), (⟨"PhraseMoodsModel", "reads", "(III)V"⟩, 28), (⟨"PhraseMoodsModel", "isDigit", "(II)Z"⟩, 28), (⟨"PhraseMoodsModel", "readsWord", "(I)V"⟩, 28), (⟨"PhraseMoodsModel", "isFrame", "(I)Z"⟩, 28), (⟨"PhraseMoodsModel", "holes", "(I)I"⟩, 28), (⟨"PhraseMoodsModel", "able", "(II)I"⟩, 28), (⟨"PhraseMoodsModel", "canBe", "(III)Z"⟩, 28), (⟨"PhraseMoodsModel", "ofHole", "(III)I"⟩, 28), (⟨"PhraseMoodsModel", "ableAt", "(III)I"⟩, 28), (⟨"PhraseMoodsModel", "saysDesk", "()V"⟩, 28), (⟨"PhraseMoodsModel", "numbers", "()I"⟩, 28), (⟨"PhraseMoodsModel", "saysDesk", "(II)V"⟩, 28), (⟨"PhraseMoodsModel", "says", "(II[III)V"⟩, 28), (⟨"PhraseMoodsModel", "isFilled", "(II[I)Z"⟩, 28), (⟨"PhraseMoodsModel", "formsAt", "(III[III)V"⟩, 28)]
theorem lw_r3 : ∀ q ∈ lw_privs_3, lw_okq q := List.forall_mem_cons.mpr ⟨lw_p32, List.forall_mem_cons.mpr ⟨lw_p33, List.forall_mem_cons.mpr ⟨lw_p34, List.forall_mem_cons.mpr ⟨lw_p35, List.forall_mem_cons.mpr ⟨lw_p36, List.forall_mem_cons.mpr ⟨lw_p37, List.forall_mem_cons.mpr ⟨lw_p38, List.forall_mem_cons.mpr ⟨lw_p39, List.forall_mem_cons.mpr ⟨lw_p40, List.forall_mem_cons.mpr ⟨lw_p41, List.forall_mem_cons.mpr ⟨lw_p42, List.forall_mem_cons.mpr ⟨lw_p43, List.forall_mem_cons.mpr ⟨lw_p44, List.forall_mem_cons.mpr ⟨lw_p45, List.forall_mem_cons.mpr ⟨lw_p46, List.forall_mem_cons.mpr ⟨lw_p47, fun _ h => absurd h List.not_mem_nil⟩⟩⟩⟩⟩⟩⟩⟩⟩⟩⟩⟩⟩⟩⟩⟩
theorem lw_p48 : lw_okq (⟨"PhraseMoodsModel", "holeOf", "(II)I"⟩, 28) := ⟨⟨by decide +kernel, by decide +kernel⟩, List.mem_of_getElem? (i := 897) (by decide +kernel), List.mem_of_getElem? (i := 1151) (by decide +kernel), List.mem_of_getElem? (i := 1152) (by decide +kernel)⟩
theorem lw_p49 : lw_okq (⟨"PhraseMoodsModel", "takesText", "()V"⟩, 28) := ⟨⟨by decide +kernel, by decide +kernel⟩, List.mem_of_getElem? (i := 897) (by decide +kernel), List.mem_of_getElem? (i := 1182) (by decide +kernel), List.mem_of_getElem? (i := 1183) (by decide +kernel)⟩
theorem lw_p50 : lw_okq (⟨"PhraseMoodsModel", "counted", "()I"⟩, 28) := ⟨⟨by decide +kernel, by decide +kernel⟩, List.mem_of_getElem? (i := 897) (by decide +kernel), List.mem_of_getElem? (i := 1186) (by decide +kernel), List.mem_of_getElem? (i := 1187) (by decide +kernel)⟩
theorem lw_p51 : lw_okq (⟨"PhraseMoodsModel", "parts", "()V"⟩, 28) := ⟨⟨by decide +kernel, by decide +kernel⟩, List.mem_of_getElem? (i := 897) (by decide +kernel), List.mem_of_getElem? (i := 1190) (by decide +kernel), List.mem_of_getElem? (i := 1191) (by decide +kernel)⟩
theorem lw_p52 : lw_okq (⟨"PhraseMoodsModel", "byFrame", "(IIZ)I"⟩, 28) := ⟨⟨by decide +kernel, by decide +kernel⟩, List.mem_of_getElem? (i := 897) (by decide +kernel), List.mem_of_getElem? (i := 1194) (by decide +kernel), List.mem_of_getElem? (i := 1195) (by decide +kernel)⟩
theorem lw_p53 : lw_okq (⟨"PhraseMoodsModel", "atHole", "(IIIIIZ)I"⟩, 28) := ⟨⟨by decide +kernel, by decide +kernel⟩, List.mem_of_getElem? (i := 897) (by decide +kernel), List.mem_of_getElem? (i := 1198) (by decide +kernel), List.mem_of_getElem? (i := 1199) (by decide +kernel)⟩
theorem lw_p54 : lw_okq (⟨"PhraseMoodsModel", "apart", "(I)I"⟩, 28) := ⟨⟨by decide +kernel, by decide +kernel⟩, List.mem_of_getElem? (i := 897) (by decide +kernel), List.mem_of_getElem? (i := 1203) (by decide +kernel), List.mem_of_getElem? (i := 1204) (by decide +kernel)⟩
theorem lw_p55 : lw_okq (⟨"PhraseMoodsModel", "isLike", "(I)Z"⟩, 28) := ⟨⟨by decide +kernel, by decide +kernel⟩, List.mem_of_getElem? (i := 897) (by decide +kernel), List.mem_of_getElem? (i := 1207) (by decide +kernel), List.mem_of_getElem? (i := 1208) (by decide +kernel)⟩
theorem lw_p56 : lw_okq (⟨"PhraseMoodsModel", "byGroup", "(IIIZ)I"⟩, 28) := ⟨⟨by decide +kernel, by decide +kernel⟩, List.mem_of_getElem? (i := 897) (by decide +kernel), List.mem_of_getElem? (i := 1211) (by decide +kernel), List.mem_of_getElem? (i := 1212) (by decide +kernel)⟩
theorem lw_p57 : lw_okq (⟨"PhraseMoodsModel", "byNoun", "(IIIIIZ)I"⟩, 28) := ⟨⟨by decide +kernel, by decide +kernel⟩, List.mem_of_getElem? (i := 897) (by decide +kernel), List.mem_of_getElem? (i := 1215) (by decide +kernel), List.mem_of_getElem? (i := 1216) (by decide +kernel)⟩
theorem lw_p58 : lw_okq (⟨"PhraseMoodsModel", "drawsLine", "(I)V"⟩, 28) := ⟨⟨by decide +kernel, by decide +kernel⟩, List.mem_of_getElem? (i := 897) (by decide +kernel), List.mem_of_getElem? (i := 1227) (by decide +kernel), List.mem_of_getElem? (i := 1228) (by decide +kernel)⟩
theorem lw_p59 : lw_okq (⟨"PhraseMoodsModel", "draws", "(I)I"⟩, 28) := ⟨⟨by decide +kernel, by decide +kernel⟩, List.mem_of_getElem? (i := 897) (by decide +kernel), List.mem_of_getElem? (i := 1231) (by decide +kernel), List.mem_of_getElem? (i := 1232) (by decide +kernel)⟩
theorem lw_p60 : lw_okq (⟨"PhraseMoodsModel", "wrongPlace", "(II)I"⟩, 28) := ⟨⟨by decide +kernel, by decide +kernel⟩, List.mem_of_getElem? (i := 897) (by decide +kernel), List.mem_of_getElem? (i := 1248) (by decide +kernel), List.mem_of_getElem? (i := 1249) (by decide +kernel)⟩
theorem lw_p61 : lw_okq (⟨"PhraseMoodsModel", "unlike", "(I)I"⟩, 28) := ⟨⟨by decide +kernel, by decide +kernel⟩, List.mem_of_getElem? (i := 897) (by decide +kernel), List.mem_of_getElem? (i := 1267) (by decide +kernel), List.mem_of_getElem? (i := 1268) (by decide +kernel)⟩
def lw_privs_4 : List (MethodName × Nat) := [(⟨"PhraseMoodsModel", "holeOf", "(II)I"⟩, 28), (⟨"PhraseMoodsModel", "takesText", "()V"⟩, 28), (⟨"PhraseMoodsModel", "counted", "()I"⟩, 28), (⟨"PhraseMoodsModel", "parts", "()V"⟩, 28), (⟨"PhraseMoodsModel", "byFrame", "(IIZ)I"⟩, 28), (⟨"PhraseMoodsModel", "atHole", "(IIIIIZ)I"⟩, 28), (⟨"PhraseMoodsModel", "apart", "(I)I"⟩, 28), (⟨"PhraseMoodsModel", "isLike", "(I)Z"⟩, 28), (⟨"PhraseMoodsModel", "byGroup", "(IIIZ)I"⟩, 28), (⟨"PhraseMoodsModel", "byNoun", "(IIIIIZ)I"⟩, 28), (⟨"PhraseMoodsModel", "drawsLine", "(I)V"⟩, 28), (⟨"PhraseMoodsModel", "draws", "(I)I"⟩, 28), (⟨"PhraseMoodsModel", "wrongPlace", "(II)I"⟩, 28), (⟨"PhraseMoodsModel", "unlike", "(I)I"⟩, 28)]
theorem lw_r4 : ∀ q ∈ lw_privs_4, lw_okq q := List.forall_mem_cons.mpr ⟨lw_p48, List.forall_mem_cons.mpr ⟨lw_p49, List.forall_mem_cons.mpr ⟨lw_p50, List.forall_mem_cons.mpr ⟨lw_p51, List.forall_mem_cons.mpr ⟨lw_p52, List.forall_mem_cons.mpr ⟨lw_p53, List.forall_mem_cons.mpr ⟨lw_p54, List.forall_mem_cons.mpr ⟨lw_p55, List.forall_mem_cons.mpr ⟨lw_p56, List.forall_mem_cons.mpr ⟨lw_p57, List.forall_mem_cons.mpr ⟨lw_p58, List.forall_mem_cons.mpr ⟨lw_p59, List.forall_mem_cons.mpr ⟨lw_p60, List.forall_mem_cons.mpr ⟨lw_p61, fun _ h => absurd h List.not_mem_nil⟩⟩⟩⟩⟩⟩⟩⟩⟩⟩⟩⟩⟩⟩
def lw_privs : List (MethodName × Nat) := lw_privs_1 ++ (lw_privs_2 ++ (lw_privs_3 ++ (lw_privs_4)))
def lw_tbl : List Cond := k2_sels lw_privs ++ tables_1
theorem lw_privs_ok : ∀ q ∈ lw_privs, lw_okq q := by
  show ∀ q ∈ lw_privs_1 ++ (lw_privs_2 ++ (lw_privs_3 ++ (lw_privs_4))), lw_okq q
  exact List.forall_mem_append.mpr ⟨lw_r1, List.forall_mem_append.mpr ⟨lw_r2, List.forall_mem_append.mpr ⟨lw_r3, lw_r4⟩⟩⟩
/-- the streams that the claim lets the run draw from -/
abbrev lw_cs : List Choice := [Jvm.Choice.named "NaN.bits"]
theorem lw_bits : nanBits ∈ lw_cs := by first | decide | exact List.mem_cons_self | simp [lw_cs, nanBits]

def RX0 : String := "PhraseMoods$Book"
def TX0 : u_T := fun k => match k with
  | 0 => ("PhraseMoods$Book", "words", "[LPhraseMoods$Word;", true)
  | 1 => ("PhraseMoods$Book", "wordCount", "I", false)
  | 2 => ("PhraseMoods$Book", "endings", "[LPhraseMoods$Letters;", true)
  | 3 => ("PhraseMoods$Book", "genderEnds", "[LPhraseMoods$Letters;", true)
  | 4 => ("PhraseMoods$Book", "frames", "[LPhraseMoods$Frame;", true)
  | 5 => ("PhraseMoods$Book", "frameCount", "I", false)
  | 6 => ("PhraseMoods$Book", "text", "LPhraseMoods$Letters;", true)
  | _ => ("PhraseMoods$Book", "desk", "LPhraseMoods$Filling;", true)
def tyX0 : Nat → FieldType := fun k => match k with
  | 0 => .array (.object "PhraseMoods$Word")
  | 1 => .int
  | 2 => .array (.object "PhraseMoods$Letters")
  | 3 => .array (.object "PhraseMoods$Letters")
  | 4 => .array (.object "PhraseMoods$Frame")
  | 5 => .int
  | 6 => .object "PhraseMoods$Letters"
  | _ => .object "PhraseMoods$Filling"
theorem nmX0 : ∀ a, a < 8 → ∀ b, b < 8 → a ≠ b → (TX0 a).2.1 ≠ (TX0 b).2.1 := by decide +kernel
theorem tyX0_ok : ∀ k, k < 8 → parseFieldDescriptor (TX0 k).2.2.1 = some (tyX0 k) := by decide +kernel
abbrev cX0_init : ByteArray := prog_2_method_1_code
def yX0_init : MethodName := ⟨RX0, "<init>", "()V"⟩
abbrev cX0_become : ByteArray := prog_2_method_2_code
def yX0_become : MethodName := ⟨RX0, "become", "(LPhraseMoods$Book;)V"⟩
abbrev cX0_wordAt : ByteArray := prog_2_method_3_code
def yX0_wordAt : MethodName := ⟨RX0, "wordAt", "(I)LPhraseMoods$Word;"⟩
abbrev cX0_frameAt : ByteArray := prog_2_method_4_code
def yX0_frameAt : MethodName := ⟨RX0, "frameAt", "(I)LPhraseMoods$Frame;"⟩
abbrev cX0_endingAt : ByteArray := prog_2_method_5_code
def yX0_endingAt : MethodName := ⟨RX0, "endingAt", "(III)LPhraseMoods$Letters;"⟩
abbrev cX0_addWord : ByteArray := prog_2_method_6_code
def yX0_addWord : MethodName := ⟨RX0, "addWord", "(LPhraseMoods$Letters;III)I"⟩
abbrev cX0_addFrame : ByteArray := prog_2_method_7_code
def yX0_addFrame : MethodName := ⟨RX0, "addFrame", "(LPhraseMoods$Frame;)I"⟩
abbrev cX0_wordsFor : ByteArray := prog_2_method_8_code
def yX0_wordsFor : MethodName := ⟨RX0, "wordsFor", "(LPhraseMoods$Frame;I)I"⟩
abbrev cX0_wordFor : ByteArray := prog_2_method_9_code
def yX0_wordFor : MethodName := ⟨RX0, "wordFor", "(LPhraseMoods$Frame;II)I"⟩
abbrev cX0_spell : ByteArray := prog_2_method_10_code
def yX0_spell : MethodName := ⟨RX0, "spell", "(LPhraseMoods$Word;ILPhraseMoods$Letters;)V"⟩
def RX1 : String := "PhraseMoods$Drawer"
def TX1 : u_T := fun k => match k with
  | 0 => ("PhraseMoods$Drawer", "filling", "LPhraseMoods$Filling;", true)
  | _ => ("PhraseMoods$Drawer", "z", "I", false)
def tyX1 : Nat → FieldType := fun k => match k with
  | 0 => .object "PhraseMoods$Filling"
  | _ => .int
theorem nmX1 : ∀ a, a < 2 → ∀ b, b < 2 → a ≠ b → (TX1 a).2.1 ≠ (TX1 b).2.1 := by decide +kernel
theorem tyX1_ok : ∀ k, k < 2 → parseFieldDescriptor (TX1 k).2.2.1 = some (tyX1 k) := by decide +kernel
abbrev cX1_init : ByteArray := prog_3_method_1_code
def yX1_init : MethodName := ⟨RX1, "<init>", "()V"⟩
abbrev cX1_draw : ByteArray := prog_3_method_2_code
def yX1_draw : MethodName := ⟨RX1, "draw", "(LPhraseMoods$Book;I)Z"⟩
abbrev cX1_next : ByteArray := prog_3_method_3_code
def yX1_next : MethodName := ⟨RX1, "next", "(I)I"⟩
def RX2 : String := "PhraseMoods$Filling"
def TX2 : u_T := fun k => match k with
  | 0 => ("PhraseMoods$Filling", "frame", "I", false)
  | 1 => ("PhraseMoods$Filling", "mood", "I", false)
  | 2 => ("PhraseMoods$Filling", "numbers", "I", false)
  | _ => ("PhraseMoods$Filling", "words", "[I", true)
def tyX2 : Nat → FieldType := fun k => match k with
  | 0 => .int
  | 1 => .int
  | 2 => .int
  | _ => .array .int
theorem nmX2 : ∀ a, a < 4 → ∀ b, b < 4 → a ≠ b → (TX2 a).2.1 ≠ (TX2 b).2.1 := by decide +kernel
theorem tyX2_ok : ∀ k, k < 4 → parseFieldDescriptor (TX2 k).2.2.1 = some (tyX2 k) := by decide +kernel
abbrev cX2_init : ByteArray := prog_4_method_1_code
def yX2_init : MethodName := ⟨RX2, "<init>", "()V"⟩
abbrev cX2_begin : ByteArray := prog_4_method_2_code
def yX2_begin : MethodName := ⟨RX2, "begin", "(II)V"⟩
abbrev cX2_become : ByteArray := prog_4_method_3_code
def yX2_become : MethodName := ⟨RX2, "become", "(LPhraseMoods$Filling;)V"⟩
abbrev cX2_fill : ByteArray := prog_4_method_4_code
def yX2_fill : MethodName := ⟨RX2, "fill", "(II)V"⟩
abbrev cX2_wordIn : ByteArray := prog_4_method_5_code
def yX2_wordIn : MethodName := ⟨RX2, "wordIn", "(I)I"⟩
def RX3 : String := "PhraseMoods$Frame"
def TX3 : u_T := fun k => match k with
  | 0 => ("PhraseMoods$Frame", "size", "I", false)
  | 1 => ("PhraseMoods$Frame", "sorts", "[I", true)
  | 2 => ("PhraseMoods$Frame", "groups", "[I", true)
  | 3 => ("PhraseMoods$Frame", "cases", "[I", true)
  | 4 => ("PhraseMoods$Frame", "plains", "[I", true)
  | _ => ("PhraseMoods$Frame", "nouns", "[I", true)
def tyX3 : Nat → FieldType := fun k => match k with
  | 0 => .int
  | 1 => .array .int
  | 2 => .array .int
  | 3 => .array .int
  | 4 => .array .int
  | _ => .array .int
theorem nmX3 : ∀ a, a < 6 → ∀ b, b < 6 → a ≠ b → (TX3 a).2.1 ≠ (TX3 b).2.1 := by decide +kernel
theorem tyX3_ok : ∀ k, k < 6 → parseFieldDescriptor (TX3 k).2.2.1 = some (tyX3 k) := by decide +kernel
abbrev cX3_init : ByteArray := prog_5_method_1_code
def yX3_init : MethodName := ⟨RX3, "<init>", "()V"⟩
abbrev cX3_clear : ByteArray := prog_5_method_2_code
def yX3_clear : MethodName := ⟨RX3, "clear", "()V"⟩
abbrev cX3_add : ByteArray := prog_5_method_3_code
def yX3_add : MethodName := ⟨RX3, "add", "(IIII)V"⟩
abbrev cX3_become : ByteArray := prog_5_method_4_code
def yX3_become : MethodName := ⟨RX3, "become", "(LPhraseMoods$Frame;)V"⟩
abbrev cX3_has : ByteArray := prog_5_method_5_code
def yX3_has : MethodName := ⟨RX3, "has", "(I)Z"⟩
abbrev cX3_sortOf : ByteArray := prog_5_method_6_code
def yX3_sortOf : MethodName := ⟨RX3, "sortOf", "(I)I"⟩
abbrev cX3_groupOf : ByteArray := prog_5_method_7_code
def yX3_groupOf : MethodName := ⟨RX3, "groupOf", "(I)I"⟩
abbrev cX3_caseOf : ByteArray := prog_5_method_8_code
def yX3_caseOf : MethodName := ⟨RX3, "caseOf", "(I)I"⟩
abbrev cX3_plainOf : ByteArray := prog_5_method_9_code
def yX3_plainOf : MethodName := ⟨RX3, "plainOf", "(I)I"⟩
abbrev cX3_nounOf : ByteArray := prog_5_method_10_code
def yX3_nounOf : MethodName := ⟨RX3, "nounOf", "(I)I"⟩
abbrev cX3_isWhole : ByteArray := prog_5_method_11_code
def yX3_isWhole : MethodName := ⟨RX3, "isWhole", "()Z"⟩
abbrev cX3_takes : ByteArray := prog_5_method_12_code
def yX3_takes : MethodName := ⟨RX3, "takes", "(ILPhraseMoods$Word;)Z"⟩
def RX4 : String := "PhraseMoods$FrameReader"
def TX4 : u_T := fun k => match k with
  | 0 => ("PhraseMoods$FrameReader", "frame", "LPhraseMoods$Frame;", true)
  | _ => ("PhraseMoods$FrameReader", "place", "I", false)
def tyX4 : Nat → FieldType := fun k => match k with
  | 0 => .object "PhraseMoods$Frame"
  | _ => .int
theorem nmX4 : ∀ a, a < 2 → ∀ b, b < 2 → a ≠ b → (TX4 a).2.1 ≠ (TX4 b).2.1 := by decide +kernel
theorem tyX4_ok : ∀ k, k < 2 → parseFieldDescriptor (TX4 k).2.2.1 = some (tyX4 k) := by decide +kernel
abbrev cX4_init : ByteArray := prog_6_method_1_code
def yX4_init : MethodName := ⟨RX4, "<init>", "()V"⟩
abbrev cX4_read : ByteArray := prog_6_method_2_code
def yX4_read : MethodName := ⟨RX4, "read", "(LPhraseMoods$Book;LPhraseMoods$Letters;)I"⟩
abbrev cX4_skipBlanks : ByteArray := prog_6_method_3_code
def yX4_skipBlanks : MethodName := ⟨RX4, "skipBlanks", "(LPhraseMoods$Letters;)V"⟩
abbrev cX4_readHole : ByteArray := prog_6_method_4_code
def yX4_readHole : MethodName := ⟨RX4, "readHole", "(LPhraseMoods$Book;LPhraseMoods$Letters;)Z"⟩
abbrev cX4_readGrouped : ByteArray := prog_6_method_5_code
def yX4_readGrouped : MethodName := ⟨RX4, "readGrouped", "(ILPhraseMoods$Letters;)Z"⟩
abbrev cX4_readPlain : ByteArray := prog_6_method_6_code
def yX4_readPlain : MethodName := ⟨RX4, "readPlain", "(LPhraseMoods$Book;LPhraseMoods$Letters;)Z"⟩
abbrev cX4_sortBy : ByteArray := prog_6_method_7_code
def yX4_sortBy : MethodName := ⟨RX4, "sortBy", "(I)I"⟩
abbrev cX4_digit : ByteArray := prog_6_method_8_code
def yX4_digit : MethodName := ⟨RX4, "digit", "(LPhraseMoods$Letters;II)I"⟩
def RX5 : String := "PhraseMoods$Letters"
def TX5 : u_T := fun k => match k with
  | 0 => ("PhraseMoods$Letters", "bytes", "[B", true)
  | _ => ("PhraseMoods$Letters", "size", "I", false)
def tyX5 : Nat → FieldType := fun k => match k with
  | 0 => .array .byte
  | _ => .int
theorem nmX5 : ∀ a, a < 2 → ∀ b, b < 2 → a ≠ b → (TX5 a).2.1 ≠ (TX5 b).2.1 := by decide +kernel
theorem tyX5_ok : ∀ k, k < 2 → parseFieldDescriptor (TX5 k).2.2.1 = some (tyX5 k) := by decide +kernel
abbrev cX5_init : ByteArray := prog_7_method_1_code
def yX5_init : MethodName := ⟨RX5, "<init>", "(I)V"⟩
abbrev cX5_isLetter : ByteArray := prog_7_method_2_code
def yX5_isLetter : MethodName := ⟨RX5, "isLetter", "(I)Z"⟩
abbrev cX5_isVowel : ByteArray := prog_7_method_3_code
def yX5_isVowel : MethodName := ⟨RX5, "isVowel", "(I)Z"⟩
abbrev cX5_at : ByteArray := prog_7_method_4_code
def yX5_at : MethodName := ⟨RX5, "at", "(I)I"⟩
abbrev cX5_clear : ByteArray := prog_7_method_5_code
def yX5_clear : MethodName := ⟨RX5, "clear", "()V"⟩
abbrev cX5_add : ByteArray := prog_7_method_6_code
def yX5_add : MethodName := ⟨RX5, "add", "(I)V"⟩
abbrev cX5_become : ByteArray := prog_7_method_7_code
def yX5_become : MethodName := ⟨RX5, "become", "(LPhraseMoods$Letters;)V"⟩
abbrev cX5_join : ByteArray := prog_7_method_8_code
def yX5_join : MethodName := ⟨RX5, "join", "(LPhraseMoods$Letters;)V"⟩
abbrev cX5_isAllLetters : ByteArray := prog_7_method_9_code
def yX5_isAllLetters : MethodName := ⟨RX5, "isAllLetters", "()Z"⟩
abbrev cX5_isAllWords : ByteArray := prog_7_method_10_code
def yX5_isAllWords : MethodName := ⟨RX5, "isAllWords", "()Z"⟩
abbrev cX5_words : ByteArray := prog_7_method_11_code
def yX5_words : MethodName := ⟨RX5, "words", "()I"⟩
def RX6 : String := "PhraseMoods$Reader"
def TX6 : u_T := fun k => match k with
  | 0 => ("PhraseMoods$Reader", "spelled", "LPhraseMoods$Letters;", true)
  | 1 => ("PhraseMoods$Reader", "starts", "[I", true)
  | 2 => ("PhraseMoods$Reader", "lengths", "[I", true)
  | 3 => ("PhraseMoods$Reader", "words", "I", false)
  | 4 => ("PhraseMoods$Reader", "row", "[I", true)
  | 5 => ("PhraseMoods$Reader", "readings", "I", false)
  | 6 => ("PhraseMoods$Reader", "firstFrame", "I", false)
  | 7 => ("PhraseMoods$Reader", "firstMood", "I", false)
  | 8 => ("PhraseMoods$Reader", "least", "I", false)
  | _ => ("PhraseMoods$Reader", "leastFrame", "I", false)
def tyX6 : Nat → FieldType := fun k => match k with
  | 0 => .object "PhraseMoods$Letters"
  | 1 => .array .int
  | 2 => .array .int
  | 3 => .int
  | 4 => .array .int
  | 5 => .int
  | 6 => .int
  | 7 => .int
  | 8 => .int
  | _ => .int
theorem nmX6 : ∀ a, a < 10 → ∀ b, b < 10 → a ≠ b → (TX6 a).2.1 ≠ (TX6 b).2.1 := by decide +kernel
theorem tyX6_ok : ∀ k, k < 10 → parseFieldDescriptor (TX6 k).2.2.1 = some (tyX6 k) := by decide +kernel
abbrev cX6_init : ByteArray := prog_8_method_1_code
def yX6_init : MethodName := ⟨RX6, "<init>", "()V"⟩
abbrev cX6_countReadings : ByteArray := prog_8_method_2_code
def yX6_countReadings : MethodName := ⟨RX6, "countReadings", "(LPhraseMoods$Book;LPhraseMoods$Letters;)V"⟩
abbrev cX6_findNearest : ByteArray := prog_8_method_3_code
def yX6_findNearest : MethodName := ⟨RX6, "findNearest", "(LPhraseMoods$Book;LPhraseMoods$Letters;)V"⟩
abbrev cX6_split : ByteArray := prog_8_method_4_code
def yX6_split : MethodName := ⟨RX6, "split", "(LPhraseMoods$Letters;)V"⟩
abbrev cX6_waysOfFrame : ByteArray := prog_8_method_5_code
def yX6_waysOfFrame : MethodName := ⟨RX6, "waysOfFrame", "(LPhraseMoods$Book;LPhraseMoods$Letters;LPhraseMoods$Frame;I)I"⟩
abbrev cX6_waysOfGroup : ByteArray := prog_8_method_6_code
def yX6_waysOfGroup : MethodName := ⟨RX6, "waysOfGroup", "(LPhraseMoods$Book;LPhraseMoods$Letters;LPhraseMoods$Frame;II)I"⟩
abbrev cX6_waysOfHole : ByteArray := prog_8_method_7_code
def yX6_waysOfHole : MethodName := ⟨RX6, "waysOfHole", "(LPhraseMoods$Book;LPhraseMoods$Letters;LPhraseMoods$Frame;II)I"⟩
abbrev cX6_farnessOfFrame : ByteArray := prog_8_method_8_code
def yX6_farnessOfFrame : MethodName := ⟨RX6, "farnessOfFrame", "(LPhraseMoods$Book;LPhraseMoods$Letters;LPhraseMoods$Frame;I)I"⟩
abbrev cX6_farnessOfGroup : ByteArray := prog_8_method_9_code
def yX6_farnessOfGroup : MethodName := ⟨RX6, "farnessOfGroup", "(LPhraseMoods$Book;LPhraseMoods$Letters;LPhraseMoods$Frame;II)I"⟩
abbrev cX6_farnessOfHole : ByteArray := prog_8_method_10_code
def yX6_farnessOfHole : MethodName := ⟨RX6, "farnessOfHole", "(LPhraseMoods$Book;LPhraseMoods$Letters;LPhraseMoods$Frame;II)I"⟩
abbrev cX6_fits : ByteArray := prog_8_method_11_code
def yX6_fits : MethodName := ⟨RX6, "fits", "(LPhraseMoods$Frame;ILPhraseMoods$Word;I)Z"⟩
abbrev cX6_startOf : ByteArray := prog_8_method_12_code
def yX6_startOf : MethodName := ⟨RX6, "startOf", "(I)I"⟩
abbrev cX6_lengthOf : ByteArray := prog_8_method_13_code
def yX6_lengthOf : MethodName := ⟨RX6, "lengthOf", "(I)I"⟩
abbrev cX6_isSpelledAt : ByteArray := prog_8_method_14_code
def yX6_isSpelledAt : MethodName := ⟨RX6, "isSpelledAt", "(LPhraseMoods$Letters;I)Z"⟩
abbrev cX6_apartFrom : ByteArray := prog_8_method_15_code
def yX6_apartFrom : MethodName := ⟨RX6, "apartFrom", "(LPhraseMoods$Letters;I)I"⟩
def RX7 : String := "PhraseMoods$Sheet"
def TX7 : u_T := fun k => match k with
  | 0 => ("PhraseMoods$Sheet", "sort", "I", false)
  | 1 => ("PhraseMoods$Sheet", "size", "I", false)
  | _ => ("PhraseMoods$Sheet", "items", "[I", true)
def tyX7 : Nat → FieldType := fun k => match k with
  | 0 => .int
  | 1 => .int
  | _ => .array .int
theorem nmX7 : ∀ a, a < 3 → ∀ b, b < 3 → a ≠ b → (TX7 a).2.1 ≠ (TX7 b).2.1 := by decide +kernel
theorem tyX7_ok : ∀ k, k < 3 → parseFieldDescriptor (TX7 k).2.2.1 = some (tyX7 k) := by decide +kernel
abbrev cX7_init : ByteArray := prog_9_method_1_code
def yX7_init : MethodName := ⟨RX7, "<init>", "()V"⟩
abbrev cX7_begin : ByteArray := prog_9_method_2_code
def yX7_begin : MethodName := ⟨RX7, "begin", "(II)V"⟩
abbrev cX7_isMissing : ByteArray := prog_9_method_3_code
def yX7_isMissing : MethodName := ⟨RX7, "isMissing", "()Z"⟩
abbrev cX7_hasRun : ByteArray := prog_9_method_4_code
def yX7_hasRun : MethodName := ⟨RX7, "hasRun", "(II)Z"⟩
abbrev cX7_at : ByteArray := prog_9_method_5_code
def yX7_at : MethodName := ⟨RX7, "at", "(I)I"⟩
abbrev cX7_set : ByteArray := prog_9_method_6_code
def yX7_set : MethodName := ⟨RX7, "set", "(II)V"⟩
abbrev cX7_take : ByteArray := prog_9_method_7_code
def yX7_take : MethodName := ⟨RX7, "take", "(ILPhraseMoods$Sheet;II)V"⟩
def RX8 : String := "PhraseMoods$Speaker"
def TX8 : u_T := fun k => match k with
  | 0 => ("PhraseMoods$Speaker", "spelled", "LPhraseMoods$Letters;", true)
  | 1 => ("PhraseMoods$Speaker", "line", "LPhraseMoods$Letters;", true)
  | 2 => ("PhraseMoods$Speaker", "lengths", "[I", true)
  | _ => ("PhraseMoods$Speaker", "words", "I", false)
def tyX8 : Nat → FieldType := fun k => match k with
  | 0 => .object "PhraseMoods$Letters"
  | 1 => .object "PhraseMoods$Letters"
  | 2 => .array .int
  | _ => .int
theorem nmX8 : ∀ a, a < 4 → ∀ b, b < 4 → a ≠ b → (TX8 a).2.1 ≠ (TX8 b).2.1 := by decide +kernel
theorem tyX8_ok : ∀ k, k < 4 → parseFieldDescriptor (TX8 k).2.2.1 = some (tyX8 k) := by decide +kernel
abbrev cX8_init : ByteArray := prog_10_method_1_code
def yX8_init : MethodName := ⟨RX8, "<init>", "()V"⟩
abbrev cX8_say : ByteArray := prog_10_method_2_code
def yX8_say : MethodName := ⟨RX8, "say", "(LPhraseMoods$Book;LPhraseMoods$Filling;II)Z"⟩
abbrev cX8_lengthOf : ByteArray := prog_10_method_3_code
def yX8_lengthOf : MethodName := ⟨RX8, "lengthOf", "(I)I"⟩
abbrev cX8_timeBy : ByteArray := prog_10_method_4_code
def yX8_timeBy : MethodName := ⟨RX8, "timeBy", "(I)F"⟩
abbrev cX8_addSpelled : ByteArray := prog_10_method_5_code
def yX8_addSpelled : MethodName := ⟨RX8, "addSpelled", "()V"⟩
abbrev cX8_agreement : ByteArray := prog_10_method_6_code
def yX8_agreement : MethodName := ⟨RX8, "agreement", "(LPhraseMoods$Book;LPhraseMoods$Filling;II)I"⟩
def RX9 : String := "PhraseMoods$Tray"
def TX9 : u_T := fun k => match k with
  | 0 => ("PhraseMoods$Tray", "kind", "I", false)
  | 1 => ("PhraseMoods$Tray", "size", "I", false)
  | _ => ("PhraseMoods$Tray", "words", "[I", true)
def tyX9 : Nat → FieldType := fun k => match k with
  | 0 => .int
  | 1 => .int
  | _ => .array .int
theorem nmX9 : ∀ a, a < 3 → ∀ b, b < 3 → a ≠ b → (TX9 a).2.1 ≠ (TX9 b).2.1 := by decide +kernel
theorem tyX9_ok : ∀ k, k < 3 → parseFieldDescriptor (TX9 k).2.2.1 = some (tyX9 k) := by decide +kernel
abbrev cX9_init : ByteArray := prog_11_method_1_code
def yX9_init : MethodName := ⟨RX9, "<init>", "()V"⟩
abbrev cX9_begin : ByteArray := prog_11_method_2_code
def yX9_begin : MethodName := ⟨RX9, "begin", "(II)V"⟩
abbrev cX9_become : ByteArray := prog_11_method_3_code
def yX9_become : MethodName := ⟨RX9, "become", "(LPhraseMoods$Tray;)V"⟩
abbrev cX9_isMissing : ByteArray := prog_11_method_4_code
def yX9_isMissing : MethodName := ⟨RX9, "isMissing", "()Z"⟩
abbrev cX9_has : ByteArray := prog_11_method_5_code
def yX9_has : MethodName := ⟨RX9, "has", "(I)Z"⟩
abbrev cX9_wordAt : ByteArray := prog_11_method_6_code
def yX9_wordAt : MethodName := ⟨RX9, "wordAt", "(I)I"⟩
abbrev cX9_lay : ByteArray := prog_11_method_7_code
def yX9_lay : MethodName := ⟨RX9, "lay", "(II)V"⟩
def RX10 : String := "PhraseMoods$Word"
def TX10 : u_T := fun k => match k with
  | 0 => ("PhraseMoods$Word", "number", "I", true)
  | 1 => ("PhraseMoods$Word", "stem", "LPhraseMoods$Letters;", true)
  | 2 => ("PhraseMoods$Word", "kind", "I", false)
  | 3 => ("PhraseMoods$Word", "table", "I", false)
  | _ => ("PhraseMoods$Word", "gender", "I", false)
def tyX10 : Nat → FieldType := fun k => match k with
  | 0 => .int
  | 1 => .object "PhraseMoods$Letters"
  | 2 => .int
  | 3 => .int
  | _ => .int
theorem nmX10 : ∀ a, a < 5 → ∀ b, b < 5 → a ≠ b → (TX10 a).2.1 ≠ (TX10 b).2.1 := by decide +kernel
theorem tyX10_ok : ∀ k, k < 5 → parseFieldDescriptor (TX10 k).2.2.1 = some (tyX10 k) := by decide +kernel
abbrev cX10_init : ByteArray := prog_12_method_1_code
def yX10_init : MethodName := ⟨RX10, "<init>", "(I)V"⟩
abbrev cX10_become : ByteArray := prog_12_method_2_code
def yX10_become : MethodName := ⟨RX10, "become", "(LPhraseMoods$Word;)V"⟩
abbrev cX10_begin : ByteArray := prog_12_method_3_code
def yX10_begin : MethodName := ⟨RX10, "begin", "(LPhraseMoods$Letters;III)V"⟩
abbrev cX10_isOf : ByteArray := prog_12_method_4_code
def yX10_isOf : MethodName := ⟨RX10, "isOf", "(I)Z"⟩
def RX11 : String := "PhraseMoods"
def TX11 : u_T := fun k => match k with
  | 0 => ("PhraseMoods", "tape", "LPhraseMoods$Letters;", true)
  | 1 => ("PhraseMoods", "book", "LPhraseMoods$Book;", true)
  | 2 => ("PhraseMoods", "kept", "LPhraseMoods$Book;", true)
  | 3 => ("PhraseMoods", "isKept", "Z", false)
  | 4 => ("PhraseMoods", "frameReader", "LPhraseMoods$FrameReader;", true)
  | 5 => ("PhraseMoods", "spelled", "LPhraseMoods$Letters;", true)
  | 6 => ("PhraseMoods", "speaker", "LPhraseMoods$Speaker;", true)
  | 7 => ("PhraseMoods", "drawer", "LPhraseMoods$Drawer;", true)
  | 8 => ("PhraseMoods", "reader", "LPhraseMoods$Reader;", true)
  | 9 => ("PhraseMoods", "sheets", "[LPhraseMoods$Sheet;", true)
  | _ => ("PhraseMoods", "trays", "[LPhraseMoods$Tray;", true)
def tyX11 : Nat → FieldType := fun k => match k with
  | 0 => .object "PhraseMoods$Letters"
  | 1 => .object "PhraseMoods$Book"
  | 2 => .object "PhraseMoods$Book"
  | 3 => .boolean
  | 4 => .object "PhraseMoods$FrameReader"
  | 5 => .object "PhraseMoods$Letters"
  | 6 => .object "PhraseMoods$Speaker"
  | 7 => .object "PhraseMoods$Drawer"
  | 8 => .object "PhraseMoods$Reader"
  | 9 => .array (.object "PhraseMoods$Sheet")
  | _ => .array (.object "PhraseMoods$Tray")
theorem nmX11 : ∀ a, a < 11 → ∀ b, b < 11 → a ≠ b → (TX11 a).2.1 ≠ (TX11 b).2.1 := by decide +kernel
theorem tyX11_ok : ∀ k, k < 11 → parseFieldDescriptor (TX11 k).2.2.1 = some (tyX11 k) := by decide +kernel
abbrev cX11_init : ByteArray := prog_1_method_1_code
def yX11_init : MethodName := ⟨RX11, "<init>", "()V"⟩
abbrev cX11_feed : ByteArray := prog_1_method_2_code
def yX11_feed : MethodName := ⟨RX11, "feed", "(IIIIII)I"⟩
abbrev cX11_word : ByteArray := prog_1_method_3_code
def yX11_word : MethodName := ⟨RX11, "word", "(III)I"⟩
abbrev cX11_ending : ByteArray := prog_1_method_4_code
def yX11_ending : MethodName := ⟨RX11, "ending", "(III)I"⟩
abbrev cX11_frame : ByteArray := prog_1_method_5_code
def yX11_frame : MethodName := ⟨RX11, "frame", "()I"⟩
abbrev cX11_told : ByteArray := prog_1_method_6_code
def yX11_told : MethodName := ⟨RX11, "told", "(II)I"⟩
abbrev cX11_taken : ByteArray := prog_1_method_7_code
def yX11_taken : MethodName := ⟨RX11, "taken", "(II)I"⟩
abbrev cX11_form : ByteArray := prog_1_method_8_code
def yX11_form : MethodName := ⟨RX11, "form", "(III)I"⟩
abbrev cX11_hole : ByteArray := prog_1_method_9_code
def yX11_hole : MethodName := ⟨RX11, "hole", "(III)I"⟩
abbrev cX11_desk : ByteArray := prog_1_method_10_code
def yX11_desk : MethodName := ⟨RX11, "desk", "(II)I"⟩
abbrev cX11_choose : ByteArray := prog_1_method_11_code
def yX11_choose : MethodName := ⟨RX11, "choose", "(II)I"⟩
abbrev cX11_number : ByteArray := prog_1_method_12_code
def yX11_number : MethodName := ⟨RX11, "number", "(II)I"⟩
abbrev cX11_said : ByteArray := prog_1_method_13_code
def yX11_said : MethodName := ⟨RX11, "said", "(I)I"⟩
abbrev cX11_spoken : ByteArray := prog_1_method_14_code
def yX11_spoken : MethodName := ⟨RX11, "spoken", "(I)I"⟩
abbrev cX11_text : ByteArray := prog_1_method_15_code
def yX11_text : MethodName := ⟨RX11, "text", "()I"⟩
abbrev cX11_readings : ByteArray := prog_1_method_16_code
def yX11_readings : MethodName := ⟨RX11, "readings", "(I)I"⟩
abbrev cX11_near : ByteArray := prog_1_method_17_code
def yX11_near : MethodName := ⟨RX11, "near", "(I)I"⟩
abbrev cX11_drawn : ByteArray := prog_1_method_18_code
def yX11_drawn : MethodName := ⟨RX11, "drawn", "(II)I"⟩
abbrev cX11_chance : ByteArray := prog_1_method_19_code
def yX11_chance : MethodName := ⟨RX11, "chance", "(III)I"⟩
abbrev cX11_tray : ByteArray := prog_1_method_20_code
def yX11_tray : MethodName := ⟨RX11, "tray", "(III)I"⟩
abbrev cX11_lays : ByteArray := prog_1_method_21_code
def yX11_lays : MethodName := ⟨RX11, "lays", "(III)I"⟩
abbrev cX11_laid : ByteArray := prog_1_method_22_code
def yX11_laid : MethodName := ⟨RX11, "laid", "(II)I"⟩
abbrev cX11_like : ByteArray := prog_1_method_23_code
def yX11_like : MethodName := ⟨RX11, "like", "(II)I"⟩
abbrev cX11_tells : ByteArray := prog_1_method_24_code
def yX11_tells : MethodName := ⟨RX11, "tells", "(II)I"⟩
abbrev cX11_image : ByteArray := prog_1_method_25_code
def yX11_image : MethodName := ⟨RX11, "image", "()I"⟩
abbrev cX11_back : ByteArray := prog_1_method_26_code
def yX11_back : MethodName := ⟨RX11, "back", "()I"⟩
abbrev cX11_count : ByteArray := prog_1_method_27_code
def yX11_count : MethodName := ⟨RX11, "count", "(I)I"⟩
abbrev cX11_sheet : ByteArray := prog_1_method_28_code
def yX11_sheet : MethodName := ⟨RX11, "sheet", "(III)I"⟩
abbrev cX11_put : ByteArray := prog_1_method_29_code
def yX11_put : MethodName := ⟨RX11, "put", "(III)I"⟩
abbrev cX11_copy : ByteArray := prog_1_method_30_code
def yX11_copy : MethodName := ⟨RX11, "copy", "(IIIII)I"⟩
abbrev cX11_isBelow : ByteArray := prog_1_method_31_code
def yX11_isBelow : MethodName := ⟨RX11, "isBelow", "(II)Z"⟩
abbrev cX11_areBytes : ByteArray := prog_1_method_32_code
def yX11_areBytes : MethodName := ⟨RX11, "areBytes", "(IIIII)Z"⟩
abbrev cX11_sizeOrLetter : ByteArray := prog_1_method_33_code
def yX11_sizeOrLetter : MethodName := ⟨RX11, "sizeOrLetter", "(LPhraseMoods$Letters;I)I"⟩
abbrev cX11_bitsOf : ByteArray := prog_1_method_34_code
def yX11_bitsOf : MethodName := ⟨RX11, "bitsOf", "(F)I"⟩
abbrev cX11_commonDivisor : ByteArray := prog_1_method_35_code
def yX11_commonDivisor : MethodName := ⟨RX11, "commonDivisor", "(II)I"⟩
abbrev cX11_sayDesk : ByteArray := prog_1_method_36_code
def yX11_sayDesk : MethodName := ⟨RX11, "sayDesk", "()Z"⟩
abbrev cX11_sayDrawn : ByteArray := prog_1_method_37_code
def yX11_sayDrawn : MethodName := ⟨RX11, "sayDrawn", "(I)Z"⟩
abbrev cX11_sheetAt : ByteArray := prog_1_method_38_code
def yX11_sheetAt : MethodName := ⟨RX11, "sheetAt", "(I)LPhraseMoods$Sheet;"⟩
abbrev cX11_trayAt : ByteArray := prog_1_method_39_code
def yX11_trayAt : MethodName := ⟨RX11, "trayAt", "(I)LPhraseMoods$Tray;"⟩
abbrev cX11_firstOtherwise : ByteArray := prog_1_method_40_code
def yX11_firstOtherwise : MethodName := ⟨RX11, "firstOtherwise", "(LPhraseMoods$Sheet;)I"⟩
abbrev cX11_moodsTold : ByteArray := prog_1_method_41_code
def yX11_moodsTold : MethodName := ⟨RX11, "moodsTold", "(LPhraseMoods$Sheet;)I"⟩
abbrev cX11_numbersTold : ByteArray := prog_1_method_42_code
def yX11_numbersTold : MethodName := ⟨RX11, "numbersTold", "(LPhraseMoods$Sheet;)I"⟩
def RX12 : String := "PhraseMoodsModel"
def TX12 : u_T := fun k => match k with
  | 0 => ("PhraseMoodsModel", "g", "[I", true)
  | 1 => ("PhraseMoodsModel", "kept", "[I", true)
  | 2 => ("PhraseMoodsModel", "isKept", "Z", false)
  | 3 => ("PhraseMoodsModel", "tape", "[I", true)
  | 4 => ("PhraseMoodsModel", "fed", "I", false)
  | 5 => ("PhraseMoodsModel", "made4", "[I", true)
  | 6 => ("PhraseMoodsModel", "size", "I", false)
  | 7 => ("PhraseMoodsModel", "fault", "I", false)
  | 8 => ("PhraseMoodsModel", "next", "I", false)
  | 9 => ("PhraseMoodsModel", "saved", "[I", true)
  | 10 => ("PhraseMoodsModel", "line", "[I", true)
  | 11 => ("PhraseMoodsModel", "begins", "[I", true)
  | 12 => ("PhraseMoodsModel", "ends", "[I", true)
  | 13 => ("PhraseMoodsModel", "lineSize", "I", false)
  | 14 => ("PhraseMoodsModel", "lineWords", "I", false)
  | 15 => ("PhraseMoodsModel", "before", "[I", true)
  | 16 => ("PhraseMoodsModel", "now", "[I", true)
  | 17 => ("PhraseMoodsModel", "first", "I", false)
  | 18 => ("PhraseMoodsModel", "firstMood", "I", false)
  | 19 => ("PhraseMoodsModel", "drawnWords", "[I", true)
  | 20 => ("PhraseMoodsModel", "z", "I", false)
  | 21 => ("PhraseMoodsModel", "made", "[I", true)
  | 22 => ("PhraseMoodsModel", "traySize", "[I", true)
  | 23 => ("PhraseMoodsModel", "placed", "[I", true)
  | 24 => ("PhraseMoodsModel", "sort", "[I", true)
  | 25 => ("PhraseMoodsModel", "count", "[I", true)
  | 26 => ("PhraseMoodsModel", "item", "[I", true)
  | _ => ("PhraseMoodsModel", "lifted", "[I", true)
def tyX12 : Nat → FieldType := fun k => match k with
  | 0 => .array .int
  | 1 => .array .int
  | 2 => .boolean
  | 3 => .array .int
  | 4 => .int
  | 5 => .array .int
  | 6 => .int
  | 7 => .int
  | 8 => .int
  | 9 => .array .int
  | 10 => .array .int
  | 11 => .array .int
  | 12 => .array .int
  | 13 => .int
  | 14 => .int
  | 15 => .array .int
  | 16 => .array .int
  | 17 => .int
  | 18 => .int
  | 19 => .array .int
  | 20 => .int
  | 21 => .array .int
  | 22 => .array .int
  | 23 => .array .int
  | 24 => .array .int
  | 25 => .array .int
  | 26 => .array .int
  | _ => .array .int
theorem nmX12 : ∀ a, a < 28 → ∀ b, b < 28 → a ≠ b → (TX12 a).2.1 ≠ (TX12 b).2.1 := by decide +kernel
theorem tyX12_ok : ∀ k, k < 28 → parseFieldDescriptor (TX12 k).2.2.1 = some (tyX12 k) := by decide +kernel
abbrev cX12_init : ByteArray := prog_14_method_1_code
def yX12_init : MethodName := ⟨RX12, "<init>", "()V"⟩
abbrev cX12_isIn : ByteArray := prog_14_method_2_code
def yX12_isIn : MethodName := ⟨RX12, "isIn", "(III)Z"⟩
abbrev cX12_isWord : ByteArray := prog_14_method_3_code
def yX12_isWord : MethodName := ⟨RX12, "isWord", "(I)Z"⟩
abbrev cX12_isVowel : ByteArray := prog_14_method_4_code
def yX12_isVowel : MethodName := ⟨RX12, "isVowel", "(I)Z"⟩
abbrev cX12_kind : ByteArray := prog_14_method_5_code
def yX12_kind : MethodName := ⟨RX12, "kind", "(I)I"⟩
abbrev cX12_gender : ByteArray := prog_14_method_6_code
def yX12_gender : MethodName := ⟨RX12, "gender", "(I)I"⟩
abbrev cX12_above : ByteArray := prog_14_method_7_code
def yX12_above : MethodName := ⟨RX12, "above", "(I)I"⟩
abbrev cX12_isUnder : ByteArray := prog_14_method_8_code
def yX12_isUnder : MethodName := ⟨RX12, "isUnder", "(II)Z"⟩
abbrev cX12_feed : ByteArray := prog_14_method_9_code
def yX12_feed : MethodName := ⟨RX12, "feed", "(IIIIII)I"⟩
abbrev cX12_letters : ByteArray := prog_14_method_10_code
def yX12_letters : MethodName := ⟨RX12, "letters", "(II)I"⟩
abbrev cX12_word : ByteArray := prog_14_method_11_code
def yX12_word : MethodName := ⟨RX12, "word", "(III)I"⟩
abbrev cX12_endAt : ByteArray := prog_14_method_12_code
def yX12_endAt : MethodName := ⟨RX12, "endAt", "(III)I"⟩
abbrev cX12_ending : ByteArray := prog_14_method_13_code
def yX12_ending : MethodName := ⟨RX12, "ending", "(III)I"⟩
abbrev cX12_joins : ByteArray := prog_14_method_14_code
def yX12_joins : MethodName := ⟨RX12, "joins", "(IZ)V"⟩
abbrev cX12_ends : ByteArray := prog_14_method_15_code
def yX12_ends : MethodName := ⟨RX12, "ends", "(I)V"⟩
abbrev cX12_forms : ByteArray := prog_14_method_16_code
def yX12_forms : MethodName := ⟨RX12, "forms", "(IIIII)V"⟩
abbrev cX12_told : ByteArray := prog_14_method_17_code
def yX12_told : MethodName := ⟨RX12, "told", "(II)I"⟩
abbrev cX12_taken : ByteArray := prog_14_method_18_code
def yX12_taken : MethodName := ⟨RX12, "taken", "(II)I"⟩
abbrev cX12_form : ByteArray := prog_14_method_19_code
def yX12_form : MethodName := ⟨RX12, "form", "(III)I"⟩
abbrev cX12_holes : ByteArray := prog_14_method_20_code
def yX12_holes : MethodName := ⟨RX12, "holes", "(I)I"⟩
abbrev cX12_ofHole : ByteArray := prog_14_method_21_code
def yX12_ofHole : MethodName := ⟨RX12, "ofHole", "(III)I"⟩
abbrev cX12_canBe : ByteArray := prog_14_method_22_code
def yX12_canBe : MethodName := ⟨RX12, "canBe", "(III)Z"⟩
abbrev cX12_here : ByteArray := prog_14_method_23_code
def yX12_here : MethodName := ⟨RX12, "here", "(I)I"⟩
abbrev cX12_isDigit : ByteArray := prog_14_method_24_code
def yX12_isDigit : MethodName := ⟨RX12, "isDigit", "(II)Z"⟩
abbrev cX12_isBlank : ByteArray := prog_14_method_25_code
def yX12_isBlank : MethodName := ⟨RX12, "isBlank", "(I)Z"⟩
abbrev cX12_reads : ByteArray := prog_14_method_26_code
def yX12_reads : MethodName := ⟨RX12, "reads", "(III)V"⟩
abbrev cX12_readsWord : ByteArray := prog_14_method_27_code
def yX12_readsWord : MethodName := ⟨RX12, "readsWord", "(I)V"⟩
abbrev cX12_readsFrame : ByteArray := prog_14_method_28_code
def yX12_readsFrame : MethodName := ⟨RX12, "readsFrame", "(I)V"⟩
abbrev cX12_frame : ByteArray := prog_14_method_29_code
def yX12_frame : MethodName := ⟨RX12, "frame", "()I"⟩
abbrev cX12_isFrame : ByteArray := prog_14_method_30_code
def yX12_isFrame : MethodName := ⟨RX12, "isFrame", "(I)Z"⟩
abbrev cX12_able : ByteArray := prog_14_method_31_code
def yX12_able : MethodName := ⟨RX12, "able", "(II)I"⟩
abbrev cX12_hole : ByteArray := prog_14_method_32_code
def yX12_hole : MethodName := ⟨RX12, "hole", "(III)I"⟩
abbrev cX12_holeOf : ByteArray := prog_14_method_33_code
def yX12_holeOf : MethodName := ⟨RX12, "holeOf", "(II)I"⟩
abbrev cX12_isFilled : ByteArray := prog_14_method_34_code
def yX12_isFilled : MethodName := ⟨RX12, "isFilled", "(II[I)Z"⟩
abbrev cX12_formsAt : ByteArray := prog_14_method_35_code
def yX12_formsAt : MethodName := ⟨RX12, "formsAt", "(III[III)V"⟩
abbrev cX12_says : ByteArray := prog_14_method_36_code
def yX12_says : MethodName := ⟨RX12, "says", "(II[III)V"⟩
abbrev cX12_numbers : ByteArray := prog_14_method_37_code
def yX12_numbers : MethodName := ⟨RX12, "numbers", "()I"⟩
abbrev cX12_saysDesk : ByteArray := prog_14_method_38_code
def yX12_saysDesk : MethodName := ⟨RX12, "saysDesk", "(II)V"⟩
abbrev cX12_saysDesk_ : ByteArray := prog_14_method_39_code
def yX12_saysDesk_ : MethodName := ⟨RX12, "saysDesk", "()V"⟩
abbrev cX12_desk : ByteArray := prog_14_method_40_code
def yX12_desk : MethodName := ⟨RX12, "desk", "(II)I"⟩
abbrev cX12_choose : ByteArray := prog_14_method_41_code
def yX12_choose : MethodName := ⟨RX12, "choose", "(II)I"⟩
abbrev cX12_number : ByteArray := prog_14_method_42_code
def yX12_number : MethodName := ⟨RX12, "number", "(II)I"⟩
abbrev cX12_said : ByteArray := prog_14_method_43_code
def yX12_said : MethodName := ⟨RX12, "said", "(I)I"⟩
abbrev cX12_spoken : ByteArray := prog_14_method_44_code
def yX12_spoken : MethodName := ⟨RX12, "spoken", "(I)I"⟩
abbrev cX12_text : ByteArray := prog_14_method_45_code
def yX12_text : MethodName := ⟨RX12, "text", "()I"⟩
abbrev cX12_takesText : ByteArray := prog_14_method_46_code
def yX12_takesText : MethodName := ⟨RX12, "takesText", "()V"⟩
abbrev cX12_parts : ByteArray := prog_14_method_47_code
def yX12_parts : MethodName := ⟨RX12, "parts", "()V"⟩
abbrev cX12_isLike : ByteArray := prog_14_method_48_code
def yX12_isLike : MethodName := ⟨RX12, "isLike", "(I)Z"⟩
abbrev cX12_apart : ByteArray := prog_14_method_49_code
def yX12_apart : MethodName := ⟨RX12, "apart", "(I)I"⟩
abbrev cX12_atHole : ByteArray := prog_14_method_50_code
def yX12_atHole : MethodName := ⟨RX12, "atHole", "(IIIIIZ)I"⟩
abbrev cX12_byNoun : ByteArray := prog_14_method_51_code
def yX12_byNoun : MethodName := ⟨RX12, "byNoun", "(IIIIIZ)I"⟩
abbrev cX12_byGroup : ByteArray := prog_14_method_52_code
def yX12_byGroup : MethodName := ⟨RX12, "byGroup", "(IIIZ)I"⟩
abbrev cX12_byFrame : ByteArray := prog_14_method_53_code
def yX12_byFrame : MethodName := ⟨RX12, "byFrame", "(IIZ)I"⟩
abbrev cX12_counted : ByteArray := prog_14_method_54_code
def yX12_counted : MethodName := ⟨RX12, "counted", "()I"⟩
abbrev cX12_readings : ByteArray := prog_14_method_55_code
def yX12_readings : MethodName := ⟨RX12, "readings", "(I)I"⟩
abbrev cX12_near : ByteArray := prog_14_method_56_code
def yX12_near : MethodName := ⟨RX12, "near", "(I)I"⟩
abbrev cX12_draws : ByteArray := prog_14_method_57_code
def yX12_draws : MethodName := ⟨RX12, "draws", "(I)I"⟩
abbrev cX12_ableAt : ByteArray := prog_14_method_58_code
def yX12_ableAt : MethodName := ⟨RX12, "ableAt", "(III)I"⟩
abbrev cX12_drawsLine : ByteArray := prog_14_method_59_code
def yX12_drawsLine : MethodName := ⟨RX12, "drawsLine", "(I)V"⟩
abbrev cX12_drawn : ByteArray := prog_14_method_60_code
def yX12_drawn : MethodName := ⟨RX12, "drawn", "(II)I"⟩
abbrev cX12_chance : ByteArray := prog_14_method_61_code
def yX12_chance : MethodName := ⟨RX12, "chance", "(III)I"⟩
abbrev cX12_tray : ByteArray := prog_14_method_62_code
def yX12_tray : MethodName := ⟨RX12, "tray", "(III)I"⟩
abbrev cX12_wrongPlace : ByteArray := prog_14_method_63_code
def yX12_wrongPlace : MethodName := ⟨RX12, "wrongPlace", "(II)I"⟩
abbrev cX12_lays : ByteArray := prog_14_method_64_code
def yX12_lays : MethodName := ⟨RX12, "lays", "(III)I"⟩
abbrev cX12_laid : ByteArray := prog_14_method_65_code
def yX12_laid : MethodName := ⟨RX12, "laid", "(II)I"⟩
abbrev cX12_like : ByteArray := prog_14_method_66_code
def yX12_like : MethodName := ⟨RX12, "like", "(II)I"⟩
abbrev cX12_unlike : ByteArray := prog_14_method_67_code
def yX12_unlike : MethodName := ⟨RX12, "unlike", "(I)I"⟩
abbrev cX12_tells : ByteArray := prog_14_method_68_code
def yX12_tells : MethodName := ⟨RX12, "tells", "(II)I"⟩
abbrev cX12_image : ByteArray := prog_14_method_69_code
def yX12_image : MethodName := ⟨RX12, "image", "()I"⟩
abbrev cX12_back : ByteArray := prog_14_method_70_code
def yX12_back : MethodName := ⟨RX12, "back", "()I"⟩
abbrev cX12_count : ByteArray := prog_14_method_71_code
def yX12_count : MethodName := ⟨RX12, "count", "(I)I"⟩
abbrev cX12_isSheet : ByteArray := prog_14_method_72_code
def yX12_isSheet : MethodName := ⟨RX12, "isSheet", "(I)Z"⟩
abbrev cX12_sheet : ByteArray := prog_14_method_73_code
def yX12_sheet : MethodName := ⟨RX12, "sheet", "(III)I"⟩
abbrev cX12_put : ByteArray := prog_14_method_74_code
def yX12_put : MethodName := ⟨RX12, "put", "(III)I"⟩
abbrev cX12_copy : ByteArray := prog_14_method_75_code
def yX12_copy : MethodName := ⟨RX12, "copy", "(IIIII)I"⟩
def RJxf58ca : String := "java/lang/Float"
abbrev cJxf58ca_isNaN_12338 : ByteArray := prog_15_method_6_code
def yJxf58ca_isNaN_12338 : MethodName := ⟨RJxf58ca, "isNaN", "(F)Z"⟩
abbrev cJxf58ca_floatToIntBits_5c35a : ByteArray := prog_15_method_24_code
def yJxf58ca_floatToIntBits_5c35a : MethodName := ⟨RJxf58ca, "floatToIntBits", "(F)I"⟩
def RJ9 : String := "java/lang/Math"
abbrev cJ9_max_7cf53 : ByteArray := prog_16_method_65_code
def yJ9_max_7cf53 : MethodName := ⟨RJ9, "max", "(II)I"⟩
abbrev cJ9_min_7cf53 : ByteArray := prog_16_method_69_code
def yJ9_min_7cf53 : MethodName := ⟨RJ9, "min", "(II)I"⟩
def RJ7 : String := "java/util/Arrays"
abbrev cJ7_fill_53178 : ByteArray := prog_19_method_103_code
def yJ7_fill_53178 : MethodName := ⟨RJ7, "fill", "([II)V"⟩
def RL : String := "PhraseMoodsLaw"
abbrev cL_law : ByteArray := code
def yL_law : MethodName := ⟨RL, "law", "([I)Z"⟩
end
section
theorem dX0_init_0 : decode cX0_init 0 = .ok (.aload_n 0, 1) := by decide +kernel
theorem dX0_init_1 : decode cX0_init 1 = .ok (.invokespecial 3, 3) := by decide +kernel
theorem dX0_init_4 : decode cX0_init 4 = .ok (.aload_n 0, 1) := by decide +kernel
theorem dX0_init_5 : decode cX0_init 5 = .ok (.bipush 20, 2) := by decide +kernel
theorem dX0_init_7 : decode cX0_init 7 = .ok (.anewarray 9, 3) := by decide +kernel
theorem dX0_init_10 : decode cX0_init 10 = .ok (.putfield 11, 3) := by decide +kernel
theorem dX0_init_13 : decode cX0_init 13 = .ok (.aload_n 0, 1) := by decide +kernel
theorem dX0_init_14 : decode cX0_init 14 = .ok (.bipush 32, 2) := by decide +kernel
theorem dX0_init_16 : decode cX0_init 16 = .ok (.anewarray 17, 3) := by decide +kernel
theorem dX0_init_19 : decode cX0_init 19 = .ok (.putfield 19, 3) := by decide +kernel
theorem dX0_init_22 : decode cX0_init 22 = .ok (.aload_n 0, 1) := by decide +kernel
theorem dX0_init_23 : decode cX0_init 23 = .ok (.iconst 3, 1) := by decide +kernel
theorem dX0_init_24 : decode cX0_init 24 = .ok (.anewarray 17, 3) := by decide +kernel
theorem dX0_init_27 : decode cX0_init 27 = .ok (.putfield 23, 3) := by decide +kernel
theorem dX0_init_30 : decode cX0_init 30 = .ok (.aload_n 0, 1) := by decide +kernel
theorem dX0_init_31 : decode cX0_init 31 = .ok (.iconst 5, 1) := by decide +kernel
theorem dX0_init_32 : decode cX0_init 32 = .ok (.anewarray 26, 3) := by decide +kernel
theorem dX0_init_35 : decode cX0_init 35 = .ok (.putfield 28, 3) := by decide +kernel
theorem dX0_init_38 : decode cX0_init 38 = .ok (.aload_n 0, 1) := by decide +kernel
theorem dX0_init_39 : decode cX0_init 39 = .ok (.new 17, 3) := by decide +kernel
theorem dX0_init_42 : decode cX0_init 42 = .ok (.dup, 1) := by decide +kernel
theorem dX0_init_43 : decode cX0_init 43 = .ok (.bipush 50, 2) := by decide +kernel
theorem dX0_init_45 : decode cX0_init 45 = .ok (.invokespecial 32, 3) := by decide +kernel
theorem dX0_init_48 : decode cX0_init 48 = .ok (.putfield 35, 3) := by decide +kernel
theorem dX0_init_51 : decode cX0_init 51 = .ok (.aload_n 0, 1) := by decide +kernel
theorem dX0_init_52 : decode cX0_init 52 = .ok (.new 39, 3) := by decide +kernel
theorem dX0_init_55 : decode cX0_init 55 = .ok (.dup, 1) := by decide +kernel
theorem dX0_init_56 : decode cX0_init 56 = .ok (.invokespecial 41, 3) := by decide +kernel
theorem dX0_init_59 : decode cX0_init 59 = .ok (.putfield 42, 3) := by decide +kernel
theorem dX0_init_62 : decode cX0_init 62 = .ok (.iconst 0, 1) := by decide +kernel
theorem dX0_init_63 : decode cX0_init 63 = .ok (.istore_n 1, 1) := by decide +kernel
theorem dX0_init_64 : decode cX0_init 64 = .ok (.iload_n 1, 1) := by decide +kernel
theorem dX0_init_65 : decode cX0_init 65 = .ok (.aload_n 0, 1) := by decide +kernel
theorem dX0_init_66 : decode cX0_init 66 = .ok (.getfield 11, 3) := by decide +kernel
theorem dX0_init_69 : decode cX0_init 69 = .ok (.arraylength, 1) := by decide +kernel
theorem dX0_init_70 : decode cX0_init 70 = .ok (.if_icmp .ge 23, 3) := by decide +kernel
theorem dX0_init_73 : decode cX0_init 73 = .ok (.aload_n 0, 1) := by decide +kernel
theorem dX0_init_74 : decode cX0_init 74 = .ok (.getfield 11, 3) := by decide +kernel
theorem dX0_init_77 : decode cX0_init 77 = .ok (.iload_n 1, 1) := by decide +kernel
theorem dX0_init_78 : decode cX0_init 78 = .ok (.new 9, 3) := by decide +kernel
theorem dX0_init_81 : decode cX0_init 81 = .ok (.dup, 1) := by decide +kernel
theorem dX0_init_82 : decode cX0_init 82 = .ok (.iload_n 1, 1) := by decide +kernel
theorem dX0_init_83 : decode cX0_init 83 = .ok (.invokespecial 46, 3) := by decide +kernel
theorem dX0_init_86 : decode cX0_init 86 = .ok (.aastore, 1) := by decide +kernel
theorem dX0_init_87 : decode cX0_init 87 = .ok (.iinc 1 1, 3) := by decide +kernel
theorem dX0_init_90 : decode cX0_init 90 = .ok (.goto (-26), 3) := by decide +kernel
theorem dX0_init_93 : decode cX0_init 93 = .ok (.iconst 0, 1) := by decide +kernel
theorem dX0_init_94 : decode cX0_init 94 = .ok (.istore_n 1, 1) := by decide +kernel
theorem dX0_init_95 : decode cX0_init 95 = .ok (.iload_n 1, 1) := by decide +kernel
theorem dX0_init_96 : decode cX0_init 96 = .ok (.aload_n 0, 1) := by decide +kernel
theorem dX0_init_97 : decode cX0_init 97 = .ok (.getfield 19, 3) := by decide +kernel
theorem dX0_init_100 : decode cX0_init 100 = .ok (.arraylength, 1) := by decide +kernel
theorem dX0_init_101 : decode cX0_init 101 = .ok (.if_icmp .ge 23, 3) := by decide +kernel
theorem dX0_init_104 : decode cX0_init 104 = .ok (.aload_n 0, 1) := by decide +kernel
theorem dX0_init_105 : decode cX0_init 105 = .ok (.getfield 19, 3) := by decide +kernel
theorem dX0_init_108 : decode cX0_init 108 = .ok (.iload_n 1, 1) := by decide +kernel
theorem dX0_init_109 : decode cX0_init 109 = .ok (.new 17, 3) := by decide +kernel
theorem dX0_init_112 : decode cX0_init 112 = .ok (.dup, 1) := by decide +kernel
theorem dX0_init_113 : decode cX0_init 113 = .ok (.iconst 3, 1) := by decide +kernel
theorem dX0_init_114 : decode cX0_init 114 = .ok (.invokespecial 32, 3) := by decide +kernel
theorem dX0_init_117 : decode cX0_init 117 = .ok (.aastore, 1) := by decide +kernel
theorem dX0_init_118 : decode cX0_init 118 = .ok (.iinc 1 1, 3) := by decide +kernel
theorem dX0_init_121 : decode cX0_init 121 = .ok (.goto (-26), 3) := by decide +kernel
theorem dX0_init_124 : decode cX0_init 124 = .ok (.iconst 0, 1) := by decide +kernel
theorem dX0_init_125 : decode cX0_init 125 = .ok (.istore_n 1, 1) := by decide +kernel
theorem dX0_init_126 : decode cX0_init 126 = .ok (.iload_n 1, 1) := by decide +kernel
theorem dX0_init_127 : decode cX0_init 127 = .ok (.aload_n 0, 1) := by decide +kernel
theorem dX0_init_128 : decode cX0_init 128 = .ok (.getfield 23, 3) := by decide +kernel
theorem dX0_init_131 : decode cX0_init 131 = .ok (.arraylength, 1) := by decide +kernel
theorem dX0_init_132 : decode cX0_init 132 = .ok (.if_icmp .ge 53, 3) := by decide +kernel
theorem dX0_init_135 : decode cX0_init 135 = .ok (.aload_n 0, 1) := by decide +kernel
theorem dX0_init_136 : decode cX0_init 136 = .ok (.getfield 23, 3) := by decide +kernel
theorem dX0_init_139 : decode cX0_init 139 = .ok (.iload_n 1, 1) := by decide +kernel
theorem dX0_init_140 : decode cX0_init 140 = .ok (.new 17, 3) := by decide +kernel
theorem dX0_init_143 : decode cX0_init 143 = .ok (.dup, 1) := by decide +kernel
theorem dX0_init_144 : decode cX0_init 144 = .ok (.iconst 1, 1) := by decide +kernel
theorem dX0_init_145 : decode cX0_init 145 = .ok (.invokespecial 32, 3) := by decide +kernel
theorem dX0_init_148 : decode cX0_init 148 = .ok (.aastore, 1) := by decide +kernel
theorem dX0_init_149 : decode cX0_init 149 = .ok (.aload_n 0, 1) := by decide +kernel
theorem dX0_init_150 : decode cX0_init 150 = .ok (.getfield 23, 3) := by decide +kernel
theorem dX0_init_153 : decode cX0_init 153 = .ok (.iload_n 1, 1) := by decide +kernel
theorem dX0_init_154 : decode cX0_init 154 = .ok (.aaload, 1) := by decide +kernel
theorem dX0_init_155 : decode cX0_init 155 = .ok (.iload_n 1, 1) := by decide +kernel
theorem dX0_init_156 : decode cX0_init 156 = .ok (.ifCond .ne 8, 3) := by decide +kernel
theorem dX0_init_159 : decode cX0_init 159 = .ok (.bipush 111, 2) := by decide +kernel
theorem dX0_init_161 : decode cX0_init 161 = .ok (.goto 15, 3) := by decide +kernel
theorem dX0_init_164 : decode cX0_init 164 = .ok (.iload_n 1, 1) := by decide +kernel
theorem dX0_init_165 : decode cX0_init 165 = .ok (.iconst 1, 1) := by decide +kernel
theorem dX0_init_166 : decode cX0_init 166 = .ok (.if_icmp .ne 8, 3) := by decide +kernel
theorem dX0_init_169 : decode cX0_init 169 = .ok (.bipush 97, 2) := by decide +kernel
theorem dX0_init_171 : decode cX0_init 171 = .ok (.goto 5, 3) := by decide +kernel
theorem dX0_init_174 : decode cX0_init 174 = .ok (.bipush 101, 2) := by decide +kernel
theorem dX0_init_176 : decode cX0_init 176 = .ok (.invokevirtual 47, 3) := by decide +kernel
theorem dX0_init_179 : decode cX0_init 179 = .ok (.iinc 1 1, 3) := by decide +kernel
theorem dX0_init_182 : decode cX0_init 182 = .ok (.goto (-56), 3) := by decide +kernel
theorem dX0_init_185 : decode cX0_init 185 = .ok (.iconst 0, 1) := by decide +kernel
theorem dX0_init_186 : decode cX0_init 186 = .ok (.istore_n 1, 1) := by decide +kernel
theorem dX0_init_187 : decode cX0_init 187 = .ok (.iload_n 1, 1) := by decide +kernel
theorem dX0_init_188 : decode cX0_init 188 = .ok (.aload_n 0, 1) := by decide +kernel
theorem dX0_init_189 : decode cX0_init 189 = .ok (.getfield 28, 3) := by decide +kernel
theorem dX0_init_192 : decode cX0_init 192 = .ok (.arraylength, 1) := by decide +kernel
theorem dX0_init_193 : decode cX0_init 193 = .ok (.if_icmp .ge 22, 3) := by decide +kernel
theorem dX0_init_196 : decode cX0_init 196 = .ok (.aload_n 0, 1) := by decide +kernel
theorem dX0_init_197 : decode cX0_init 197 = .ok (.getfield 28, 3) := by decide +kernel
theorem dX0_init_200 : decode cX0_init 200 = .ok (.iload_n 1, 1) := by decide +kernel
theorem dX0_init_201 : decode cX0_init 201 = .ok (.new 26, 3) := by decide +kernel
theorem dX0_init_204 : decode cX0_init 204 = .ok (.dup, 1) := by decide +kernel
theorem dX0_init_205 : decode cX0_init 205 = .ok (.invokespecial 50, 3) := by decide +kernel
theorem dX0_init_208 : decode cX0_init 208 = .ok (.aastore, 1) := by decide +kernel
theorem dX0_init_209 : decode cX0_init 209 = .ok (.iinc 1 1, 3) := by decide +kernel
theorem dX0_init_212 : decode cX0_init 212 = .ok (.goto (-25), 3) := by decide +kernel
theorem dX0_init_215 : decode cX0_init 215 = .ok (.return_, 1) := by decide +kernel
theorem dX0_become_0 : decode cX0_become 0 = .ok (.iconst 0, 1) := by decide +kernel
theorem dX0_become_1 : decode cX0_become 1 = .ok (.istore_n 2, 1) := by decide +kernel
theorem dX0_become_2 : decode cX0_become 2 = .ok (.iload_n 2, 1) := by decide +kernel
theorem dX0_become_3 : decode cX0_become 3 = .ok (.aload_n 0, 1) := by decide +kernel
theorem dX0_become_4 : decode cX0_become 4 = .ok (.getfield 11, 3) := by decide +kernel
theorem dX0_become_7 : decode cX0_become 7 = .ok (.arraylength, 1) := by decide +kernel
theorem dX0_become_8 : decode cX0_become 8 = .ok (.if_icmp .ge 24, 3) := by decide +kernel
theorem dX0_become_11 : decode cX0_become 11 = .ok (.aload_n 0, 1) := by decide +kernel
theorem dX0_become_12 : decode cX0_become 12 = .ok (.getfield 11, 3) := by decide +kernel
theorem dX0_become_15 : decode cX0_become 15 = .ok (.iload_n 2, 1) := by decide +kernel
theorem dX0_become_16 : decode cX0_become 16 = .ok (.aaload, 1) := by decide +kernel
theorem dX0_become_17 : decode cX0_become 17 = .ok (.aload_n 1, 1) := by decide +kernel
theorem dX0_become_18 : decode cX0_become 18 = .ok (.getfield 11, 3) := by decide +kernel
theorem dX0_become_21 : decode cX0_become 21 = .ok (.iload_n 2, 1) := by decide +kernel
theorem dX0_become_22 : decode cX0_become 22 = .ok (.aaload, 1) := by decide +kernel
theorem dX0_become_23 : decode cX0_become 23 = .ok (.invokevirtual 51, 3) := by decide +kernel
theorem dX0_become_26 : decode cX0_become 26 = .ok (.iinc 2 1, 3) := by decide +kernel
theorem dX0_become_29 : decode cX0_become 29 = .ok (.goto (-27), 3) := by decide +kernel
theorem dX0_become_32 : decode cX0_become 32 = .ok (.aload_n 0, 1) := by decide +kernel
theorem dX0_become_33 : decode cX0_become 33 = .ok (.aload_n 1, 1) := by decide +kernel
theorem dX0_become_34 : decode cX0_become 34 = .ok (.getfield 55, 3) := by decide +kernel
theorem dX0_become_37 : decode cX0_become 37 = .ok (.putfield 55, 3) := by decide +kernel
theorem dX0_become_40 : decode cX0_become 40 = .ok (.iconst 0, 1) := by decide +kernel
theorem dX0_become_41 : decode cX0_become 41 = .ok (.istore_n 2, 1) := by decide +kernel
theorem dX0_become_42 : decode cX0_become 42 = .ok (.iload_n 2, 1) := by decide +kernel
theorem dX0_become_43 : decode cX0_become 43 = .ok (.aload_n 0, 1) := by decide +kernel
theorem dX0_become_44 : decode cX0_become 44 = .ok (.getfield 19, 3) := by decide +kernel
theorem dX0_become_47 : decode cX0_become 47 = .ok (.arraylength, 1) := by decide +kernel
theorem dX0_become_48 : decode cX0_become 48 = .ok (.if_icmp .ge 24, 3) := by decide +kernel
theorem dX0_become_51 : decode cX0_become 51 = .ok (.aload_n 0, 1) := by decide +kernel
theorem dX0_become_52 : decode cX0_become 52 = .ok (.getfield 19, 3) := by decide +kernel
theorem dX0_become_55 : decode cX0_become 55 = .ok (.iload_n 2, 1) := by decide +kernel
theorem dX0_become_56 : decode cX0_become 56 = .ok (.aaload, 1) := by decide +kernel
theorem dX0_become_57 : decode cX0_become 57 = .ok (.aload_n 1, 1) := by decide +kernel
theorem dX0_become_58 : decode cX0_become 58 = .ok (.getfield 19, 3) := by decide +kernel
theorem dX0_become_61 : decode cX0_become 61 = .ok (.iload_n 2, 1) := by decide +kernel
theorem dX0_become_62 : decode cX0_become 62 = .ok (.aaload, 1) := by decide +kernel
theorem dX0_become_63 : decode cX0_become 63 = .ok (.invokevirtual 59, 3) := by decide +kernel
theorem dX0_become_66 : decode cX0_become 66 = .ok (.iinc 2 1, 3) := by decide +kernel
theorem dX0_become_69 : decode cX0_become 69 = .ok (.goto (-27), 3) := by decide +kernel
theorem dX0_become_72 : decode cX0_become 72 = .ok (.iconst 0, 1) := by decide +kernel
theorem dX0_become_73 : decode cX0_become 73 = .ok (.istore_n 2, 1) := by decide +kernel
theorem dX0_become_74 : decode cX0_become 74 = .ok (.iload_n 2, 1) := by decide +kernel
theorem dX0_become_75 : decode cX0_become 75 = .ok (.aload_n 0, 1) := by decide +kernel
theorem dX0_become_76 : decode cX0_become 76 = .ok (.getfield 28, 3) := by decide +kernel
theorem dX0_become_79 : decode cX0_become 79 = .ok (.arraylength, 1) := by decide +kernel
theorem dX0_become_80 : decode cX0_become 80 = .ok (.if_icmp .ge 24, 3) := by decide +kernel
theorem dX0_become_83 : decode cX0_become 83 = .ok (.aload_n 0, 1) := by decide +kernel
theorem dX0_become_84 : decode cX0_become 84 = .ok (.getfield 28, 3) := by decide +kernel
theorem dX0_become_87 : decode cX0_become 87 = .ok (.iload_n 2, 1) := by decide +kernel
theorem dX0_become_88 : decode cX0_become 88 = .ok (.aaload, 1) := by decide +kernel
theorem dX0_become_89 : decode cX0_become 89 = .ok (.aload_n 1, 1) := by decide +kernel
theorem dX0_become_90 : decode cX0_become 90 = .ok (.getfield 28, 3) := by decide +kernel
theorem dX0_become_93 : decode cX0_become 93 = .ok (.iload_n 2, 1) := by decide +kernel
theorem dX0_become_94 : decode cX0_become 94 = .ok (.aaload, 1) := by decide +kernel
theorem dX0_become_95 : decode cX0_become 95 = .ok (.invokevirtual 62, 3) := by decide +kernel
theorem dX0_become_98 : decode cX0_become 98 = .ok (.iinc 2 1, 3) := by decide +kernel
theorem dX0_become_101 : decode cX0_become 101 = .ok (.goto (-27), 3) := by decide +kernel
theorem dX0_become_104 : decode cX0_become 104 = .ok (.aload_n 0, 1) := by decide +kernel
theorem dX0_become_105 : decode cX0_become 105 = .ok (.aload_n 1, 1) := by decide +kernel
theorem dX0_become_106 : decode cX0_become 106 = .ok (.getfield 65, 3) := by decide +kernel
theorem dX0_become_109 : decode cX0_become 109 = .ok (.putfield 65, 3) := by decide +kernel
theorem dX0_become_112 : decode cX0_become 112 = .ok (.aload_n 0, 1) := by decide +kernel
theorem dX0_become_113 : decode cX0_become 113 = .ok (.getfield 35, 3) := by decide +kernel
theorem dX0_become_116 : decode cX0_become 116 = .ok (.aload_n 1, 1) := by decide +kernel
theorem dX0_become_117 : decode cX0_become 117 = .ok (.getfield 35, 3) := by decide +kernel
theorem dX0_become_120 : decode cX0_become 120 = .ok (.invokevirtual 59, 3) := by decide +kernel
theorem dX0_become_123 : decode cX0_become 123 = .ok (.aload_n 0, 1) := by decide +kernel
theorem dX0_become_124 : decode cX0_become 124 = .ok (.getfield 42, 3) := by decide +kernel
theorem dX0_become_127 : decode cX0_become 127 = .ok (.aload_n 1, 1) := by decide +kernel
theorem dX0_become_128 : decode cX0_become 128 = .ok (.getfield 42, 3) := by decide +kernel
theorem dX0_become_131 : decode cX0_become 131 = .ok (.invokevirtual 68, 3) := by decide +kernel
theorem dX0_become_134 : decode cX0_become 134 = .ok (.return_, 1) := by decide +kernel
theorem dX0_wordAt_0 : decode cX0_wordAt 0 = .ok (.iload_n 1, 1) := by decide +kernel
theorem dX0_wordAt_1 : decode cX0_wordAt 1 = .ok (.ifCond .lt 20, 3) := by decide +kernel
theorem dX0_wordAt_4 : decode cX0_wordAt 4 = .ok (.iload_n 1, 1) := by decide +kernel
theorem dX0_wordAt_5 : decode cX0_wordAt 5 = .ok (.aload_n 0, 1) := by decide +kernel
theorem dX0_wordAt_6 : decode cX0_wordAt 6 = .ok (.getfield 55, 3) := by decide +kernel
theorem dX0_wordAt_9 : decode cX0_wordAt 9 = .ok (.if_icmp .ge 12, 3) := by decide +kernel
theorem dX0_wordAt_12 : decode cX0_wordAt 12 = .ok (.aload_n 0, 1) := by decide +kernel
theorem dX0_wordAt_13 : decode cX0_wordAt 13 = .ok (.getfield 11, 3) := by decide +kernel
theorem dX0_wordAt_16 : decode cX0_wordAt 16 = .ok (.iload_n 1, 1) := by decide +kernel
theorem dX0_wordAt_17 : decode cX0_wordAt 17 = .ok (.aaload, 1) := by decide +kernel
theorem dX0_wordAt_18 : decode cX0_wordAt 18 = .ok (.goto 4, 3) := by decide +kernel
theorem dX0_wordAt_21 : decode cX0_wordAt 21 = .ok (.aconst_null, 1) := by decide +kernel
theorem dX0_wordAt_22 : decode cX0_wordAt 22 = .ok (.areturn, 1) := by decide +kernel
theorem dX0_frameAt_0 : decode cX0_frameAt 0 = .ok (.iload_n 1, 1) := by decide +kernel
theorem dX0_frameAt_1 : decode cX0_frameAt 1 = .ok (.ifCond .lt 20, 3) := by decide +kernel
theorem dX0_frameAt_4 : decode cX0_frameAt 4 = .ok (.iload_n 1, 1) := by decide +kernel
theorem dX0_frameAt_5 : decode cX0_frameAt 5 = .ok (.aload_n 0, 1) := by decide +kernel
theorem dX0_frameAt_6 : decode cX0_frameAt 6 = .ok (.getfield 65, 3) := by decide +kernel
theorem dX0_frameAt_9 : decode cX0_frameAt 9 = .ok (.if_icmp .ge 12, 3) := by decide +kernel
theorem dX0_frameAt_12 : decode cX0_frameAt 12 = .ok (.aload_n 0, 1) := by decide +kernel
theorem dX0_frameAt_13 : decode cX0_frameAt 13 = .ok (.getfield 28, 3) := by decide +kernel
theorem dX0_frameAt_16 : decode cX0_frameAt 16 = .ok (.iload_n 1, 1) := by decide +kernel
theorem dX0_frameAt_17 : decode cX0_frameAt 17 = .ok (.aaload, 1) := by decide +kernel
theorem dX0_frameAt_18 : decode cX0_frameAt 18 = .ok (.goto 4, 3) := by decide +kernel
theorem dX0_frameAt_21 : decode cX0_frameAt 21 = .ok (.aconst_null, 1) := by decide +kernel
theorem dX0_frameAt_22 : decode cX0_frameAt 22 = .ok (.areturn, 1) := by decide +kernel
theorem dX0_endingAt_0 : decode cX0_endingAt 0 = .ok (.iload_n 1, 1) := by decide +kernel
theorem dX0_endingAt_1 : decode cX0_endingAt 1 = .ok (.iconst 4, 1) := by decide +kernel
theorem dX0_endingAt_2 : decode cX0_endingAt 2 = .ok (.invokestatic 71, 3) := by decide +kernel
theorem dX0_endingAt_5 : decode cX0_endingAt 5 = .ok (.ifCond .eq 23, 3) := by decide +kernel
theorem dX0_endingAt_8 : decode cX0_endingAt 8 = .ok (.iload_n 2, 1) := by decide +kernel
theorem dX0_endingAt_9 : decode cX0_endingAt 9 = .ok (.iconst 4, 1) := by decide +kernel
theorem dX0_endingAt_10 : decode cX0_endingAt 10 = .ok (.invokestatic 71, 3) := by decide +kernel
theorem dX0_endingAt_13 : decode cX0_endingAt 13 = .ok (.ifCond .eq 15, 3) := by decide +kernel
theorem dX0_endingAt_16 : decode cX0_endingAt 16 = .ok (.iload_n 3, 1) := by decide +kernel
theorem dX0_endingAt_17 : decode cX0_endingAt 17 = .ok (.iconst 2, 1) := by decide +kernel
theorem dX0_endingAt_18 : decode cX0_endingAt 18 = .ok (.invokestatic 71, 3) := by decide +kernel
theorem dX0_endingAt_21 : decode cX0_endingAt 21 = .ok (.ifCond .eq 7, 3) := by decide +kernel
theorem dX0_endingAt_24 : decode cX0_endingAt 24 = .ok (.iconst 1, 1) := by decide +kernel
theorem dX0_endingAt_25 : decode cX0_endingAt 25 = .ok (.goto 4, 3) := by decide +kernel
theorem dX0_endingAt_28 : decode cX0_endingAt 28 = .ok (.iconst 0, 1) := by decide +kernel
theorem dX0_endingAt_29 : decode cX0_endingAt 29 = .ok (.istore 4, 2) := by decide +kernel
theorem dX0_endingAt_31 : decode cX0_endingAt 31 = .ok (.iload 4, 2) := by decide +kernel
theorem dX0_endingAt_33 : decode cX0_endingAt 33 = .ok (.ifCond .eq 20, 3) := by decide +kernel
theorem dX0_endingAt_36 : decode cX0_endingAt 36 = .ok (.aload_n 0, 1) := by decide +kernel
theorem dX0_endingAt_37 : decode cX0_endingAt 37 = .ok (.getfield 19, 3) := by decide +kernel
theorem dX0_endingAt_40 : decode cX0_endingAt 40 = .ok (.iload_n 1, 1) := by decide +kernel
theorem dX0_endingAt_41 : decode cX0_endingAt 41 = .ok (.iconst 4, 1) := by decide +kernel
theorem dX0_endingAt_42 : decode cX0_endingAt 42 = .ok (.imul, 1) := by decide +kernel
theorem dX0_endingAt_43 : decode cX0_endingAt 43 = .ok (.iload_n 2, 1) := by decide +kernel
theorem dX0_endingAt_44 : decode cX0_endingAt 44 = .ok (.iadd, 1) := by decide +kernel
theorem dX0_endingAt_45 : decode cX0_endingAt 45 = .ok (.iconst 2, 1) := by decide +kernel
theorem dX0_endingAt_46 : decode cX0_endingAt 46 = .ok (.imul, 1) := by decide +kernel
theorem dX0_endingAt_47 : decode cX0_endingAt 47 = .ok (.iload_n 3, 1) := by decide +kernel
theorem dX0_endingAt_48 : decode cX0_endingAt 48 = .ok (.iadd, 1) := by decide +kernel
theorem dX0_endingAt_49 : decode cX0_endingAt 49 = .ok (.aaload, 1) := by decide +kernel
theorem dX0_endingAt_50 : decode cX0_endingAt 50 = .ok (.goto 4, 3) := by decide +kernel
theorem dX0_endingAt_53 : decode cX0_endingAt 53 = .ok (.aconst_null, 1) := by decide +kernel
theorem dX0_endingAt_54 : decode cX0_endingAt 54 = .ok (.areturn, 1) := by decide +kernel
theorem dX0_addWord_0 : decode cX0_addWord 0 = .ok (.aload_n 0, 1) := by decide +kernel
theorem dX0_addWord_1 : decode cX0_addWord 1 = .ok (.getfield 55, 3) := by decide +kernel
theorem dX0_addWord_4 : decode cX0_addWord 4 = .ok (.aload_n 0, 1) := by decide +kernel
theorem dX0_addWord_5 : decode cX0_addWord 5 = .ok (.getfield 11, 3) := by decide +kernel
theorem dX0_addWord_8 : decode cX0_addWord 8 = .ok (.arraylength, 1) := by decide +kernel
theorem dX0_addWord_9 : decode cX0_addWord 9 = .ok (.if_icmp .lt 6, 3) := by decide +kernel
theorem dX0_addWord_12 : decode cX0_addWord 12 = .ok (.bipush (-4), 2) := by decide +kernel
theorem dX0_addWord_14 : decode cX0_addWord 14 = .ok (.ireturn, 1) := by decide +kernel
theorem dX0_addWord_15 : decode cX0_addWord 15 = .ok (.aload_n 0, 1) := by decide +kernel
theorem dX0_addWord_16 : decode cX0_addWord 16 = .ok (.getfield 11, 3) := by decide +kernel
theorem dX0_addWord_19 : decode cX0_addWord 19 = .ok (.aload_n 0, 1) := by decide +kernel
theorem dX0_addWord_20 : decode cX0_addWord 20 = .ok (.getfield 55, 3) := by decide +kernel
theorem dX0_addWord_23 : decode cX0_addWord 23 = .ok (.aaload, 1) := by decide +kernel
theorem dX0_addWord_24 : decode cX0_addWord 24 = .ok (.aload_n 1, 1) := by decide +kernel
theorem dX0_addWord_25 : decode cX0_addWord 25 = .ok (.iload_n 2, 1) := by decide +kernel
theorem dX0_addWord_26 : decode cX0_addWord 26 = .ok (.iload_n 3, 1) := by decide +kernel
theorem dX0_addWord_27 : decode cX0_addWord 27 = .ok (.iload 4, 2) := by decide +kernel
theorem dX0_addWord_29 : decode cX0_addWord 29 = .ok (.invokevirtual 75, 3) := by decide +kernel
theorem dX0_addWord_32 : decode cX0_addWord 32 = .ok (.aload_n 0, 1) := by decide +kernel
theorem dX0_addWord_33 : decode cX0_addWord 33 = .ok (.dup, 1) := by decide +kernel
theorem dX0_addWord_34 : decode cX0_addWord 34 = .ok (.getfield 55, 3) := by decide +kernel
theorem dX0_addWord_37 : decode cX0_addWord 37 = .ok (.iconst 1, 1) := by decide +kernel
theorem dX0_addWord_38 : decode cX0_addWord 38 = .ok (.iadd, 1) := by decide +kernel
theorem dX0_addWord_39 : decode cX0_addWord 39 = .ok (.putfield 55, 3) := by decide +kernel
theorem dX0_addWord_42 : decode cX0_addWord 42 = .ok (.aload_n 0, 1) := by decide +kernel
theorem dX0_addWord_43 : decode cX0_addWord 43 = .ok (.getfield 55, 3) := by decide +kernel
theorem dX0_addWord_46 : decode cX0_addWord 46 = .ok (.iconst 1, 1) := by decide +kernel
theorem dX0_addWord_47 : decode cX0_addWord 47 = .ok (.isub, 1) := by decide +kernel
theorem dX0_addWord_48 : decode cX0_addWord 48 = .ok (.ireturn, 1) := by decide +kernel
theorem dX0_addFrame_0 : decode cX0_addFrame 0 = .ok (.aload_n 0, 1) := by decide +kernel
theorem dX0_addFrame_1 : decode cX0_addFrame 1 = .ok (.getfield 65, 3) := by decide +kernel
theorem dX0_addFrame_4 : decode cX0_addFrame 4 = .ok (.aload_n 0, 1) := by decide +kernel
theorem dX0_addFrame_5 : decode cX0_addFrame 5 = .ok (.getfield 28, 3) := by decide +kernel
theorem dX0_addFrame_8 : decode cX0_addFrame 8 = .ok (.arraylength, 1) := by decide +kernel
theorem dX0_addFrame_9 : decode cX0_addFrame 9 = .ok (.if_icmp .lt 6, 3) := by decide +kernel
theorem dX0_addFrame_12 : decode cX0_addFrame 12 = .ok (.bipush (-4), 2) := by decide +kernel
theorem dX0_addFrame_14 : decode cX0_addFrame 14 = .ok (.ireturn, 1) := by decide +kernel
theorem dX0_addFrame_15 : decode cX0_addFrame 15 = .ok (.aload_n 0, 1) := by decide +kernel
theorem dX0_addFrame_16 : decode cX0_addFrame 16 = .ok (.getfield 28, 3) := by decide +kernel
theorem dX0_addFrame_19 : decode cX0_addFrame 19 = .ok (.aload_n 0, 1) := by decide +kernel
theorem dX0_addFrame_20 : decode cX0_addFrame 20 = .ok (.getfield 65, 3) := by decide +kernel
theorem dX0_addFrame_23 : decode cX0_addFrame 23 = .ok (.aaload, 1) := by decide +kernel
theorem dX0_addFrame_24 : decode cX0_addFrame 24 = .ok (.aload_n 1, 1) := by decide +kernel
theorem dX0_addFrame_25 : decode cX0_addFrame 25 = .ok (.invokevirtual 62, 3) := by decide +kernel
theorem dX0_addFrame_28 : decode cX0_addFrame 28 = .ok (.aload_n 0, 1) := by decide +kernel
theorem dX0_addFrame_29 : decode cX0_addFrame 29 = .ok (.dup, 1) := by decide +kernel
theorem dX0_addFrame_30 : decode cX0_addFrame 30 = .ok (.getfield 65, 3) := by decide +kernel
theorem dX0_addFrame_33 : decode cX0_addFrame 33 = .ok (.iconst 1, 1) := by decide +kernel
theorem dX0_addFrame_34 : decode cX0_addFrame 34 = .ok (.iadd, 1) := by decide +kernel
theorem dX0_addFrame_35 : decode cX0_addFrame 35 = .ok (.putfield 65, 3) := by decide +kernel
theorem dX0_addFrame_38 : decode cX0_addFrame 38 = .ok (.aload_n 0, 1) := by decide +kernel
theorem dX0_addFrame_39 : decode cX0_addFrame 39 = .ok (.getfield 65, 3) := by decide +kernel
theorem dX0_addFrame_42 : decode cX0_addFrame 42 = .ok (.iconst 1, 1) := by decide +kernel
theorem dX0_addFrame_43 : decode cX0_addFrame 43 = .ok (.isub, 1) := by decide +kernel
theorem dX0_addFrame_44 : decode cX0_addFrame 44 = .ok (.ireturn, 1) := by decide +kernel
theorem dX0_wordsFor_0 : decode cX0_wordsFor 0 = .ok (.iconst 0, 1) := by decide +kernel
theorem dX0_wordsFor_1 : decode cX0_wordsFor 1 = .ok (.istore_n 3, 1) := by decide +kernel
theorem dX0_wordsFor_2 : decode cX0_wordsFor 2 = .ok (.iconst 0, 1) := by decide +kernel
theorem dX0_wordsFor_3 : decode cX0_wordsFor 3 = .ok (.istore 4, 2) := by decide +kernel
theorem dX0_wordsFor_5 : decode cX0_wordsFor 5 = .ok (.iload 4, 2) := by decide +kernel
theorem dX0_wordsFor_7 : decode cX0_wordsFor 7 = .ok (.aload_n 0, 1) := by decide +kernel
theorem dX0_wordsFor_8 : decode cX0_wordsFor 8 = .ok (.getfield 55, 3) := by decide +kernel
theorem dX0_wordsFor_11 : decode cX0_wordsFor 11 = .ok (.if_icmp .ge 32, 3) := by decide +kernel
theorem dX0_wordsFor_14 : decode cX0_wordsFor 14 = .ok (.iload_n 3, 1) := by decide +kernel
theorem dX0_wordsFor_15 : decode cX0_wordsFor 15 = .ok (.aload_n 1, 1) := by decide +kernel
theorem dX0_wordsFor_16 : decode cX0_wordsFor 16 = .ok (.iload_n 2, 1) := by decide +kernel
theorem dX0_wordsFor_17 : decode cX0_wordsFor 17 = .ok (.aload_n 0, 1) := by decide +kernel
theorem dX0_wordsFor_18 : decode cX0_wordsFor 18 = .ok (.getfield 11, 3) := by decide +kernel
theorem dX0_wordsFor_21 : decode cX0_wordsFor 21 = .ok (.iload 4, 2) := by decide +kernel
theorem dX0_wordsFor_23 : decode cX0_wordsFor 23 = .ok (.aaload, 1) := by decide +kernel
theorem dX0_wordsFor_24 : decode cX0_wordsFor 24 = .ok (.invokevirtual 79, 3) := by decide +kernel
theorem dX0_wordsFor_27 : decode cX0_wordsFor 27 = .ok (.ifCond .eq 7, 3) := by decide +kernel
theorem dX0_wordsFor_30 : decode cX0_wordsFor 30 = .ok (.iconst 1, 1) := by decide +kernel
theorem dX0_wordsFor_31 : decode cX0_wordsFor 31 = .ok (.goto 4, 3) := by decide +kernel
theorem dX0_wordsFor_34 : decode cX0_wordsFor 34 = .ok (.iconst 0, 1) := by decide +kernel
theorem dX0_wordsFor_35 : decode cX0_wordsFor 35 = .ok (.iadd, 1) := by decide +kernel
theorem dX0_wordsFor_36 : decode cX0_wordsFor 36 = .ok (.istore_n 3, 1) := by decide +kernel
theorem dX0_wordsFor_37 : decode cX0_wordsFor 37 = .ok (.iinc 4 1, 3) := by decide +kernel
theorem dX0_wordsFor_40 : decode cX0_wordsFor 40 = .ok (.goto (-35), 3) := by decide +kernel
theorem dX0_wordsFor_43 : decode cX0_wordsFor 43 = .ok (.iload_n 3, 1) := by decide +kernel
theorem dX0_wordsFor_44 : decode cX0_wordsFor 44 = .ok (.ireturn, 1) := by decide +kernel
theorem dX0_wordFor_0 : decode cX0_wordFor 0 = .ok (.iload_n 3, 1) := by decide +kernel
theorem dX0_wordFor_1 : decode cX0_wordFor 1 = .ok (.istore 4, 2) := by decide +kernel
theorem dX0_wordFor_3 : decode cX0_wordFor 3 = .ok (.iconst 0, 1) := by decide +kernel
theorem dX0_wordFor_4 : decode cX0_wordFor 4 = .ok (.istore 5, 2) := by decide +kernel
theorem dX0_wordFor_6 : decode cX0_wordFor 6 = .ok (.iload 5, 2) := by decide +kernel
theorem dX0_wordFor_8 : decode cX0_wordFor 8 = .ok (.aload_n 0, 1) := by decide +kernel
theorem dX0_wordFor_9 : decode cX0_wordFor 9 = .ok (.getfield 55, 3) := by decide +kernel
theorem dX0_wordFor_12 : decode cX0_wordFor 12 = .ok (.if_icmp .ge 35, 3) := by decide +kernel
theorem dX0_wordFor_15 : decode cX0_wordFor 15 = .ok (.aload_n 1, 1) := by decide +kernel
theorem dX0_wordFor_16 : decode cX0_wordFor 16 = .ok (.iload_n 2, 1) := by decide +kernel
theorem dX0_wordFor_17 : decode cX0_wordFor 17 = .ok (.aload_n 0, 1) := by decide +kernel
theorem dX0_wordFor_18 : decode cX0_wordFor 18 = .ok (.getfield 11, 3) := by decide +kernel
theorem dX0_wordFor_21 : decode cX0_wordFor 21 = .ok (.iload 5, 2) := by decide +kernel
theorem dX0_wordFor_23 : decode cX0_wordFor 23 = .ok (.aaload, 1) := by decide +kernel
theorem dX0_wordFor_24 : decode cX0_wordFor 24 = .ok (.invokevirtual 79, 3) := by decide +kernel
theorem dX0_wordFor_27 : decode cX0_wordFor 27 = .ok (.ifCond .eq 14, 3) := by decide +kernel
theorem dX0_wordFor_30 : decode cX0_wordFor 30 = .ok (.iload 4, 2) := by decide +kernel
theorem dX0_wordFor_32 : decode cX0_wordFor 32 = .ok (.ifCond .ne 6, 3) := by decide +kernel
theorem dX0_wordFor_35 : decode cX0_wordFor 35 = .ok (.iload 5, 2) := by decide +kernel
theorem dX0_wordFor_37 : decode cX0_wordFor 37 = .ok (.ireturn, 1) := by decide +kernel
theorem dX0_wordFor_38 : decode cX0_wordFor 38 = .ok (.iinc 4 (-1), 3) := by decide +kernel
theorem dX0_wordFor_41 : decode cX0_wordFor 41 = .ok (.iinc 5 1, 3) := by decide +kernel
theorem dX0_wordFor_44 : decode cX0_wordFor 44 = .ok (.goto (-38), 3) := by decide +kernel
theorem dX0_wordFor_47 : decode cX0_wordFor 47 = .ok (.iconst (-1), 1) := by decide +kernel
theorem dX0_wordFor_48 : decode cX0_wordFor 48 = .ok (.ireturn, 1) := by decide +kernel
theorem dX0_spell_0 : decode cX0_spell 0 = .ok (.iload_n 2, 1) := by decide +kernel
theorem dX0_spell_1 : decode cX0_spell 1 = .ok (.iconst 4, 1) := by decide +kernel
theorem dX0_spell_2 : decode cX0_spell 2 = .ok (.irem, 1) := by decide +kernel
theorem dX0_spell_3 : decode cX0_spell 3 = .ok (.istore 4, 2) := by decide +kernel
theorem dX0_spell_5 : decode cX0_spell 5 = .ok (.iload_n 2, 1) := by decide +kernel
theorem dX0_spell_6 : decode cX0_spell 6 = .ok (.iconst 4, 1) := by decide +kernel
theorem dX0_spell_7 : decode cX0_spell 7 = .ok (.idiv, 1) := by decide +kernel
theorem dX0_spell_8 : decode cX0_spell 8 = .ok (.iconst 2, 1) := by decide +kernel
theorem dX0_spell_9 : decode cX0_spell 9 = .ok (.irem, 1) := by decide +kernel
theorem dX0_spell_10 : decode cX0_spell 10 = .ok (.istore 5, 2) := by decide +kernel
theorem dX0_spell_12 : decode cX0_spell 12 = .ok (.iload_n 2, 1) := by decide +kernel
theorem dX0_spell_13 : decode cX0_spell 13 = .ok (.bipush 8, 2) := by decide +kernel
theorem dX0_spell_15 : decode cX0_spell 15 = .ok (.idiv, 1) := by decide +kernel
theorem dX0_spell_16 : decode cX0_spell 16 = .ok (.iconst 3, 1) := by decide +kernel
theorem dX0_spell_17 : decode cX0_spell 17 = .ok (.irem, 1) := by decide +kernel
theorem dX0_spell_18 : decode cX0_spell 18 = .ok (.istore 6, 2) := by decide +kernel
theorem dX0_spell_20 : decode cX0_spell 20 = .ok (.iload_n 2, 1) := by decide +kernel
theorem dX0_spell_21 : decode cX0_spell 21 = .ok (.bipush 24, 2) := by decide +kernel
theorem dX0_spell_23 : decode cX0_spell 23 = .ok (.idiv, 1) := by decide +kernel
theorem dX0_spell_24 : decode cX0_spell 24 = .ok (.istore 7, 2) := by decide +kernel
theorem dX0_spell_26 : decode cX0_spell 26 = .ok (.aload_n 3, 1) := by decide +kernel
theorem dX0_spell_27 : decode cX0_spell 27 = .ok (.aload_n 1, 1) := by decide +kernel
theorem dX0_spell_28 : decode cX0_spell 28 = .ok (.getfield 83, 3) := by decide +kernel
theorem dX0_spell_31 : decode cX0_spell 31 = .ok (.invokevirtual 59, 3) := by decide +kernel
theorem dX0_spell_34 : decode cX0_spell 34 = .ok (.aload_n 1, 1) := by decide +kernel
theorem dX0_spell_35 : decode cX0_spell 35 = .ok (.getfield 86, 3) := by decide +kernel
theorem dX0_spell_38 : decode cX0_spell 38 = .ok (.ifCond .ne 4, 3) := by decide +kernel
theorem dX0_spell_41 : decode cX0_spell 41 = .ok (.return_, 1) := by decide +kernel
theorem dX0_spell_42 : decode cX0_spell 42 = .ok (.aload_n 0, 1) := by decide +kernel
theorem dX0_spell_43 : decode cX0_spell 43 = .ok (.aload_n 1, 1) := by decide +kernel
theorem dX0_spell_44 : decode cX0_spell 44 = .ok (.getfield 89, 3) := by decide +kernel
theorem dX0_spell_47 : decode cX0_spell 47 = .ok (.aload_n 1, 1) := by decide +kernel
theorem dX0_spell_48 : decode cX0_spell 48 = .ok (.iconst 2, 1) := by decide +kernel
theorem dX0_spell_49 : decode cX0_spell 49 = .ok (.invokevirtual 92, 3) := by decide +kernel
theorem dX0_spell_52 : decode cX0_spell 52 = .ok (.ifCond .eq 8, 3) := by decide +kernel
theorem dX0_spell_55 : decode cX0_spell 55 = .ok (.iload 7, 2) := by decide +kernel
theorem dX0_spell_57 : decode cX0_spell 57 = .ok (.goto 5, 3) := by decide +kernel
theorem dX0_spell_60 : decode cX0_spell 60 = .ok (.iload 4, 2) := by decide +kernel
theorem dX0_spell_62 : decode cX0_spell 62 = .ok (.aload_n 1, 1) := by decide +kernel
theorem dX0_spell_63 : decode cX0_spell 63 = .ok (.getfield 86, 3) := by decide +kernel
theorem dX0_spell_66 : decode cX0_spell 66 = .ok (.iconst 3, 1) := by decide +kernel
theorem dX0_spell_67 : decode cX0_spell 67 = .ok (.if_icmp .ne 7, 3) := by decide +kernel
theorem dX0_spell_70 : decode cX0_spell 70 = .ok (.iconst 0, 1) := by decide +kernel
theorem dX0_spell_71 : decode cX0_spell 71 = .ok (.goto 5, 3) := by decide +kernel
theorem dX0_spell_74 : decode cX0_spell 74 = .ok (.iload 5, 2) := by decide +kernel
theorem dX0_spell_76 : decode cX0_spell 76 = .ok (.invokevirtual 96, 3) := by decide +kernel
theorem dX0_spell_79 : decode cX0_spell 79 = .ok (.astore 8, 2) := by decide +kernel
theorem dX0_spell_81 : decode cX0_spell 81 = .ok (.aload 8, 2) := by decide +kernel
theorem dX0_spell_83 : decode cX0_spell 83 = .ok (.ifnull 9, 3) := by decide +kernel
theorem dX0_spell_86 : decode cX0_spell 86 = .ok (.aload_n 3, 1) := by decide +kernel
theorem dX0_spell_87 : decode cX0_spell 87 = .ok (.aload 8, 2) := by decide +kernel
theorem dX0_spell_89 : decode cX0_spell 89 = .ok (.invokevirtual 100, 3) := by decide +kernel
theorem dX0_spell_92 : decode cX0_spell 92 = .ok (.aload_n 1, 1) := by decide +kernel
theorem dX0_spell_93 : decode cX0_spell 93 = .ok (.getfield 86, 3) := by decide +kernel
theorem dX0_spell_96 : decode cX0_spell 96 = .ok (.iconst 4, 1) := by decide +kernel
theorem dX0_spell_97 : decode cX0_spell 97 = .ok (.if_icmp .ne 23, 3) := by decide +kernel
theorem dX0_spell_100 : decode cX0_spell 100 = .ok (.iload 6, 2) := by decide +kernel
theorem dX0_spell_102 : decode cX0_spell 102 = .ok (.iconst 3, 1) := by decide +kernel
theorem dX0_spell_103 : decode cX0_spell 103 = .ok (.invokestatic 71, 3) := by decide +kernel
theorem dX0_spell_106 : decode cX0_spell 106 = .ok (.ifCond .eq 14, 3) := by decide +kernel
theorem dX0_spell_109 : decode cX0_spell 109 = .ok (.aload_n 3, 1) := by decide +kernel
theorem dX0_spell_110 : decode cX0_spell 110 = .ok (.aload_n 0, 1) := by decide +kernel
theorem dX0_spell_111 : decode cX0_spell 111 = .ok (.getfield 23, 3) := by decide +kernel
theorem dX0_spell_114 : decode cX0_spell 114 = .ok (.iload 6, 2) := by decide +kernel
theorem dX0_spell_116 : decode cX0_spell 116 = .ok (.aaload, 1) := by decide +kernel
theorem dX0_spell_117 : decode cX0_spell 117 = .ok (.invokevirtual 100, 3) := by decide +kernel
theorem dX0_spell_120 : decode cX0_spell 120 = .ok (.aload_n 1, 1) := by decide +kernel
theorem dX0_spell_121 : decode cX0_spell 121 = .ok (.getfield 86, 3) := by decide +kernel
theorem dX0_spell_124 : decode cX0_spell 124 = .ok (.iconst 5, 1) := by decide +kernel
theorem dX0_spell_125 : decode cX0_spell 125 = .ok (.if_icmp .ne 22, 3) := by decide +kernel
theorem dX0_spell_128 : decode cX0_spell 128 = .ok (.iload 7, 2) := by decide +kernel
theorem dX0_spell_130 : decode cX0_spell 130 = .ok (.ifCond .eq 17, 3) := by decide +kernel
theorem dX0_spell_133 : decode cX0_spell 133 = .ok (.aload_n 3, 1) := by decide +kernel
theorem dX0_spell_134 : decode cX0_spell 134 = .ok (.aload_n 3, 1) := by decide +kernel
theorem dX0_spell_135 : decode cX0_spell 135 = .ok (.aload_n 3, 1) := by decide +kernel
theorem dX0_spell_136 : decode cX0_spell 136 = .ok (.getfield 103, 3) := by decide +kernel
theorem dX0_spell_139 : decode cX0_spell 139 = .ok (.iconst 1, 1) := by decide +kernel
theorem dX0_spell_140 : decode cX0_spell 140 = .ok (.isub, 1) := by decide +kernel
theorem dX0_spell_141 : decode cX0_spell 141 = .ok (.invokevirtual 106, 3) := by decide +kernel
theorem dX0_spell_144 : decode cX0_spell 144 = .ok (.invokevirtual 47, 3) := by decide +kernel
theorem dX0_spell_147 : decode cX0_spell 147 = .ok (.return_, 1) := by decide +kernel
theorem dX1_init_0 : decode cX1_init 0 = .ok (.aload_n 0, 1) := by decide +kernel
theorem dX1_init_1 : decode cX1_init 1 = .ok (.invokespecial 3, 3) := by decide +kernel
theorem dX1_init_4 : decode cX1_init 4 = .ok (.aload_n 0, 1) := by decide +kernel
theorem dX1_init_5 : decode cX1_init 5 = .ok (.new 9, 3) := by decide +kernel
theorem dX1_init_8 : decode cX1_init 8 = .ok (.dup, 1) := by decide +kernel
theorem dX1_init_9 : decode cX1_init 9 = .ok (.invokespecial 11, 3) := by decide +kernel
theorem dX1_init_12 : decode cX1_init 12 = .ok (.putfield 12, 3) := by decide +kernel
theorem dX1_init_15 : decode cX1_init 15 = .ok (.return_, 1) := by decide +kernel
theorem dX1_draw_0 : decode cX1_draw 0 = .ok (.aload_n 0, 1) := by decide +kernel
theorem dX1_draw_1 : decode cX1_draw 1 = .ok (.iload_n 2, 1) := by decide +kernel
theorem dX1_draw_2 : decode cX1_draw 2 = .ok (.putfield 18, 3) := by decide +kernel
theorem dX1_draw_5 : decode cX1_draw 5 = .ok (.aload_n 0, 1) := by decide +kernel
theorem dX1_draw_6 : decode cX1_draw 6 = .ok (.aload_n 1, 1) := by decide +kernel
theorem dX1_draw_7 : decode cX1_draw 7 = .ok (.getfield 22, 3) := by decide +kernel
theorem dX1_draw_10 : decode cX1_draw 10 = .ok (.invokevirtual 27, 3) := by decide +kernel
theorem dX1_draw_13 : decode cX1_draw 13 = .ok (.istore_n 3, 1) := by decide +kernel
theorem dX1_draw_14 : decode cX1_draw 14 = .ok (.aload_n 0, 1) := by decide +kernel
theorem dX1_draw_15 : decode cX1_draw 15 = .ok (.getfield 12, 3) := by decide +kernel
theorem dX1_draw_18 : decode cX1_draw 18 = .ok (.iload_n 3, 1) := by decide +kernel
theorem dX1_draw_19 : decode cX1_draw 19 = .ok (.aload_n 0, 1) := by decide +kernel
theorem dX1_draw_20 : decode cX1_draw 20 = .ok (.iconst 4, 1) := by decide +kernel
theorem dX1_draw_21 : decode cX1_draw 21 = .ok (.invokevirtual 27, 3) := by decide +kernel
theorem dX1_draw_24 : decode cX1_draw 24 = .ok (.invokevirtual 31, 3) := by decide +kernel
theorem dX1_draw_27 : decode cX1_draw 27 = .ok (.iconst 0, 1) := by decide +kernel
theorem dX1_draw_28 : decode cX1_draw 28 = .ok (.istore 4, 2) := by decide +kernel
theorem dX1_draw_30 : decode cX1_draw 30 = .ok (.iload 4, 2) := by decide +kernel
theorem dX1_draw_32 : decode cX1_draw 32 = .ok (.iconst 3, 1) := by decide +kernel
theorem dX1_draw_33 : decode cX1_draw 33 = .ok (.if_icmp .ge 29, 3) := by decide +kernel
theorem dX1_draw_36 : decode cX1_draw 36 = .ok (.aload_n 0, 1) := by decide +kernel
theorem dX1_draw_37 : decode cX1_draw 37 = .ok (.getfield 12, 3) := by decide +kernel
theorem dX1_draw_40 : decode cX1_draw 40 = .ok (.dup, 1) := by decide +kernel
theorem dX1_draw_41 : decode cX1_draw 41 = .ok (.getfield 35, 3) := by decide +kernel
theorem dX1_draw_44 : decode cX1_draw 44 = .ok (.aload_n 0, 1) := by decide +kernel
theorem dX1_draw_45 : decode cX1_draw 45 = .ok (.iconst 2, 1) := by decide +kernel
theorem dX1_draw_46 : decode cX1_draw 46 = .ok (.invokevirtual 27, 3) := by decide +kernel
theorem dX1_draw_49 : decode cX1_draw 49 = .ok (.iload 4, 2) := by decide +kernel
theorem dX1_draw_51 : decode cX1_draw 51 = .ok (.ishl, 1) := by decide +kernel
theorem dX1_draw_52 : decode cX1_draw 52 = .ok (.ior, 1) := by decide +kernel
theorem dX1_draw_53 : decode cX1_draw 53 = .ok (.putfield 35, 3) := by decide +kernel
theorem dX1_draw_56 : decode cX1_draw 56 = .ok (.iinc 4 1, 3) := by decide +kernel
theorem dX1_draw_59 : decode cX1_draw 59 = .ok (.goto (-29), 3) := by decide +kernel
theorem dX1_draw_62 : decode cX1_draw 62 = .ok (.aload_n 1, 1) := by decide +kernel
theorem dX1_draw_63 : decode cX1_draw 63 = .ok (.iload_n 3, 1) := by decide +kernel
theorem dX1_draw_64 : decode cX1_draw 64 = .ok (.invokevirtual 38, 3) := by decide +kernel
theorem dX1_draw_67 : decode cX1_draw 67 = .ok (.astore 4, 2) := by decide +kernel
theorem dX1_draw_69 : decode cX1_draw 69 = .ok (.aload 4, 2) := by decide +kernel
theorem dX1_draw_71 : decode cX1_draw 71 = .ok (.ifnonnull 5, 3) := by decide +kernel
theorem dX1_draw_74 : decode cX1_draw 74 = .ok (.iconst 0, 1) := by decide +kernel
theorem dX1_draw_75 : decode cX1_draw 75 = .ok (.ireturn, 1) := by decide +kernel
theorem dX1_draw_76 : decode cX1_draw 76 = .ok (.iconst 0, 1) := by decide +kernel
theorem dX1_draw_77 : decode cX1_draw 77 = .ok (.istore 5, 2) := by decide +kernel
theorem dX1_draw_79 : decode cX1_draw 79 = .ok (.iload 5, 2) := by decide +kernel
theorem dX1_draw_81 : decode cX1_draw 81 = .ok (.aload 4, 2) := by decide +kernel
theorem dX1_draw_83 : decode cX1_draw 83 = .ok (.getfield 42, 3) := by decide +kernel
theorem dX1_draw_86 : decode cX1_draw 86 = .ok (.if_icmp .ge 68, 3) := by decide +kernel
theorem dX1_draw_89 : decode cX1_draw 89 = .ok (.aload_n 1, 1) := by decide +kernel
theorem dX1_draw_90 : decode cX1_draw 90 = .ok (.aload 4, 2) := by decide +kernel
theorem dX1_draw_92 : decode cX1_draw 92 = .ok (.iload 5, 2) := by decide +kernel
theorem dX1_draw_94 : decode cX1_draw 94 = .ok (.invokevirtual 47, 3) := by decide +kernel
theorem dX1_draw_97 : decode cX1_draw 97 = .ok (.istore 6, 2) := by decide +kernel
theorem dX1_draw_99 : decode cX1_draw 99 = .ok (.iload 6, 2) := by decide +kernel
theorem dX1_draw_101 : decode cX1_draw 101 = .ok (.ifCond .ne 5, 3) := by decide +kernel
theorem dX1_draw_104 : decode cX1_draw 104 = .ok (.iconst 0, 1) := by decide +kernel
theorem dX1_draw_105 : decode cX1_draw 105 = .ok (.ireturn, 1) := by decide +kernel
theorem dX1_draw_106 : decode cX1_draw 106 = .ok (.aload 4, 2) := by decide +kernel
theorem dX1_draw_108 : decode cX1_draw 108 = .ok (.iload 5, 2) := by decide +kernel
theorem dX1_draw_110 : decode cX1_draw 110 = .ok (.invokevirtual 51, 3) := by decide +kernel
theorem dX1_draw_113 : decode cX1_draw 113 = .ok (.iconst 3, 1) := by decide +kernel
theorem dX1_draw_114 : decode cX1_draw 114 = .ok (.if_icmp .ne 7, 3) := by decide +kernel
theorem dX1_draw_117 : decode cX1_draw 117 = .ok (.iconst 0, 1) := by decide +kernel
theorem dX1_draw_118 : decode cX1_draw 118 = .ok (.goto 9, 3) := by decide +kernel
theorem dX1_draw_121 : decode cX1_draw 121 = .ok (.aload_n 0, 1) := by decide +kernel
theorem dX1_draw_122 : decode cX1_draw 122 = .ok (.iload 6, 2) := by decide +kernel
theorem dX1_draw_124 : decode cX1_draw 124 = .ok (.invokevirtual 27, 3) := by decide +kernel
theorem dX1_draw_127 : decode cX1_draw 127 = .ok (.istore 7, 2) := by decide +kernel
theorem dX1_draw_129 : decode cX1_draw 129 = .ok (.aload_n 0, 1) := by decide +kernel
theorem dX1_draw_130 : decode cX1_draw 130 = .ok (.getfield 12, 3) := by decide +kernel
theorem dX1_draw_133 : decode cX1_draw 133 = .ok (.iload 5, 2) := by decide +kernel
theorem dX1_draw_135 : decode cX1_draw 135 = .ok (.aload_n 1, 1) := by decide +kernel
theorem dX1_draw_136 : decode cX1_draw 136 = .ok (.aload 4, 2) := by decide +kernel
theorem dX1_draw_138 : decode cX1_draw 138 = .ok (.iload 5, 2) := by decide +kernel
theorem dX1_draw_140 : decode cX1_draw 140 = .ok (.iload 7, 2) := by decide +kernel
theorem dX1_draw_142 : decode cX1_draw 142 = .ok (.invokevirtual 54, 3) := by decide +kernel
theorem dX1_draw_145 : decode cX1_draw 145 = .ok (.invokevirtual 58, 3) := by decide +kernel
theorem dX1_draw_148 : decode cX1_draw 148 = .ok (.iinc 5 1, 3) := by decide +kernel
theorem dX1_draw_151 : decode cX1_draw 151 = .ok (.goto (-72), 3) := by decide +kernel
theorem dX1_draw_154 : decode cX1_draw 154 = .ok (.iconst 1, 1) := by decide +kernel
theorem dX1_draw_155 : decode cX1_draw 155 = .ok (.ireturn, 1) := by decide +kernel
theorem dX1_next_0 : decode cX1_next 0 = .ok (.aload_n 0, 1) := by decide +kernel
theorem dX1_next_1 : decode cX1_next 1 = .ok (.aload_n 0, 1) := by decide +kernel
theorem dX1_next_2 : decode cX1_next 2 = .ok (.getfield 18, 3) := by decide +kernel
theorem dX1_next_5 : decode cX1_next 5 = .ok (.ldc 61, 2) := by decide +kernel
theorem dX1_next_7 : decode cX1_next 7 = .ok (.imul, 1) := by decide +kernel
theorem dX1_next_8 : decode cX1_next 8 = .ok (.sipush 12345, 3) := by decide +kernel
theorem dX1_next_11 : decode cX1_next 11 = .ok (.iadd, 1) := by decide +kernel
theorem dX1_next_12 : decode cX1_next 12 = .ok (.putfield 18, 3) := by decide +kernel
theorem dX1_next_15 : decode cX1_next 15 = .ok (.iload_n 1, 1) := by decide +kernel
theorem dX1_next_16 : decode cX1_next 16 = .ok (.ifCond .le 15, 3) := by decide +kernel
theorem dX1_next_19 : decode cX1_next 19 = .ok (.aload_n 0, 1) := by decide +kernel
theorem dX1_next_20 : decode cX1_next 20 = .ok (.getfield 18, 3) := by decide +kernel
theorem dX1_next_23 : decode cX1_next 23 = .ok (.bipush 9, 2) := by decide +kernel
theorem dX1_next_25 : decode cX1_next 25 = .ok (.iushr, 1) := by decide +kernel
theorem dX1_next_26 : decode cX1_next 26 = .ok (.iload_n 1, 1) := by decide +kernel
theorem dX1_next_27 : decode cX1_next 27 = .ok (.irem, 1) := by decide +kernel
theorem dX1_next_28 : decode cX1_next 28 = .ok (.goto 4, 3) := by decide +kernel
theorem dX1_next_31 : decode cX1_next 31 = .ok (.iconst 0, 1) := by decide +kernel
theorem dX1_next_32 : decode cX1_next 32 = .ok (.ireturn, 1) := by decide +kernel
theorem dX2_init_0 : decode cX2_init 0 = .ok (.aload_n 0, 1) := by decide +kernel
theorem dX2_init_1 : decode cX2_init 1 = .ok (.invokespecial 3, 3) := by decide +kernel
theorem dX2_init_4 : decode cX2_init 4 = .ok (.aload_n 0, 1) := by decide +kernel
theorem dX2_init_5 : decode cX2_init 5 = .ok (.iconst (-1), 1) := by decide +kernel
theorem dX2_init_6 : decode cX2_init 6 = .ok (.putfield 9, 3) := by decide +kernel
theorem dX2_init_9 : decode cX2_init 9 = .ok (.aload_n 0, 1) := by decide +kernel
theorem dX2_init_10 : decode cX2_init 10 = .ok (.bipush 6, 2) := by decide +kernel
theorem dX2_init_12 : decode cX2_init 12 = .ok (.newarray .int, 2) := by decide +kernel
theorem dX2_init_14 : decode cX2_init 14 = .ok (.putfield 15, 3) := by decide +kernel
theorem dX2_init_17 : decode cX2_init 17 = .ok (.return_, 1) := by decide +kernel
theorem dX2_begin_0 : decode cX2_begin 0 = .ok (.aload_n 0, 1) := by decide +kernel
theorem dX2_begin_1 : decode cX2_begin 1 = .ok (.iload_n 1, 1) := by decide +kernel
theorem dX2_begin_2 : decode cX2_begin 2 = .ok (.putfield 9, 3) := by decide +kernel
theorem dX2_begin_5 : decode cX2_begin 5 = .ok (.aload_n 0, 1) := by decide +kernel
theorem dX2_begin_6 : decode cX2_begin 6 = .ok (.iload_n 2, 1) := by decide +kernel
theorem dX2_begin_7 : decode cX2_begin 7 = .ok (.putfield 19, 3) := by decide +kernel
theorem dX2_begin_10 : decode cX2_begin 10 = .ok (.aload_n 0, 1) := by decide +kernel
theorem dX2_begin_11 : decode cX2_begin 11 = .ok (.iconst 0, 1) := by decide +kernel
theorem dX2_begin_12 : decode cX2_begin 12 = .ok (.putfield 22, 3) := by decide +kernel
theorem dX2_begin_15 : decode cX2_begin 15 = .ok (.aload_n 0, 1) := by decide +kernel
theorem dX2_begin_16 : decode cX2_begin 16 = .ok (.getfield 15, 3) := by decide +kernel
theorem dX2_begin_19 : decode cX2_begin 19 = .ok (.iconst (-1), 1) := by decide +kernel
theorem dX2_begin_20 : decode cX2_begin 20 = .ok (.invokestatic 25, 3) := by decide +kernel
theorem dX2_begin_23 : decode cX2_begin 23 = .ok (.return_, 1) := by decide +kernel
theorem dX2_become_0 : decode cX2_become 0 = .ok (.aload_n 0, 1) := by decide +kernel
theorem dX2_become_1 : decode cX2_become 1 = .ok (.aload_n 1, 1) := by decide +kernel
theorem dX2_become_2 : decode cX2_become 2 = .ok (.getfield 9, 3) := by decide +kernel
theorem dX2_become_5 : decode cX2_become 5 = .ok (.putfield 9, 3) := by decide +kernel
theorem dX2_become_8 : decode cX2_become 8 = .ok (.aload_n 0, 1) := by decide +kernel
theorem dX2_become_9 : decode cX2_become 9 = .ok (.aload_n 1, 1) := by decide +kernel
theorem dX2_become_10 : decode cX2_become 10 = .ok (.getfield 19, 3) := by decide +kernel
theorem dX2_become_13 : decode cX2_become 13 = .ok (.putfield 19, 3) := by decide +kernel
theorem dX2_become_16 : decode cX2_become 16 = .ok (.aload_n 0, 1) := by decide +kernel
theorem dX2_become_17 : decode cX2_become 17 = .ok (.aload_n 1, 1) := by decide +kernel
theorem dX2_become_18 : decode cX2_become 18 = .ok (.getfield 22, 3) := by decide +kernel
theorem dX2_become_21 : decode cX2_become 21 = .ok (.putfield 22, 3) := by decide +kernel
theorem dX2_become_24 : decode cX2_become 24 = .ok (.aload_n 1, 1) := by decide +kernel
theorem dX2_become_25 : decode cX2_become 25 = .ok (.getfield 15, 3) := by decide +kernel
theorem dX2_become_28 : decode cX2_become 28 = .ok (.iconst 0, 1) := by decide +kernel
theorem dX2_become_29 : decode cX2_become 29 = .ok (.aload_n 0, 1) := by decide +kernel
theorem dX2_become_30 : decode cX2_become 30 = .ok (.getfield 15, 3) := by decide +kernel
theorem dX2_become_33 : decode cX2_become 33 = .ok (.iconst 0, 1) := by decide +kernel
theorem dX2_become_34 : decode cX2_become 34 = .ok (.bipush 6, 2) := by decide +kernel
theorem dX2_become_36 : decode cX2_become 36 = .ok (.invokestatic 31, 3) := by decide +kernel
theorem dX2_become_39 : decode cX2_become 39 = .ok (.return_, 1) := by decide +kernel
theorem dX2_fill_0 : decode cX2_fill 0 = .ok (.iload_n 1, 1) := by decide +kernel
theorem dX2_fill_1 : decode cX2_fill 1 = .ok (.bipush 6, 2) := by decide +kernel
theorem dX2_fill_3 : decode cX2_fill 3 = .ok (.invokestatic 37, 3) := by decide +kernel
theorem dX2_fill_6 : decode cX2_fill 6 = .ok (.ifCond .eq 10, 3) := by decide +kernel
theorem dX2_fill_9 : decode cX2_fill 9 = .ok (.aload_n 0, 1) := by decide +kernel
theorem dX2_fill_10 : decode cX2_fill 10 = .ok (.getfield 15, 3) := by decide +kernel
theorem dX2_fill_13 : decode cX2_fill 13 = .ok (.iload_n 1, 1) := by decide +kernel
theorem dX2_fill_14 : decode cX2_fill 14 = .ok (.iload_n 2, 1) := by decide +kernel
theorem dX2_fill_15 : decode cX2_fill 15 = .ok (.iastore, 1) := by decide +kernel
theorem dX2_fill_16 : decode cX2_fill 16 = .ok (.return_, 1) := by decide +kernel
theorem dX2_wordIn_0 : decode cX2_wordIn 0 = .ok (.iload_n 1, 1) := by decide +kernel
theorem dX2_wordIn_1 : decode cX2_wordIn 1 = .ok (.bipush 6, 2) := by decide +kernel
theorem dX2_wordIn_3 : decode cX2_wordIn 3 = .ok (.invokestatic 37, 3) := by decide +kernel
theorem dX2_wordIn_6 : decode cX2_wordIn 6 = .ok (.ifCond .eq 12, 3) := by decide +kernel
theorem dX2_wordIn_9 : decode cX2_wordIn 9 = .ok (.aload_n 0, 1) := by decide +kernel
theorem dX2_wordIn_10 : decode cX2_wordIn 10 = .ok (.getfield 15, 3) := by decide +kernel
theorem dX2_wordIn_13 : decode cX2_wordIn 13 = .ok (.iload_n 1, 1) := by decide +kernel
theorem dX2_wordIn_14 : decode cX2_wordIn 14 = .ok (.iaload, 1) := by decide +kernel
theorem dX2_wordIn_15 : decode cX2_wordIn 15 = .ok (.goto 4, 3) := by decide +kernel
theorem dX2_wordIn_18 : decode cX2_wordIn 18 = .ok (.iconst (-1), 1) := by decide +kernel
theorem dX2_wordIn_19 : decode cX2_wordIn 19 = .ok (.ireturn, 1) := by decide +kernel
theorem dX3_init_0 : decode cX3_init 0 = .ok (.aload_n 0, 1) := by decide +kernel
theorem dX3_init_1 : decode cX3_init 1 = .ok (.invokespecial 3, 3) := by decide +kernel
theorem dX3_init_4 : decode cX3_init 4 = .ok (.aload_n 0, 1) := by decide +kernel
theorem dX3_init_5 : decode cX3_init 5 = .ok (.bipush 6, 2) := by decide +kernel
theorem dX3_init_7 : decode cX3_init 7 = .ok (.newarray .int, 2) := by decide +kernel
theorem dX3_init_9 : decode cX3_init 9 = .ok (.putfield 9, 3) := by decide +kernel
theorem dX3_init_12 : decode cX3_init 12 = .ok (.aload_n 0, 1) := by decide +kernel
theorem dX3_init_13 : decode cX3_init 13 = .ok (.bipush 6, 2) := by decide +kernel
theorem dX3_init_15 : decode cX3_init 15 = .ok (.newarray .int, 2) := by decide +kernel
theorem dX3_init_17 : decode cX3_init 17 = .ok (.putfield 15, 3) := by decide +kernel
theorem dX3_init_20 : decode cX3_init 20 = .ok (.aload_n 0, 1) := by decide +kernel
theorem dX3_init_21 : decode cX3_init 21 = .ok (.bipush 6, 2) := by decide +kernel
theorem dX3_init_23 : decode cX3_init 23 = .ok (.newarray .int, 2) := by decide +kernel
theorem dX3_init_25 : decode cX3_init 25 = .ok (.putfield 18, 3) := by decide +kernel
theorem dX3_init_28 : decode cX3_init 28 = .ok (.aload_n 0, 1) := by decide +kernel
theorem dX3_init_29 : decode cX3_init 29 = .ok (.bipush 6, 2) := by decide +kernel
theorem dX3_init_31 : decode cX3_init 31 = .ok (.newarray .int, 2) := by decide +kernel
theorem dX3_init_33 : decode cX3_init 33 = .ok (.putfield 21, 3) := by decide +kernel
theorem dX3_init_36 : decode cX3_init 36 = .ok (.aload_n 0, 1) := by decide +kernel
theorem dX3_init_37 : decode cX3_init 37 = .ok (.iconst 3, 1) := by decide +kernel
theorem dX3_init_38 : decode cX3_init 38 = .ok (.newarray .int, 2) := by decide +kernel
theorem dX3_init_40 : decode cX3_init 40 = .ok (.putfield 24, 3) := by decide +kernel
theorem dX3_init_43 : decode cX3_init 43 = .ok (.return_, 1) := by decide +kernel
theorem dX3_clear_0 : decode cX3_clear 0 = .ok (.aload_n 0, 1) := by decide +kernel
theorem dX3_clear_1 : decode cX3_clear 1 = .ok (.iconst 0, 1) := by decide +kernel
theorem dX3_clear_2 : decode cX3_clear 2 = .ok (.putfield 27, 3) := by decide +kernel
theorem dX3_clear_5 : decode cX3_clear 5 = .ok (.aload_n 0, 1) := by decide +kernel
theorem dX3_clear_6 : decode cX3_clear 6 = .ok (.getfield 24, 3) := by decide +kernel
theorem dX3_clear_9 : decode cX3_clear 9 = .ok (.iconst (-1), 1) := by decide +kernel
theorem dX3_clear_10 : decode cX3_clear 10 = .ok (.invokestatic 31, 3) := by decide +kernel
theorem dX3_clear_13 : decode cX3_clear 13 = .ok (.return_, 1) := by decide +kernel
theorem dX3_add_0 : decode cX3_add 0 = .ok (.aload_n 0, 1) := by decide +kernel
theorem dX3_add_1 : decode cX3_add 1 = .ok (.getfield 27, 3) := by decide +kernel
theorem dX3_add_4 : decode cX3_add 4 = .ok (.bipush 6, 2) := by decide +kernel
theorem dX3_add_6 : decode cX3_add 6 = .ok (.if_icmp .lt 4, 3) := by decide +kernel
theorem dX3_add_9 : decode cX3_add 9 = .ok (.return_, 1) := by decide +kernel
theorem dX3_add_10 : decode cX3_add 10 = .ok (.aload_n 0, 1) := by decide +kernel
theorem dX3_add_11 : decode cX3_add 11 = .ok (.getfield 9, 3) := by decide +kernel
theorem dX3_add_14 : decode cX3_add 14 = .ok (.aload_n 0, 1) := by decide +kernel
theorem dX3_add_15 : decode cX3_add 15 = .ok (.getfield 27, 3) := by decide +kernel
theorem dX3_add_18 : decode cX3_add 18 = .ok (.iload_n 1, 1) := by decide +kernel
theorem dX3_add_19 : decode cX3_add 19 = .ok (.iastore, 1) := by decide +kernel
theorem dX3_add_20 : decode cX3_add 20 = .ok (.aload_n 0, 1) := by decide +kernel
theorem dX3_add_21 : decode cX3_add 21 = .ok (.getfield 15, 3) := by decide +kernel
theorem dX3_add_24 : decode cX3_add 24 = .ok (.aload_n 0, 1) := by decide +kernel
theorem dX3_add_25 : decode cX3_add 25 = .ok (.getfield 27, 3) := by decide +kernel
theorem dX3_add_28 : decode cX3_add 28 = .ok (.iload_n 2, 1) := by decide +kernel
theorem dX3_add_29 : decode cX3_add 29 = .ok (.iastore, 1) := by decide +kernel
theorem dX3_add_30 : decode cX3_add 30 = .ok (.aload_n 0, 1) := by decide +kernel
theorem dX3_add_31 : decode cX3_add 31 = .ok (.getfield 18, 3) := by decide +kernel
theorem dX3_add_34 : decode cX3_add 34 = .ok (.aload_n 0, 1) := by decide +kernel
theorem dX3_add_35 : decode cX3_add 35 = .ok (.getfield 27, 3) := by decide +kernel
theorem dX3_add_38 : decode cX3_add 38 = .ok (.iload_n 3, 1) := by decide +kernel
theorem dX3_add_39 : decode cX3_add 39 = .ok (.iastore, 1) := by decide +kernel
theorem dX3_add_40 : decode cX3_add 40 = .ok (.aload_n 0, 1) := by decide +kernel
theorem dX3_add_41 : decode cX3_add 41 = .ok (.getfield 21, 3) := by decide +kernel
theorem dX3_add_44 : decode cX3_add 44 = .ok (.aload_n 0, 1) := by decide +kernel
theorem dX3_add_45 : decode cX3_add 45 = .ok (.getfield 27, 3) := by decide +kernel
theorem dX3_add_48 : decode cX3_add 48 = .ok (.iload 4, 2) := by decide +kernel
theorem dX3_add_50 : decode cX3_add 50 = .ok (.iastore, 1) := by decide +kernel
theorem dX3_add_51 : decode cX3_add 51 = .ok (.iload_n 1, 1) := by decide +kernel
theorem dX3_add_52 : decode cX3_add 52 = .ok (.ifCond .ne 21, 3) := by decide +kernel
theorem dX3_add_55 : decode cX3_add 55 = .ok (.iload_n 2, 1) := by decide +kernel
theorem dX3_add_56 : decode cX3_add 56 = .ok (.iconst 3, 1) := by decide +kernel
theorem dX3_add_57 : decode cX3_add 57 = .ok (.invokestatic 37, 3) := by decide +kernel
theorem dX3_add_60 : decode cX3_add 60 = .ok (.ifCond .eq 13, 3) := by decide +kernel
theorem dX3_add_63 : decode cX3_add 63 = .ok (.aload_n 0, 1) := by decide +kernel
theorem dX3_add_64 : decode cX3_add 64 = .ok (.getfield 24, 3) := by decide +kernel
theorem dX3_add_67 : decode cX3_add 67 = .ok (.iload_n 2, 1) := by decide +kernel
theorem dX3_add_68 : decode cX3_add 68 = .ok (.aload_n 0, 1) := by decide +kernel
theorem dX3_add_69 : decode cX3_add 69 = .ok (.getfield 27, 3) := by decide +kernel
theorem dX3_add_72 : decode cX3_add 72 = .ok (.iastore, 1) := by decide +kernel
theorem dX3_add_73 : decode cX3_add 73 = .ok (.aload_n 0, 1) := by decide +kernel
theorem dX3_add_74 : decode cX3_add 74 = .ok (.dup, 1) := by decide +kernel
theorem dX3_add_75 : decode cX3_add 75 = .ok (.getfield 27, 3) := by decide +kernel
theorem dX3_add_78 : decode cX3_add 78 = .ok (.iconst 1, 1) := by decide +kernel
theorem dX3_add_79 : decode cX3_add 79 = .ok (.iadd, 1) := by decide +kernel
theorem dX3_add_80 : decode cX3_add 80 = .ok (.putfield 27, 3) := by decide +kernel
theorem dX3_add_83 : decode cX3_add 83 = .ok (.return_, 1) := by decide +kernel
theorem dX3_become_0 : decode cX3_become 0 = .ok (.aload_n 0, 1) := by decide +kernel
theorem dX3_become_1 : decode cX3_become 1 = .ok (.aload_n 1, 1) := by decide +kernel
theorem dX3_become_2 : decode cX3_become 2 = .ok (.getfield 27, 3) := by decide +kernel
theorem dX3_become_5 : decode cX3_become 5 = .ok (.putfield 27, 3) := by decide +kernel
theorem dX3_become_8 : decode cX3_become 8 = .ok (.aload_n 1, 1) := by decide +kernel
theorem dX3_become_9 : decode cX3_become 9 = .ok (.getfield 9, 3) := by decide +kernel
theorem dX3_become_12 : decode cX3_become 12 = .ok (.iconst 0, 1) := by decide +kernel
theorem dX3_become_13 : decode cX3_become 13 = .ok (.aload_n 0, 1) := by decide +kernel
theorem dX3_become_14 : decode cX3_become 14 = .ok (.getfield 9, 3) := by decide +kernel
theorem dX3_become_17 : decode cX3_become 17 = .ok (.iconst 0, 1) := by decide +kernel
theorem dX3_become_18 : decode cX3_become 18 = .ok (.bipush 6, 2) := by decide +kernel
theorem dX3_become_20 : decode cX3_become 20 = .ok (.invokestatic 41, 3) := by decide +kernel
theorem dX3_become_23 : decode cX3_become 23 = .ok (.aload_n 1, 1) := by decide +kernel
theorem dX3_become_24 : decode cX3_become 24 = .ok (.getfield 15, 3) := by decide +kernel
theorem dX3_become_27 : decode cX3_become 27 = .ok (.iconst 0, 1) := by decide +kernel
theorem dX3_become_28 : decode cX3_become 28 = .ok (.aload_n 0, 1) := by decide +kernel
theorem dX3_become_29 : decode cX3_become 29 = .ok (.getfield 15, 3) := by decide +kernel
theorem dX3_become_32 : decode cX3_become 32 = .ok (.iconst 0, 1) := by decide +kernel
theorem dX3_become_33 : decode cX3_become 33 = .ok (.bipush 6, 2) := by decide +kernel
theorem dX3_become_35 : decode cX3_become 35 = .ok (.invokestatic 41, 3) := by decide +kernel
theorem dX3_become_38 : decode cX3_become 38 = .ok (.aload_n 1, 1) := by decide +kernel
theorem dX3_become_39 : decode cX3_become 39 = .ok (.getfield 18, 3) := by decide +kernel
theorem dX3_become_42 : decode cX3_become 42 = .ok (.iconst 0, 1) := by decide +kernel
theorem dX3_become_43 : decode cX3_become 43 = .ok (.aload_n 0, 1) := by decide +kernel
theorem dX3_become_44 : decode cX3_become 44 = .ok (.getfield 18, 3) := by decide +kernel
theorem dX3_become_47 : decode cX3_become 47 = .ok (.iconst 0, 1) := by decide +kernel
theorem dX3_become_48 : decode cX3_become 48 = .ok (.bipush 6, 2) := by decide +kernel
theorem dX3_become_50 : decode cX3_become 50 = .ok (.invokestatic 41, 3) := by decide +kernel
theorem dX3_become_53 : decode cX3_become 53 = .ok (.aload_n 1, 1) := by decide +kernel
theorem dX3_become_54 : decode cX3_become 54 = .ok (.getfield 21, 3) := by decide +kernel
theorem dX3_become_57 : decode cX3_become 57 = .ok (.iconst 0, 1) := by decide +kernel
theorem dX3_become_58 : decode cX3_become 58 = .ok (.aload_n 0, 1) := by decide +kernel
theorem dX3_become_59 : decode cX3_become 59 = .ok (.getfield 21, 3) := by decide +kernel
theorem dX3_become_62 : decode cX3_become 62 = .ok (.iconst 0, 1) := by decide +kernel
theorem dX3_become_63 : decode cX3_become 63 = .ok (.bipush 6, 2) := by decide +kernel
theorem dX3_become_65 : decode cX3_become 65 = .ok (.invokestatic 41, 3) := by decide +kernel
theorem dX3_become_68 : decode cX3_become 68 = .ok (.aload_n 1, 1) := by decide +kernel
theorem dX3_become_69 : decode cX3_become 69 = .ok (.getfield 24, 3) := by decide +kernel
theorem dX3_become_72 : decode cX3_become 72 = .ok (.iconst 0, 1) := by decide +kernel
theorem dX3_become_73 : decode cX3_become 73 = .ok (.aload_n 0, 1) := by decide +kernel
theorem dX3_become_74 : decode cX3_become 74 = .ok (.getfield 24, 3) := by decide +kernel
theorem dX3_become_77 : decode cX3_become 77 = .ok (.iconst 0, 1) := by decide +kernel
theorem dX3_become_78 : decode cX3_become 78 = .ok (.iconst 3, 1) := by decide +kernel
theorem dX3_become_79 : decode cX3_become 79 = .ok (.invokestatic 41, 3) := by decide +kernel
theorem dX3_become_82 : decode cX3_become 82 = .ok (.return_, 1) := by decide +kernel
theorem dX3_has_0 : decode cX3_has 0 = .ok (.iload_n 1, 1) := by decide +kernel
theorem dX3_has_1 : decode cX3_has 1 = .ok (.ifCond .lt 15, 3) := by decide +kernel
theorem dX3_has_4 : decode cX3_has 4 = .ok (.iload_n 1, 1) := by decide +kernel
theorem dX3_has_5 : decode cX3_has 5 = .ok (.aload_n 0, 1) := by decide +kernel
theorem dX3_has_6 : decode cX3_has 6 = .ok (.getfield 27, 3) := by decide +kernel
theorem dX3_has_9 : decode cX3_has 9 = .ok (.if_icmp .ge 7, 3) := by decide +kernel
theorem dX3_has_12 : decode cX3_has 12 = .ok (.iconst 1, 1) := by decide +kernel
theorem dX3_has_13 : decode cX3_has 13 = .ok (.goto 4, 3) := by decide +kernel
theorem dX3_has_16 : decode cX3_has 16 = .ok (.iconst 0, 1) := by decide +kernel
theorem dX3_has_17 : decode cX3_has 17 = .ok (.ireturn, 1) := by decide +kernel
theorem dX3_sortOf_0 : decode cX3_sortOf 0 = .ok (.aload_n 0, 1) := by decide +kernel
theorem dX3_sortOf_1 : decode cX3_sortOf 1 = .ok (.iload_n 1, 1) := by decide +kernel
theorem dX3_sortOf_2 : decode cX3_sortOf 2 = .ok (.invokevirtual 47, 3) := by decide +kernel
theorem dX3_sortOf_5 : decode cX3_sortOf 5 = .ok (.ifCond .eq 12, 3) := by decide +kernel
theorem dX3_sortOf_8 : decode cX3_sortOf 8 = .ok (.aload_n 0, 1) := by decide +kernel
theorem dX3_sortOf_9 : decode cX3_sortOf 9 = .ok (.getfield 9, 3) := by decide +kernel
theorem dX3_sortOf_12 : decode cX3_sortOf 12 = .ok (.iload_n 1, 1) := by decide +kernel
theorem dX3_sortOf_13 : decode cX3_sortOf 13 = .ok (.iaload, 1) := by decide +kernel
theorem dX3_sortOf_14 : decode cX3_sortOf 14 = .ok (.goto 4, 3) := by decide +kernel
theorem dX3_sortOf_17 : decode cX3_sortOf 17 = .ok (.iconst (-1), 1) := by decide +kernel
theorem dX3_sortOf_18 : decode cX3_sortOf 18 = .ok (.ireturn, 1) := by decide +kernel
theorem dX3_groupOf_0 : decode cX3_groupOf 0 = .ok (.aload_n 0, 1) := by decide +kernel
theorem dX3_groupOf_1 : decode cX3_groupOf 1 = .ok (.iload_n 1, 1) := by decide +kernel
theorem dX3_groupOf_2 : decode cX3_groupOf 2 = .ok (.invokevirtual 47, 3) := by decide +kernel
theorem dX3_groupOf_5 : decode cX3_groupOf 5 = .ok (.ifCond .eq 12, 3) := by decide +kernel
theorem dX3_groupOf_8 : decode cX3_groupOf 8 = .ok (.aload_n 0, 1) := by decide +kernel
theorem dX3_groupOf_9 : decode cX3_groupOf 9 = .ok (.getfield 15, 3) := by decide +kernel
theorem dX3_groupOf_12 : decode cX3_groupOf 12 = .ok (.iload_n 1, 1) := by decide +kernel
theorem dX3_groupOf_13 : decode cX3_groupOf 13 = .ok (.iaload, 1) := by decide +kernel
theorem dX3_groupOf_14 : decode cX3_groupOf 14 = .ok (.goto 4, 3) := by decide +kernel
theorem dX3_groupOf_17 : decode cX3_groupOf 17 = .ok (.iconst (-1), 1) := by decide +kernel
theorem dX3_groupOf_18 : decode cX3_groupOf 18 = .ok (.ireturn, 1) := by decide +kernel
theorem dX3_caseOf_0 : decode cX3_caseOf 0 = .ok (.aload_n 0, 1) := by decide +kernel
theorem dX3_caseOf_1 : decode cX3_caseOf 1 = .ok (.iload_n 1, 1) := by decide +kernel
theorem dX3_caseOf_2 : decode cX3_caseOf 2 = .ok (.invokevirtual 47, 3) := by decide +kernel
theorem dX3_caseOf_5 : decode cX3_caseOf 5 = .ok (.ifCond .eq 12, 3) := by decide +kernel
theorem dX3_caseOf_8 : decode cX3_caseOf 8 = .ok (.aload_n 0, 1) := by decide +kernel
theorem dX3_caseOf_9 : decode cX3_caseOf 9 = .ok (.getfield 18, 3) := by decide +kernel
theorem dX3_caseOf_12 : decode cX3_caseOf 12 = .ok (.iload_n 1, 1) := by decide +kernel
theorem dX3_caseOf_13 : decode cX3_caseOf 13 = .ok (.iaload, 1) := by decide +kernel
theorem dX3_caseOf_14 : decode cX3_caseOf 14 = .ok (.goto 4, 3) := by decide +kernel
theorem dX3_caseOf_17 : decode cX3_caseOf 17 = .ok (.iconst (-1), 1) := by decide +kernel
theorem dX3_caseOf_18 : decode cX3_caseOf 18 = .ok (.ireturn, 1) := by decide +kernel
theorem dX3_plainOf_0 : decode cX3_plainOf 0 = .ok (.aload_n 0, 1) := by decide +kernel
theorem dX3_plainOf_1 : decode cX3_plainOf 1 = .ok (.iload_n 1, 1) := by decide +kernel
theorem dX3_plainOf_2 : decode cX3_plainOf 2 = .ok (.invokevirtual 47, 3) := by decide +kernel
theorem dX3_plainOf_5 : decode cX3_plainOf 5 = .ok (.ifCond .eq 12, 3) := by decide +kernel
theorem dX3_plainOf_8 : decode cX3_plainOf 8 = .ok (.aload_n 0, 1) := by decide +kernel
theorem dX3_plainOf_9 : decode cX3_plainOf 9 = .ok (.getfield 21, 3) := by decide +kernel
theorem dX3_plainOf_12 : decode cX3_plainOf 12 = .ok (.iload_n 1, 1) := by decide +kernel
theorem dX3_plainOf_13 : decode cX3_plainOf 13 = .ok (.iaload, 1) := by decide +kernel
theorem dX3_plainOf_14 : decode cX3_plainOf 14 = .ok (.goto 4, 3) := by decide +kernel
theorem dX3_plainOf_17 : decode cX3_plainOf 17 = .ok (.iconst (-1), 1) := by decide +kernel
theorem dX3_plainOf_18 : decode cX3_plainOf 18 = .ok (.ireturn, 1) := by decide +kernel
theorem dX3_nounOf_0 : decode cX3_nounOf 0 = .ok (.iload_n 1, 1) := by decide +kernel
theorem dX3_nounOf_1 : decode cX3_nounOf 1 = .ok (.iconst 3, 1) := by decide +kernel
theorem dX3_nounOf_2 : decode cX3_nounOf 2 = .ok (.invokestatic 37, 3) := by decide +kernel
theorem dX3_nounOf_5 : decode cX3_nounOf 5 = .ok (.ifCond .eq 12, 3) := by decide +kernel
theorem dX3_nounOf_8 : decode cX3_nounOf 8 = .ok (.aload_n 0, 1) := by decide +kernel
theorem dX3_nounOf_9 : decode cX3_nounOf 9 = .ok (.getfield 24, 3) := by decide +kernel
theorem dX3_nounOf_12 : decode cX3_nounOf 12 = .ok (.iload_n 1, 1) := by decide +kernel
theorem dX3_nounOf_13 : decode cX3_nounOf 13 = .ok (.iaload, 1) := by decide +kernel
theorem dX3_nounOf_14 : decode cX3_nounOf 14 = .ok (.goto 4, 3) := by decide +kernel
theorem dX3_nounOf_17 : decode cX3_nounOf 17 = .ok (.iconst (-1), 1) := by decide +kernel
theorem dX3_nounOf_18 : decode cX3_nounOf 18 = .ok (.ireturn, 1) := by decide +kernel
theorem dX3_isWhole_0 : decode cX3_isWhole 0 = .ok (.iconst 0, 1) := by decide +kernel
theorem dX3_isWhole_1 : decode cX3_isWhole 1 = .ok (.istore_n 1, 1) := by decide +kernel
theorem dX3_isWhole_2 : decode cX3_isWhole 2 = .ok (.iload_n 1, 1) := by decide +kernel
theorem dX3_isWhole_3 : decode cX3_isWhole 3 = .ok (.aload_n 0, 1) := by decide +kernel
theorem dX3_isWhole_4 : decode cX3_isWhole 4 = .ok (.getfield 27, 3) := by decide +kernel
theorem dX3_isWhole_7 : decode cX3_isWhole 7 = .ok (.if_icmp .ge 33, 3) := by decide +kernel
theorem dX3_isWhole_10 : decode cX3_isWhole 10 = .ok (.aload_n 0, 1) := by decide +kernel
theorem dX3_isWhole_11 : decode cX3_isWhole 11 = .ok (.iload_n 1, 1) := by decide +kernel
theorem dX3_isWhole_12 : decode cX3_isWhole 12 = .ok (.invokevirtual 51, 3) := by decide +kernel
theorem dX3_isWhole_15 : decode cX3_isWhole 15 = .ok (.iconst (-1), 1) := by decide +kernel
theorem dX3_isWhole_16 : decode cX3_isWhole 16 = .ok (.if_icmp .eq 18, 3) := by decide +kernel
theorem dX3_isWhole_19 : decode cX3_isWhole 19 = .ok (.aload_n 0, 1) := by decide +kernel
theorem dX3_isWhole_20 : decode cX3_isWhole 20 = .ok (.aload_n 0, 1) := by decide +kernel
theorem dX3_isWhole_21 : decode cX3_isWhole 21 = .ok (.iload_n 1, 1) := by decide +kernel
theorem dX3_isWhole_22 : decode cX3_isWhole 22 = .ok (.invokevirtual 51, 3) := by decide +kernel
theorem dX3_isWhole_25 : decode cX3_isWhole 25 = .ok (.invokevirtual 55, 3) := by decide +kernel
theorem dX3_isWhole_28 : decode cX3_isWhole 28 = .ok (.iconst (-1), 1) := by decide +kernel
theorem dX3_isWhole_29 : decode cX3_isWhole 29 = .ok (.if_icmp .ne 5, 3) := by decide +kernel
theorem dX3_isWhole_32 : decode cX3_isWhole 32 = .ok (.iconst 0, 1) := by decide +kernel
theorem dX3_isWhole_33 : decode cX3_isWhole 33 = .ok (.ireturn, 1) := by decide +kernel
theorem dX3_isWhole_34 : decode cX3_isWhole 34 = .ok (.iinc 1 1, 3) := by decide +kernel
theorem dX3_isWhole_37 : decode cX3_isWhole 37 = .ok (.goto (-35), 3) := by decide +kernel
theorem dX3_isWhole_40 : decode cX3_isWhole 40 = .ok (.aload_n 0, 1) := by decide +kernel
theorem dX3_isWhole_41 : decode cX3_isWhole 41 = .ok (.getfield 27, 3) := by decide +kernel
theorem dX3_isWhole_44 : decode cX3_isWhole 44 = .ok (.ifCond .le 7, 3) := by decide +kernel
theorem dX3_isWhole_47 : decode cX3_isWhole 47 = .ok (.iconst 1, 1) := by decide +kernel
theorem dX3_isWhole_48 : decode cX3_isWhole 48 = .ok (.goto 4, 3) := by decide +kernel
theorem dX3_isWhole_51 : decode cX3_isWhole 51 = .ok (.iconst 0, 1) := by decide +kernel
theorem dX3_isWhole_52 : decode cX3_isWhole 52 = .ok (.ireturn, 1) := by decide +kernel
theorem dX3_takes_0 : decode cX3_takes 0 = .ok (.aload_n 0, 1) := by decide +kernel
theorem dX3_takes_1 : decode cX3_takes 1 = .ok (.iload_n 1, 1) := by decide +kernel
theorem dX3_takes_2 : decode cX3_takes 2 = .ok (.invokevirtual 47, 3) := by decide +kernel
theorem dX3_takes_5 : decode cX3_takes 5 = .ok (.ifCond .ne 5, 3) := by decide +kernel
theorem dX3_takes_8 : decode cX3_takes 8 = .ok (.iconst 0, 1) := by decide +kernel
theorem dX3_takes_9 : decode cX3_takes 9 = .ok (.ireturn, 1) := by decide +kernel
theorem dX3_takes_10 : decode cX3_takes 10 = .ok (.aload_n 0, 1) := by decide +kernel
theorem dX3_takes_11 : decode cX3_takes 11 = .ok (.getfield 9, 3) := by decide +kernel
theorem dX3_takes_14 : decode cX3_takes 14 = .ok (.iload_n 1, 1) := by decide +kernel
theorem dX3_takes_15 : decode cX3_takes 15 = .ok (.iaload, 1) := by decide +kernel
theorem dX3_takes_16 : decode cX3_takes 16 = .ok (.tableswitch 109 0 3 #[32, 54, 76, 90], 32) := by decide +kernel
theorem dX3_takes_48 : decode cX3_takes 48 = .ok (.aload_n 2, 1) := by decide +kernel
theorem dX3_takes_49 : decode cX3_takes 49 = .ok (.getfield 58, 3) := by decide +kernel
theorem dX3_takes_52 : decode cX3_takes 52 = .ok (.iconst 1, 1) := by decide +kernel
theorem dX3_takes_53 : decode cX3_takes 53 = .ok (.if_icmp .eq 11, 3) := by decide +kernel
theorem dX3_takes_56 : decode cX3_takes 56 = .ok (.aload_n 2, 1) := by decide +kernel
theorem dX3_takes_57 : decode cX3_takes 57 = .ok (.getfield 58, 3) := by decide +kernel
theorem dX3_takes_60 : decode cX3_takes 60 = .ok (.iconst 3, 1) := by decide +kernel
theorem dX3_takes_61 : decode cX3_takes 61 = .ok (.if_icmp .ne 7, 3) := by decide +kernel
theorem dX3_takes_64 : decode cX3_takes 64 = .ok (.iconst 1, 1) := by decide +kernel
theorem dX3_takes_65 : decode cX3_takes 65 = .ok (.goto 4, 3) := by decide +kernel
theorem dX3_takes_68 : decode cX3_takes 68 = .ok (.iconst 0, 1) := by decide +kernel
theorem dX3_takes_69 : decode cX3_takes 69 = .ok (.ireturn, 1) := by decide +kernel
theorem dX3_takes_70 : decode cX3_takes 70 = .ok (.aload_n 2, 1) := by decide +kernel
theorem dX3_takes_71 : decode cX3_takes 71 = .ok (.getfield 58, 3) := by decide +kernel
theorem dX3_takes_74 : decode cX3_takes 74 = .ok (.iconst 2, 1) := by decide +kernel
theorem dX3_takes_75 : decode cX3_takes 75 = .ok (.if_icmp .eq 11, 3) := by decide +kernel
theorem dX3_takes_78 : decode cX3_takes 78 = .ok (.aload_n 2, 1) := by decide +kernel
theorem dX3_takes_79 : decode cX3_takes 79 = .ok (.getfield 58, 3) := by decide +kernel
theorem dX3_takes_82 : decode cX3_takes 82 = .ok (.iconst 5, 1) := by decide +kernel
theorem dX3_takes_83 : decode cX3_takes 83 = .ok (.if_icmp .ne 7, 3) := by decide +kernel
theorem dX3_takes_86 : decode cX3_takes 86 = .ok (.iconst 1, 1) := by decide +kernel
theorem dX3_takes_87 : decode cX3_takes 87 = .ok (.goto 4, 3) := by decide +kernel
theorem dX3_takes_90 : decode cX3_takes 90 = .ok (.iconst 0, 1) := by decide +kernel
theorem dX3_takes_91 : decode cX3_takes 91 = .ok (.ireturn, 1) := by decide +kernel
theorem dX3_takes_92 : decode cX3_takes 92 = .ok (.aload_n 2, 1) := by decide +kernel
theorem dX3_takes_93 : decode cX3_takes 93 = .ok (.getfield 58, 3) := by decide +kernel
theorem dX3_takes_96 : decode cX3_takes 96 = .ok (.iconst 4, 1) := by decide +kernel
theorem dX3_takes_97 : decode cX3_takes 97 = .ok (.if_icmp .ne 7, 3) := by decide +kernel
theorem dX3_takes_100 : decode cX3_takes 100 = .ok (.iconst 1, 1) := by decide +kernel
theorem dX3_takes_101 : decode cX3_takes 101 = .ok (.goto 4, 3) := by decide +kernel
theorem dX3_takes_104 : decode cX3_takes 104 = .ok (.iconst 0, 1) := by decide +kernel
theorem dX3_takes_105 : decode cX3_takes 105 = .ok (.ireturn, 1) := by decide +kernel
theorem dX3_takes_106 : decode cX3_takes 106 = .ok (.aload_n 2, 1) := by decide +kernel
theorem dX3_takes_107 : decode cX3_takes 107 = .ok (.getfield 63, 3) := by decide +kernel
theorem dX3_takes_110 : decode cX3_takes 110 = .ok (.aload_n 0, 1) := by decide +kernel
theorem dX3_takes_111 : decode cX3_takes 111 = .ok (.getfield 21, 3) := by decide +kernel
theorem dX3_takes_114 : decode cX3_takes 114 = .ok (.iload_n 1, 1) := by decide +kernel
theorem dX3_takes_115 : decode cX3_takes 115 = .ok (.iaload, 1) := by decide +kernel
theorem dX3_takes_116 : decode cX3_takes 116 = .ok (.if_icmp .ne 7, 3) := by decide +kernel
theorem dX3_takes_119 : decode cX3_takes 119 = .ok (.iconst 1, 1) := by decide +kernel
theorem dX3_takes_120 : decode cX3_takes 120 = .ok (.goto 4, 3) := by decide +kernel
theorem dX3_takes_123 : decode cX3_takes 123 = .ok (.iconst 0, 1) := by decide +kernel
theorem dX3_takes_124 : decode cX3_takes 124 = .ok (.ireturn, 1) := by decide +kernel
theorem dX3_takes_125 : decode cX3_takes 125 = .ok (.iconst 0, 1) := by decide +kernel
theorem dX3_takes_126 : decode cX3_takes 126 = .ok (.ireturn, 1) := by decide +kernel
theorem dX4_init_0 : decode cX4_init 0 = .ok (.aload_n 0, 1) := by decide +kernel
theorem dX4_init_1 : decode cX4_init 1 = .ok (.invokespecial 3, 3) := by decide +kernel
theorem dX4_init_4 : decode cX4_init 4 = .ok (.aload_n 0, 1) := by decide +kernel
theorem dX4_init_5 : decode cX4_init 5 = .ok (.new 9, 3) := by decide +kernel
theorem dX4_init_8 : decode cX4_init 8 = .ok (.dup, 1) := by decide +kernel
theorem dX4_init_9 : decode cX4_init 9 = .ok (.invokespecial 11, 3) := by decide +kernel
theorem dX4_init_12 : decode cX4_init 12 = .ok (.putfield 12, 3) := by decide +kernel
theorem dX4_init_15 : decode cX4_init 15 = .ok (.return_, 1) := by decide +kernel
theorem dX4_read_0 : decode cX4_read 0 = .ok (.aload_n 0, 1) := by decide +kernel
theorem dX4_read_1 : decode cX4_read 1 = .ok (.getfield 12, 3) := by decide +kernel
theorem dX4_read_4 : decode cX4_read 4 = .ok (.invokevirtual 18, 3) := by decide +kernel
theorem dX4_read_7 : decode cX4_read 7 = .ok (.aload_n 0, 1) := by decide +kernel
theorem dX4_read_8 : decode cX4_read 8 = .ok (.iconst 0, 1) := by decide +kernel
theorem dX4_read_9 : decode cX4_read 9 = .ok (.putfield 21, 3) := by decide +kernel
theorem dX4_read_12 : decode cX4_read 12 = .ok (.aload_n 0, 1) := by decide +kernel
theorem dX4_read_13 : decode cX4_read 13 = .ok (.aload_n 2, 1) := by decide +kernel
theorem dX4_read_14 : decode cX4_read 14 = .ok (.invokevirtual 25, 3) := by decide +kernel
theorem dX4_read_17 : decode cX4_read 17 = .ok (.iconst 0, 1) := by decide +kernel
theorem dX4_read_18 : decode cX4_read 18 = .ok (.istore_n 3, 1) := by decide +kernel
theorem dX4_read_19 : decode cX4_read 19 = .ok (.iload_n 3, 1) := by decide +kernel
theorem dX4_read_20 : decode cX4_read 20 = .ok (.bipush 6, 2) := by decide +kernel
theorem dX4_read_22 : decode cX4_read 22 = .ok (.if_icmp .gt 39, 3) := by decide +kernel
theorem dX4_read_25 : decode cX4_read 25 = .ok (.aload_n 0, 1) := by decide +kernel
theorem dX4_read_26 : decode cX4_read 26 = .ok (.getfield 21, 3) := by decide +kernel
theorem dX4_read_29 : decode cX4_read 29 = .ok (.aload_n 2, 1) := by decide +kernel
theorem dX4_read_30 : decode cX4_read 30 = .ok (.getfield 29, 3) := by decide +kernel
theorem dX4_read_33 : decode cX4_read 33 = .ok (.if_icmp .ge 28, 3) := by decide +kernel
theorem dX4_read_36 : decode cX4_read 36 = .ok (.aload_n 0, 1) := by decide +kernel
theorem dX4_read_37 : decode cX4_read 37 = .ok (.aload_n 1, 1) := by decide +kernel
theorem dX4_read_38 : decode cX4_read 38 = .ok (.aload_n 2, 1) := by decide +kernel
theorem dX4_read_39 : decode cX4_read 39 = .ok (.invokevirtual 34, 3) := by decide +kernel
theorem dX4_read_42 : decode cX4_read 42 = .ok (.ifCond .ne 8, 3) := by decide +kernel
theorem dX4_read_45 : decode cX4_read 45 = .ok (.aload_n 0, 1) := by decide +kernel
theorem dX4_read_46 : decode cX4_read 46 = .ok (.getfield 21, 3) := by decide +kernel
theorem dX4_read_49 : decode cX4_read 49 = .ok (.ireturn, 1) := by decide +kernel
theorem dX4_read_50 : decode cX4_read 50 = .ok (.aload_n 0, 1) := by decide +kernel
theorem dX4_read_51 : decode cX4_read 51 = .ok (.aload_n 2, 1) := by decide +kernel
theorem dX4_read_52 : decode cX4_read 52 = .ok (.invokevirtual 25, 3) := by decide +kernel
theorem dX4_read_55 : decode cX4_read 55 = .ok (.iinc 3 1, 3) := by decide +kernel
theorem dX4_read_58 : decode cX4_read 58 = .ok (.goto (-39), 3) := by decide +kernel
theorem dX4_read_61 : decode cX4_read 61 = .ok (.aload_n 0, 1) := by decide +kernel
theorem dX4_read_62 : decode cX4_read 62 = .ok (.getfield 12, 3) := by decide +kernel
theorem dX4_read_65 : decode cX4_read 65 = .ok (.invokevirtual 38, 3) := by decide +kernel
theorem dX4_read_68 : decode cX4_read 68 = .ok (.ifCond .eq 7, 3) := by decide +kernel
theorem dX4_read_71 : decode cX4_read 71 = .ok (.iconst (-1), 1) := by decide +kernel
theorem dX4_read_72 : decode cX4_read 72 = .ok (.goto 7, 3) := by decide +kernel
theorem dX4_read_75 : decode cX4_read 75 = .ok (.aload_n 2, 1) := by decide +kernel
theorem dX4_read_76 : decode cX4_read 76 = .ok (.getfield 29, 3) := by decide +kernel
theorem dX4_read_79 : decode cX4_read 79 = .ok (.ireturn, 1) := by decide +kernel
theorem dX4_skipBlanks_0 : decode cX4_skipBlanks 0 = .ok (.aload_n 0, 1) := by decide +kernel
theorem dX4_skipBlanks_1 : decode cX4_skipBlanks 1 = .ok (.getfield 21, 3) := by decide +kernel
theorem dX4_skipBlanks_4 : decode cX4_skipBlanks 4 = .ok (.istore_n 2, 1) := by decide +kernel
theorem dX4_skipBlanks_5 : decode cX4_skipBlanks 5 = .ok (.iload_n 2, 1) := by decide +kernel
theorem dX4_skipBlanks_6 : decode cX4_skipBlanks 6 = .ok (.aload_n 1, 1) := by decide +kernel
theorem dX4_skipBlanks_7 : decode cX4_skipBlanks 7 = .ok (.getfield 29, 3) := by decide +kernel
theorem dX4_skipBlanks_10 : decode cX4_skipBlanks 10 = .ok (.if_icmp .ge 36, 3) := by decide +kernel
theorem dX4_skipBlanks_13 : decode cX4_skipBlanks 13 = .ok (.aload_n 1, 1) := by decide +kernel
theorem dX4_skipBlanks_14 : decode cX4_skipBlanks 14 = .ok (.iload_n 2, 1) := by decide +kernel
theorem dX4_skipBlanks_15 : decode cX4_skipBlanks 15 = .ok (.invokevirtual 42, 3) := by decide +kernel
theorem dX4_skipBlanks_18 : decode cX4_skipBlanks 18 = .ok (.bipush 32, 2) := by decide +kernel
theorem dX4_skipBlanks_20 : decode cX4_skipBlanks 20 = .ok (.if_icmp .eq 13, 3) := by decide +kernel
theorem dX4_skipBlanks_23 : decode cX4_skipBlanks 23 = .ok (.aload_n 1, 1) := by decide +kernel
theorem dX4_skipBlanks_24 : decode cX4_skipBlanks 24 = .ok (.iload_n 2, 1) := by decide +kernel
theorem dX4_skipBlanks_25 : decode cX4_skipBlanks 25 = .ok (.invokevirtual 42, 3) := by decide +kernel
theorem dX4_skipBlanks_28 : decode cX4_skipBlanks 28 = .ok (.bipush 10, 2) := by decide +kernel
theorem dX4_skipBlanks_30 : decode cX4_skipBlanks 30 = .ok (.if_icmp .ne 16, 3) := by decide +kernel
theorem dX4_skipBlanks_33 : decode cX4_skipBlanks 33 = .ok (.aload_n 0, 1) := by decide +kernel
theorem dX4_skipBlanks_34 : decode cX4_skipBlanks 34 = .ok (.iload_n 2, 1) := by decide +kernel
theorem dX4_skipBlanks_35 : decode cX4_skipBlanks 35 = .ok (.iconst 1, 1) := by decide +kernel
theorem dX4_skipBlanks_36 : decode cX4_skipBlanks 36 = .ok (.iadd, 1) := by decide +kernel
theorem dX4_skipBlanks_37 : decode cX4_skipBlanks 37 = .ok (.putfield 21, 3) := by decide +kernel
theorem dX4_skipBlanks_40 : decode cX4_skipBlanks 40 = .ok (.iinc 2 1, 3) := by decide +kernel
theorem dX4_skipBlanks_43 : decode cX4_skipBlanks 43 = .ok (.goto (-38), 3) := by decide +kernel
theorem dX4_skipBlanks_46 : decode cX4_skipBlanks 46 = .ok (.return_, 1) := by decide +kernel
theorem dX4_readHole_0 : decode cX4_readHole 0 = .ok (.aload_n 2, 1) := by decide +kernel
theorem dX4_readHole_1 : decode cX4_readHole 1 = .ok (.aload_n 0, 1) := by decide +kernel
theorem dX4_readHole_2 : decode cX4_readHole 2 = .ok (.getfield 21, 3) := by decide +kernel
theorem dX4_readHole_5 : decode cX4_readHole 5 = .ok (.invokevirtual 42, 3) := by decide +kernel
theorem dX4_readHole_8 : decode cX4_readHole 8 = .ok (.invokestatic 46, 3) := by decide +kernel
theorem dX4_readHole_11 : decode cX4_readHole 11 = .ok (.istore_n 3, 1) := by decide +kernel
theorem dX4_readHole_12 : decode cX4_readHole 12 = .ok (.iload_n 3, 1) := by decide +kernel
theorem dX4_readHole_13 : decode cX4_readHole 13 = .ok (.iconst (-1), 1) := by decide +kernel
theorem dX4_readHole_14 : decode cX4_readHole 14 = .ok (.if_icmp .eq 15, 3) := by decide +kernel
theorem dX4_readHole_17 : decode cX4_readHole 17 = .ok (.aload_n 0, 1) := by decide +kernel
theorem dX4_readHole_18 : decode cX4_readHole 18 = .ok (.getfield 12, 3) := by decide +kernel
theorem dX4_readHole_21 : decode cX4_readHole 21 = .ok (.getfield 49, 3) := by decide +kernel
theorem dX4_readHole_24 : decode cX4_readHole 24 = .ok (.bipush 6, 2) := by decide +kernel
theorem dX4_readHole_26 : decode cX4_readHole 26 = .ok (.if_icmp .lt 5, 3) := by decide +kernel
theorem dX4_readHole_29 : decode cX4_readHole 29 = .ok (.iconst 0, 1) := by decide +kernel
theorem dX4_readHole_30 : decode cX4_readHole 30 = .ok (.ireturn, 1) := by decide +kernel
theorem dX4_readHole_31 : decode cX4_readHole 31 = .ok (.aload_n 0, 1) := by decide +kernel
theorem dX4_readHole_32 : decode cX4_readHole 32 = .ok (.dup, 1) := by decide +kernel
theorem dX4_readHole_33 : decode cX4_readHole 33 = .ok (.getfield 21, 3) := by decide +kernel
theorem dX4_readHole_36 : decode cX4_readHole 36 = .ok (.iconst 1, 1) := by decide +kernel
theorem dX4_readHole_37 : decode cX4_readHole 37 = .ok (.iadd, 1) := by decide +kernel
theorem dX4_readHole_38 : decode cX4_readHole 38 = .ok (.putfield 21, 3) := by decide +kernel
theorem dX4_readHole_41 : decode cX4_readHole 41 = .ok (.iload_n 3, 1) := by decide +kernel
theorem dX4_readHole_42 : decode cX4_readHole 42 = .ok (.iconst 3, 1) := by decide +kernel
theorem dX4_readHole_43 : decode cX4_readHole 43 = .ok (.if_icmp .ne 12, 3) := by decide +kernel
theorem dX4_readHole_46 : decode cX4_readHole 46 = .ok (.aload_n 0, 1) := by decide +kernel
theorem dX4_readHole_47 : decode cX4_readHole 47 = .ok (.aload_n 1, 1) := by decide +kernel
theorem dX4_readHole_48 : decode cX4_readHole 48 = .ok (.aload_n 2, 1) := by decide +kernel
theorem dX4_readHole_49 : decode cX4_readHole 49 = .ok (.invokevirtual 50, 3) := by decide +kernel
theorem dX4_readHole_52 : decode cX4_readHole 52 = .ok (.goto 9, 3) := by decide +kernel
theorem dX4_readHole_55 : decode cX4_readHole 55 = .ok (.aload_n 0, 1) := by decide +kernel
theorem dX4_readHole_56 : decode cX4_readHole 56 = .ok (.iload_n 3, 1) := by decide +kernel
theorem dX4_readHole_57 : decode cX4_readHole 57 = .ok (.aload_n 2, 1) := by decide +kernel
theorem dX4_readHole_58 : decode cX4_readHole 58 = .ok (.invokevirtual 53, 3) := by decide +kernel
theorem dX4_readHole_61 : decode cX4_readHole 61 = .ok (.ireturn, 1) := by decide +kernel
theorem dX4_readGrouped_0 : decode cX4_readGrouped 0 = .ok (.aload_n 2, 1) := by decide +kernel
theorem dX4_readGrouped_1 : decode cX4_readGrouped 1 = .ok (.aload_n 0, 1) := by decide +kernel
theorem dX4_readGrouped_2 : decode cX4_readGrouped 2 = .ok (.getfield 21, 3) := by decide +kernel
theorem dX4_readGrouped_5 : decode cX4_readGrouped 5 = .ok (.iconst 3, 1) := by decide +kernel
theorem dX4_readGrouped_6 : decode cX4_readGrouped 6 = .ok (.invokestatic 57, 3) := by decide +kernel
theorem dX4_readGrouped_9 : decode cX4_readGrouped 9 = .ok (.istore_n 3, 1) := by decide +kernel
theorem dX4_readGrouped_10 : decode cX4_readGrouped 10 = .ok (.iload_n 3, 1) := by decide +kernel
theorem dX4_readGrouped_11 : decode cX4_readGrouped 11 = .ok (.iconst (-1), 1) := by decide +kernel
theorem dX4_readGrouped_12 : decode cX4_readGrouped 12 = .ok (.if_icmp .eq 19, 3) := by decide +kernel
theorem dX4_readGrouped_15 : decode cX4_readGrouped 15 = .ok (.iload_n 1, 1) := by decide +kernel
theorem dX4_readGrouped_16 : decode cX4_readGrouped 16 = .ok (.ifCond .ne 17, 3) := by decide +kernel
theorem dX4_readGrouped_19 : decode cX4_readGrouped 19 = .ok (.aload_n 0, 1) := by decide +kernel
theorem dX4_readGrouped_20 : decode cX4_readGrouped 20 = .ok (.getfield 12, 3) := by decide +kernel
theorem dX4_readGrouped_23 : decode cX4_readGrouped 23 = .ok (.iload_n 3, 1) := by decide +kernel
theorem dX4_readGrouped_24 : decode cX4_readGrouped 24 = .ok (.invokevirtual 61, 3) := by decide +kernel
theorem dX4_readGrouped_27 : decode cX4_readGrouped 27 = .ok (.iconst (-1), 1) := by decide +kernel
theorem dX4_readGrouped_28 : decode cX4_readGrouped 28 = .ok (.if_icmp .eq 5, 3) := by decide +kernel
theorem dX4_readGrouped_31 : decode cX4_readGrouped 31 = .ok (.iconst 0, 1) := by decide +kernel
theorem dX4_readGrouped_32 : decode cX4_readGrouped 32 = .ok (.ireturn, 1) := by decide +kernel
theorem dX4_readGrouped_33 : decode cX4_readGrouped 33 = .ok (.aload_n 0, 1) := by decide +kernel
theorem dX4_readGrouped_34 : decode cX4_readGrouped 34 = .ok (.dup, 1) := by decide +kernel
theorem dX4_readGrouped_35 : decode cX4_readGrouped 35 = .ok (.getfield 21, 3) := by decide +kernel
theorem dX4_readGrouped_38 : decode cX4_readGrouped 38 = .ok (.iconst 1, 1) := by decide +kernel
theorem dX4_readGrouped_39 : decode cX4_readGrouped 39 = .ok (.iadd, 1) := by decide +kernel
theorem dX4_readGrouped_40 : decode cX4_readGrouped 40 = .ok (.putfield 21, 3) := by decide +kernel
theorem dX4_readGrouped_43 : decode cX4_readGrouped 43 = .ok (.iconst (-1), 1) := by decide +kernel
theorem dX4_readGrouped_44 : decode cX4_readGrouped 44 = .ok (.istore 4, 2) := by decide +kernel
theorem dX4_readGrouped_46 : decode cX4_readGrouped 46 = .ok (.iload_n 1, 1) := by decide +kernel
theorem dX4_readGrouped_47 : decode cX4_readGrouped 47 = .ok (.iconst 1, 1) := by decide +kernel
theorem dX4_readGrouped_48 : decode cX4_readGrouped 48 = .ok (.if_icmp .eq 32, 3) := by decide +kernel
theorem dX4_readGrouped_51 : decode cX4_readGrouped 51 = .ok (.aload_n 2, 1) := by decide +kernel
theorem dX4_readGrouped_52 : decode cX4_readGrouped 52 = .ok (.aload_n 0, 1) := by decide +kernel
theorem dX4_readGrouped_53 : decode cX4_readGrouped 53 = .ok (.getfield 21, 3) := by decide +kernel
theorem dX4_readGrouped_56 : decode cX4_readGrouped 56 = .ok (.iconst 4, 1) := by decide +kernel
theorem dX4_readGrouped_57 : decode cX4_readGrouped 57 = .ok (.invokestatic 57, 3) := by decide +kernel
theorem dX4_readGrouped_60 : decode cX4_readGrouped 60 = .ok (.istore 4, 2) := by decide +kernel
theorem dX4_readGrouped_62 : decode cX4_readGrouped 62 = .ok (.iload 4, 2) := by decide +kernel
theorem dX4_readGrouped_64 : decode cX4_readGrouped 64 = .ok (.iconst (-1), 1) := by decide +kernel
theorem dX4_readGrouped_65 : decode cX4_readGrouped 65 = .ok (.if_icmp .ne 5, 3) := by decide +kernel
theorem dX4_readGrouped_68 : decode cX4_readGrouped 68 = .ok (.iconst 0, 1) := by decide +kernel
theorem dX4_readGrouped_69 : decode cX4_readGrouped 69 = .ok (.ireturn, 1) := by decide +kernel
theorem dX4_readGrouped_70 : decode cX4_readGrouped 70 = .ok (.aload_n 0, 1) := by decide +kernel
theorem dX4_readGrouped_71 : decode cX4_readGrouped 71 = .ok (.dup, 1) := by decide +kernel
theorem dX4_readGrouped_72 : decode cX4_readGrouped 72 = .ok (.getfield 21, 3) := by decide +kernel
theorem dX4_readGrouped_75 : decode cX4_readGrouped 75 = .ok (.iconst 1, 1) := by decide +kernel
theorem dX4_readGrouped_76 : decode cX4_readGrouped 76 = .ok (.iadd, 1) := by decide +kernel
theorem dX4_readGrouped_77 : decode cX4_readGrouped 77 = .ok (.putfield 21, 3) := by decide +kernel
theorem dX4_readGrouped_80 : decode cX4_readGrouped 80 = .ok (.aload_n 0, 1) := by decide +kernel
theorem dX4_readGrouped_81 : decode cX4_readGrouped 81 = .ok (.getfield 12, 3) := by decide +kernel
theorem dX4_readGrouped_84 : decode cX4_readGrouped 84 = .ok (.iload_n 1, 1) := by decide +kernel
theorem dX4_readGrouped_85 : decode cX4_readGrouped 85 = .ok (.iload_n 3, 1) := by decide +kernel
theorem dX4_readGrouped_86 : decode cX4_readGrouped 86 = .ok (.iload 4, 2) := by decide +kernel
theorem dX4_readGrouped_88 : decode cX4_readGrouped 88 = .ok (.iconst (-1), 1) := by decide +kernel
theorem dX4_readGrouped_89 : decode cX4_readGrouped 89 = .ok (.invokevirtual 64, 3) := by decide +kernel
theorem dX4_readGrouped_92 : decode cX4_readGrouped 92 = .ok (.iconst 1, 1) := by decide +kernel
theorem dX4_readGrouped_93 : decode cX4_readGrouped 93 = .ok (.ireturn, 1) := by decide +kernel
theorem dX4_readPlain_0 : decode cX4_readPlain 0 = .ok (.aload_n 2, 1) := by decide +kernel
theorem dX4_readPlain_1 : decode cX4_readPlain 1 = .ok (.aload_n 0, 1) := by decide +kernel
theorem dX4_readPlain_2 : decode cX4_readPlain 2 = .ok (.getfield 21, 3) := by decide +kernel
theorem dX4_readPlain_5 : decode cX4_readPlain 5 = .ok (.bipush 10, 2) := by decide +kernel
theorem dX4_readPlain_7 : decode cX4_readPlain 7 = .ok (.invokestatic 57, 3) := by decide +kernel
theorem dX4_readPlain_10 : decode cX4_readPlain 10 = .ok (.istore_n 3, 1) := by decide +kernel
theorem dX4_readPlain_11 : decode cX4_readPlain 11 = .ok (.aload_n 2, 1) := by decide +kernel
theorem dX4_readPlain_12 : decode cX4_readPlain 12 = .ok (.aload_n 0, 1) := by decide +kernel
theorem dX4_readPlain_13 : decode cX4_readPlain 13 = .ok (.getfield 21, 3) := by decide +kernel
theorem dX4_readPlain_16 : decode cX4_readPlain 16 = .ok (.iconst 1, 1) := by decide +kernel
theorem dX4_readPlain_17 : decode cX4_readPlain 17 = .ok (.iadd, 1) := by decide +kernel
theorem dX4_readPlain_18 : decode cX4_readPlain 18 = .ok (.bipush 10, 2) := by decide +kernel
theorem dX4_readPlain_20 : decode cX4_readPlain 20 = .ok (.invokestatic 57, 3) := by decide +kernel
theorem dX4_readPlain_23 : decode cX4_readPlain 23 = .ok (.istore 4, 2) := by decide +kernel
theorem dX4_readPlain_25 : decode cX4_readPlain 25 = .ok (.iload 4, 2) := by decide +kernel
theorem dX4_readPlain_27 : decode cX4_readPlain 27 = .ok (.iconst (-1), 1) := by decide +kernel
theorem dX4_readPlain_28 : decode cX4_readPlain 28 = .ok (.if_icmp .ne 7, 3) := by decide +kernel
theorem dX4_readPlain_31 : decode cX4_readPlain 31 = .ok (.iload_n 3, 1) := by decide +kernel
theorem dX4_readPlain_32 : decode cX4_readPlain 32 = .ok (.goto 10, 3) := by decide +kernel
theorem dX4_readPlain_35 : decode cX4_readPlain 35 = .ok (.bipush 10, 2) := by decide +kernel
theorem dX4_readPlain_37 : decode cX4_readPlain 37 = .ok (.iload_n 3, 1) := by decide +kernel
theorem dX4_readPlain_38 : decode cX4_readPlain 38 = .ok (.imul, 1) := by decide +kernel
theorem dX4_readPlain_39 : decode cX4_readPlain 39 = .ok (.iload 4, 2) := by decide +kernel
theorem dX4_readPlain_41 : decode cX4_readPlain 41 = .ok (.iadd, 1) := by decide +kernel
theorem dX4_readPlain_42 : decode cX4_readPlain 42 = .ok (.istore 5, 2) := by decide +kernel
theorem dX4_readPlain_44 : decode cX4_readPlain 44 = .ok (.aload_n 1, 1) := by decide +kernel
theorem dX4_readPlain_45 : decode cX4_readPlain 45 = .ok (.iload 5, 2) := by decide +kernel
theorem dX4_readPlain_47 : decode cX4_readPlain 47 = .ok (.invokevirtual 68, 3) := by decide +kernel
theorem dX4_readPlain_50 : decode cX4_readPlain 50 = .ok (.astore 6, 2) := by decide +kernel
theorem dX4_readPlain_52 : decode cX4_readPlain 52 = .ok (.iload_n 3, 1) := by decide +kernel
theorem dX4_readPlain_53 : decode cX4_readPlain 53 = .ok (.iconst (-1), 1) := by decide +kernel
theorem dX4_readPlain_54 : decode cX4_readPlain 54 = .ok (.if_icmp .eq 16, 3) := by decide +kernel
theorem dX4_readPlain_57 : decode cX4_readPlain 57 = .ok (.aload 6, 2) := by decide +kernel
theorem dX4_readPlain_59 : decode cX4_readPlain 59 = .ok (.ifnull 11, 3) := by decide +kernel
theorem dX4_readPlain_62 : decode cX4_readPlain 62 = .ok (.aload 6, 2) := by decide +kernel
theorem dX4_readPlain_64 : decode cX4_readPlain 64 = .ok (.getfield 74, 3) := by decide +kernel
theorem dX4_readPlain_67 : decode cX4_readPlain 67 = .ok (.ifCond .eq 5, 3) := by decide +kernel
theorem dX4_readPlain_70 : decode cX4_readPlain 70 = .ok (.iconst 0, 1) := by decide +kernel
theorem dX4_readPlain_71 : decode cX4_readPlain 71 = .ok (.ireturn, 1) := by decide +kernel
theorem dX4_readPlain_72 : decode cX4_readPlain 72 = .ok (.aload_n 0, 1) := by decide +kernel
theorem dX4_readPlain_73 : decode cX4_readPlain 73 = .ok (.dup, 1) := by decide +kernel
theorem dX4_readPlain_74 : decode cX4_readPlain 74 = .ok (.getfield 21, 3) := by decide +kernel
theorem dX4_readPlain_77 : decode cX4_readPlain 77 = .ok (.iload 4, 2) := by decide +kernel
theorem dX4_readPlain_79 : decode cX4_readPlain 79 = .ok (.iconst (-1), 1) := by decide +kernel
theorem dX4_readPlain_80 : decode cX4_readPlain 80 = .ok (.if_icmp .ne 7, 3) := by decide +kernel
theorem dX4_readPlain_83 : decode cX4_readPlain 83 = .ok (.iconst 1, 1) := by decide +kernel
theorem dX4_readPlain_84 : decode cX4_readPlain 84 = .ok (.goto 4, 3) := by decide +kernel
theorem dX4_readPlain_87 : decode cX4_readPlain 87 = .ok (.iconst 2, 1) := by decide +kernel
theorem dX4_readPlain_88 : decode cX4_readPlain 88 = .ok (.iadd, 1) := by decide +kernel
theorem dX4_readPlain_89 : decode cX4_readPlain 89 = .ok (.putfield 21, 3) := by decide +kernel
theorem dX4_readPlain_92 : decode cX4_readPlain 92 = .ok (.aload_n 0, 1) := by decide +kernel
theorem dX4_readPlain_93 : decode cX4_readPlain 93 = .ok (.getfield 12, 3) := by decide +kernel
theorem dX4_readPlain_96 : decode cX4_readPlain 96 = .ok (.iconst 3, 1) := by decide +kernel
theorem dX4_readPlain_97 : decode cX4_readPlain 97 = .ok (.iconst (-1), 1) := by decide +kernel
theorem dX4_readPlain_98 : decode cX4_readPlain 98 = .ok (.iconst (-1), 1) := by decide +kernel
theorem dX4_readPlain_99 : decode cX4_readPlain 99 = .ok (.iload 5, 2) := by decide +kernel
theorem dX4_readPlain_101 : decode cX4_readPlain 101 = .ok (.invokevirtual 64, 3) := by decide +kernel
theorem dX4_readPlain_104 : decode cX4_readPlain 104 = .ok (.iconst 1, 1) := by decide +kernel
theorem dX4_readPlain_105 : decode cX4_readPlain 105 = .ok (.ireturn, 1) := by decide +kernel
theorem dX4_sortBy_0 : decode cX4_sortBy 0 = .ok (.iload_n 0, 1) := by decide +kernel
theorem dX4_sortBy_1 : decode cX4_sortBy 1 = .ok (.lookupswitch 51 #[(102, 47), (110, 43), (112, 49), (118, 45)], 43) := by decide +kernel
theorem dX4_sortBy_44 : decode cX4_sortBy 44 = .ok (.iconst 0, 1) := by decide +kernel
theorem dX4_sortBy_45 : decode cX4_sortBy 45 = .ok (.ireturn, 1) := by decide +kernel
theorem dX4_sortBy_46 : decode cX4_sortBy 46 = .ok (.iconst 1, 1) := by decide +kernel
theorem dX4_sortBy_47 : decode cX4_sortBy 47 = .ok (.ireturn, 1) := by decide +kernel
theorem dX4_sortBy_48 : decode cX4_sortBy 48 = .ok (.iconst 2, 1) := by decide +kernel
theorem dX4_sortBy_49 : decode cX4_sortBy 49 = .ok (.ireturn, 1) := by decide +kernel
theorem dX4_sortBy_50 : decode cX4_sortBy 50 = .ok (.iconst 3, 1) := by decide +kernel
theorem dX4_sortBy_51 : decode cX4_sortBy 51 = .ok (.ireturn, 1) := by decide +kernel
theorem dX4_sortBy_52 : decode cX4_sortBy 52 = .ok (.iconst (-1), 1) := by decide +kernel
theorem dX4_sortBy_53 : decode cX4_sortBy 53 = .ok (.ireturn, 1) := by decide +kernel
theorem dX4_digit_0 : decode cX4_digit 0 = .ok (.aload_n 0, 1) := by decide +kernel
theorem dX4_digit_1 : decode cX4_digit 1 = .ok (.iload_n 1, 1) := by decide +kernel
theorem dX4_digit_2 : decode cX4_digit 2 = .ok (.invokevirtual 42, 3) := by decide +kernel
theorem dX4_digit_5 : decode cX4_digit 5 = .ok (.bipush 48, 2) := by decide +kernel
theorem dX4_digit_7 : decode cX4_digit 7 = .ok (.isub, 1) := by decide +kernel
theorem dX4_digit_8 : decode cX4_digit 8 = .ok (.istore_n 3, 1) := by decide +kernel
theorem dX4_digit_9 : decode cX4_digit 9 = .ok (.iload_n 3, 1) := by decide +kernel
theorem dX4_digit_10 : decode cX4_digit 10 = .ok (.iload_n 2, 1) := by decide +kernel
theorem dX4_digit_11 : decode cX4_digit 11 = .ok (.invokestatic 79, 3) := by decide +kernel
theorem dX4_digit_14 : decode cX4_digit 14 = .ok (.ifCond .eq 7, 3) := by decide +kernel
theorem dX4_digit_17 : decode cX4_digit 17 = .ok (.iload_n 3, 1) := by decide +kernel
theorem dX4_digit_18 : decode cX4_digit 18 = .ok (.goto 4, 3) := by decide +kernel
theorem dX4_digit_21 : decode cX4_digit 21 = .ok (.iconst (-1), 1) := by decide +kernel
theorem dX4_digit_22 : decode cX4_digit 22 = .ok (.ireturn, 1) := by decide +kernel
theorem dX5_init_0 : decode cX5_init 0 = .ok (.aload_n 0, 1) := by decide +kernel
theorem dX5_init_1 : decode cX5_init 1 = .ok (.invokespecial 3, 3) := by decide +kernel
theorem dX5_init_4 : decode cX5_init 4 = .ok (.aload_n 0, 1) := by decide +kernel
theorem dX5_init_5 : decode cX5_init 5 = .ok (.iload_n 1, 1) := by decide +kernel
theorem dX5_init_6 : decode cX5_init 6 = .ok (.iconst 0, 1) := by decide +kernel
theorem dX5_init_7 : decode cX5_init 7 = .ok (.invokestatic 9, 3) := by decide +kernel
theorem dX5_init_10 : decode cX5_init 10 = .ok (.newarray .byte, 2) := by decide +kernel
theorem dX5_init_12 : decode cX5_init 12 = .ok (.putfield 15, 3) := by decide +kernel
theorem dX5_init_15 : decode cX5_init 15 = .ok (.return_, 1) := by decide +kernel
theorem dX5_isLetter_0 : decode cX5_isLetter 0 = .ok (.iload_n 0, 1) := by decide +kernel
theorem dX5_isLetter_1 : decode cX5_isLetter 1 = .ok (.bipush 97, 2) := by decide +kernel
theorem dX5_isLetter_3 : decode cX5_isLetter 3 = .ok (.if_icmp .lt 13, 3) := by decide +kernel
theorem dX5_isLetter_6 : decode cX5_isLetter 6 = .ok (.iload_n 0, 1) := by decide +kernel
theorem dX5_isLetter_7 : decode cX5_isLetter 7 = .ok (.bipush 122, 2) := by decide +kernel
theorem dX5_isLetter_9 : decode cX5_isLetter 9 = .ok (.if_icmp .gt 7, 3) := by decide +kernel
theorem dX5_isLetter_12 : decode cX5_isLetter 12 = .ok (.iconst 1, 1) := by decide +kernel
theorem dX5_isLetter_13 : decode cX5_isLetter 13 = .ok (.goto 4, 3) := by decide +kernel
theorem dX5_isLetter_16 : decode cX5_isLetter 16 = .ok (.iconst 0, 1) := by decide +kernel
theorem dX5_isLetter_17 : decode cX5_isLetter 17 = .ok (.ireturn, 1) := by decide +kernel
theorem dX5_isVowel_0 : decode cX5_isVowel 0 = .ok (.iload_n 0, 1) := by decide +kernel
theorem dX5_isVowel_1 : decode cX5_isVowel 1 = .ok (.bipush 97, 2) := by decide +kernel
theorem dX5_isVowel_3 : decode cX5_isVowel 3 = .ok (.if_icmp .eq 27, 3) := by decide +kernel
theorem dX5_isVowel_6 : decode cX5_isVowel 6 = .ok (.iload_n 0, 1) := by decide +kernel
theorem dX5_isVowel_7 : decode cX5_isVowel 7 = .ok (.bipush 101, 2) := by decide +kernel
theorem dX5_isVowel_9 : decode cX5_isVowel 9 = .ok (.if_icmp .eq 21, 3) := by decide +kernel
theorem dX5_isVowel_12 : decode cX5_isVowel 12 = .ok (.iload_n 0, 1) := by decide +kernel
theorem dX5_isVowel_13 : decode cX5_isVowel 13 = .ok (.bipush 105, 2) := by decide +kernel
theorem dX5_isVowel_15 : decode cX5_isVowel 15 = .ok (.if_icmp .eq 15, 3) := by decide +kernel
theorem dX5_isVowel_18 : decode cX5_isVowel 18 = .ok (.iload_n 0, 1) := by decide +kernel
theorem dX5_isVowel_19 : decode cX5_isVowel 19 = .ok (.bipush 111, 2) := by decide +kernel
theorem dX5_isVowel_21 : decode cX5_isVowel 21 = .ok (.if_icmp .eq 9, 3) := by decide +kernel
theorem dX5_isVowel_24 : decode cX5_isVowel 24 = .ok (.iload_n 0, 1) := by decide +kernel
theorem dX5_isVowel_25 : decode cX5_isVowel 25 = .ok (.bipush 117, 2) := by decide +kernel
theorem dX5_isVowel_27 : decode cX5_isVowel 27 = .ok (.if_icmp .ne 7, 3) := by decide +kernel
theorem dX5_isVowel_30 : decode cX5_isVowel 30 = .ok (.iconst 1, 1) := by decide +kernel
theorem dX5_isVowel_31 : decode cX5_isVowel 31 = .ok (.goto 4, 3) := by decide +kernel
theorem dX5_isVowel_34 : decode cX5_isVowel 34 = .ok (.iconst 0, 1) := by decide +kernel
theorem dX5_isVowel_35 : decode cX5_isVowel 35 = .ok (.ireturn, 1) := by decide +kernel
theorem dX5_at_0 : decode cX5_at 0 = .ok (.iload_n 1, 1) := by decide +kernel
theorem dX5_at_1 : decode cX5_at 1 = .ok (.ifCond .lt 24, 3) := by decide +kernel
theorem dX5_at_4 : decode cX5_at 4 = .ok (.iload_n 1, 1) := by decide +kernel
theorem dX5_at_5 : decode cX5_at 5 = .ok (.aload_n 0, 1) := by decide +kernel
theorem dX5_at_6 : decode cX5_at 6 = .ok (.getfield 21, 3) := by decide +kernel
theorem dX5_at_9 : decode cX5_at 9 = .ok (.if_icmp .ge 16, 3) := by decide +kernel
theorem dX5_at_12 : decode cX5_at 12 = .ok (.aload_n 0, 1) := by decide +kernel
theorem dX5_at_13 : decode cX5_at 13 = .ok (.getfield 15, 3) := by decide +kernel
theorem dX5_at_16 : decode cX5_at 16 = .ok (.iload_n 1, 1) := by decide +kernel
theorem dX5_at_17 : decode cX5_at 17 = .ok (.baload, 1) := by decide +kernel
theorem dX5_at_18 : decode cX5_at 18 = .ok (.sipush 255, 3) := by decide +kernel
theorem dX5_at_21 : decode cX5_at 21 = .ok (.iand, 1) := by decide +kernel
theorem dX5_at_22 : decode cX5_at 22 = .ok (.goto 4, 3) := by decide +kernel
theorem dX5_at_25 : decode cX5_at 25 = .ok (.iconst (-1), 1) := by decide +kernel
theorem dX5_at_26 : decode cX5_at 26 = .ok (.ireturn, 1) := by decide +kernel
theorem dX5_clear_0 : decode cX5_clear 0 = .ok (.aload_n 0, 1) := by decide +kernel
theorem dX5_clear_1 : decode cX5_clear 1 = .ok (.iconst 0, 1) := by decide +kernel
theorem dX5_clear_2 : decode cX5_clear 2 = .ok (.putfield 21, 3) := by decide +kernel
theorem dX5_clear_5 : decode cX5_clear 5 = .ok (.return_, 1) := by decide +kernel
theorem dX5_add_0 : decode cX5_add 0 = .ok (.aload_n 0, 1) := by decide +kernel
theorem dX5_add_1 : decode cX5_add 1 = .ok (.getfield 21, 3) := by decide +kernel
theorem dX5_add_4 : decode cX5_add 4 = .ok (.aload_n 0, 1) := by decide +kernel
theorem dX5_add_5 : decode cX5_add 5 = .ok (.getfield 15, 3) := by decide +kernel
theorem dX5_add_8 : decode cX5_add 8 = .ok (.arraylength, 1) := by decide +kernel
theorem dX5_add_9 : decode cX5_add 9 = .ok (.if_icmp .ge 24, 3) := by decide +kernel
theorem dX5_add_12 : decode cX5_add 12 = .ok (.aload_n 0, 1) := by decide +kernel
theorem dX5_add_13 : decode cX5_add 13 = .ok (.getfield 15, 3) := by decide +kernel
theorem dX5_add_16 : decode cX5_add 16 = .ok (.aload_n 0, 1) := by decide +kernel
theorem dX5_add_17 : decode cX5_add 17 = .ok (.getfield 21, 3) := by decide +kernel
theorem dX5_add_20 : decode cX5_add 20 = .ok (.iload_n 1, 1) := by decide +kernel
theorem dX5_add_21 : decode cX5_add 21 = .ok (.i2b, 1) := by decide +kernel
theorem dX5_add_22 : decode cX5_add 22 = .ok (.bastore, 1) := by decide +kernel
theorem dX5_add_23 : decode cX5_add 23 = .ok (.aload_n 0, 1) := by decide +kernel
theorem dX5_add_24 : decode cX5_add 24 = .ok (.dup, 1) := by decide +kernel
theorem dX5_add_25 : decode cX5_add 25 = .ok (.getfield 21, 3) := by decide +kernel
theorem dX5_add_28 : decode cX5_add 28 = .ok (.iconst 1, 1) := by decide +kernel
theorem dX5_add_29 : decode cX5_add 29 = .ok (.iadd, 1) := by decide +kernel
theorem dX5_add_30 : decode cX5_add 30 = .ok (.putfield 21, 3) := by decide +kernel
theorem dX5_add_33 : decode cX5_add 33 = .ok (.return_, 1) := by decide +kernel
theorem dX5_become_0 : decode cX5_become 0 = .ok (.aload_n 0, 1) := by decide +kernel
theorem dX5_become_1 : decode cX5_become 1 = .ok (.aload_n 1, 1) := by decide +kernel
theorem dX5_become_2 : decode cX5_become 2 = .ok (.getfield 21, 3) := by decide +kernel
theorem dX5_become_5 : decode cX5_become 5 = .ok (.aload_n 0, 1) := by decide +kernel
theorem dX5_become_6 : decode cX5_become 6 = .ok (.getfield 15, 3) := by decide +kernel
theorem dX5_become_9 : decode cX5_become 9 = .ok (.arraylength, 1) := by decide +kernel
theorem dX5_become_10 : decode cX5_become 10 = .ok (.invokestatic 25, 3) := by decide +kernel
theorem dX5_become_13 : decode cX5_become 13 = .ok (.putfield 21, 3) := by decide +kernel
theorem dX5_become_16 : decode cX5_become 16 = .ok (.aload_n 1, 1) := by decide +kernel
theorem dX5_become_17 : decode cX5_become 17 = .ok (.getfield 15, 3) := by decide +kernel
theorem dX5_become_20 : decode cX5_become 20 = .ok (.iconst 0, 1) := by decide +kernel
theorem dX5_become_21 : decode cX5_become 21 = .ok (.aload_n 0, 1) := by decide +kernel
theorem dX5_become_22 : decode cX5_become 22 = .ok (.getfield 15, 3) := by decide +kernel
theorem dX5_become_25 : decode cX5_become 25 = .ok (.iconst 0, 1) := by decide +kernel
theorem dX5_become_26 : decode cX5_become 26 = .ok (.aload_n 0, 1) := by decide +kernel
theorem dX5_become_27 : decode cX5_become 27 = .ok (.getfield 21, 3) := by decide +kernel
theorem dX5_become_30 : decode cX5_become 30 = .ok (.invokestatic 28, 3) := by decide +kernel
theorem dX5_become_33 : decode cX5_become 33 = .ok (.return_, 1) := by decide +kernel
theorem dX5_join_0 : decode cX5_join 0 = .ok (.aload_n 0, 1) := by decide +kernel
theorem dX5_join_1 : decode cX5_join 1 = .ok (.aload_n 0, 1) := by decide +kernel
theorem dX5_join_2 : decode cX5_join 2 = .ok (.getfield 21, 3) := by decide +kernel
theorem dX5_join_5 : decode cX5_join 5 = .ok (.iconst 1, 1) := by decide +kernel
theorem dX5_join_6 : decode cX5_join 6 = .ok (.isub, 1) := by decide +kernel
theorem dX5_join_7 : decode cX5_join 7 = .ok (.invokevirtual 34, 3) := by decide +kernel
theorem dX5_join_10 : decode cX5_join 10 = .ok (.invokestatic 38, 3) := by decide +kernel
theorem dX5_join_13 : decode cX5_join 13 = .ok (.ifCond .eq 24, 3) := by decide +kernel
theorem dX5_join_16 : decode cX5_join 16 = .ok (.aload_n 1, 1) := by decide +kernel
theorem dX5_join_17 : decode cX5_join 17 = .ok (.iconst 0, 1) := by decide +kernel
theorem dX5_join_18 : decode cX5_join 18 = .ok (.invokevirtual 34, 3) := by decide +kernel
theorem dX5_join_21 : decode cX5_join 21 = .ok (.invokestatic 38, 3) := by decide +kernel
theorem dX5_join_24 : decode cX5_join 24 = .ok (.ifCond .eq 13, 3) := by decide +kernel
theorem dX5_join_27 : decode cX5_join 27 = .ok (.aload_n 0, 1) := by decide +kernel
theorem dX5_join_28 : decode cX5_join 28 = .ok (.dup, 1) := by decide +kernel
theorem dX5_join_29 : decode cX5_join 29 = .ok (.getfield 21, 3) := by decide +kernel
theorem dX5_join_32 : decode cX5_join 32 = .ok (.iconst 1, 1) := by decide +kernel
theorem dX5_join_33 : decode cX5_join 33 = .ok (.isub, 1) := by decide +kernel
theorem dX5_join_34 : decode cX5_join 34 = .ok (.putfield 21, 3) := by decide +kernel
theorem dX5_join_37 : decode cX5_join 37 = .ok (.iconst 0, 1) := by decide +kernel
theorem dX5_join_38 : decode cX5_join 38 = .ok (.istore_n 2, 1) := by decide +kernel
theorem dX5_join_39 : decode cX5_join 39 = .ok (.iload_n 2, 1) := by decide +kernel
theorem dX5_join_40 : decode cX5_join 40 = .ok (.aload_n 1, 1) := by decide +kernel
theorem dX5_join_41 : decode cX5_join 41 = .ok (.getfield 21, 3) := by decide +kernel
theorem dX5_join_44 : decode cX5_join 44 = .ok (.if_icmp .ge 18, 3) := by decide +kernel
theorem dX5_join_47 : decode cX5_join 47 = .ok (.aload_n 0, 1) := by decide +kernel
theorem dX5_join_48 : decode cX5_join 48 = .ok (.aload_n 1, 1) := by decide +kernel
theorem dX5_join_49 : decode cX5_join 49 = .ok (.iload_n 2, 1) := by decide +kernel
theorem dX5_join_50 : decode cX5_join 50 = .ok (.invokevirtual 34, 3) := by decide +kernel
theorem dX5_join_53 : decode cX5_join 53 = .ok (.invokevirtual 42, 3) := by decide +kernel
theorem dX5_join_56 : decode cX5_join 56 = .ok (.iinc 2 1, 3) := by decide +kernel
theorem dX5_join_59 : decode cX5_join 59 = .ok (.goto (-20), 3) := by decide +kernel
theorem dX5_join_62 : decode cX5_join 62 = .ok (.return_, 1) := by decide +kernel
theorem dX5_isAllLetters_0 : decode cX5_isAllLetters 0 = .ok (.iconst 0, 1) := by decide +kernel
theorem dX5_isAllLetters_1 : decode cX5_isAllLetters 1 = .ok (.istore_n 1, 1) := by decide +kernel
theorem dX5_isAllLetters_2 : decode cX5_isAllLetters 2 = .ok (.iload_n 1, 1) := by decide +kernel
theorem dX5_isAllLetters_3 : decode cX5_isAllLetters 3 = .ok (.aload_n 0, 1) := by decide +kernel
theorem dX5_isAllLetters_4 : decode cX5_isAllLetters 4 = .ok (.getfield 21, 3) := by decide +kernel
theorem dX5_isAllLetters_7 : decode cX5_isAllLetters 7 = .ok (.if_icmp .ge 22, 3) := by decide +kernel
theorem dX5_isAllLetters_10 : decode cX5_isAllLetters 10 = .ok (.aload_n 0, 1) := by decide +kernel
theorem dX5_isAllLetters_11 : decode cX5_isAllLetters 11 = .ok (.iload_n 1, 1) := by decide +kernel
theorem dX5_isAllLetters_12 : decode cX5_isAllLetters 12 = .ok (.invokevirtual 34, 3) := by decide +kernel
theorem dX5_isAllLetters_15 : decode cX5_isAllLetters 15 = .ok (.invokestatic 46, 3) := by decide +kernel
theorem dX5_isAllLetters_18 : decode cX5_isAllLetters 18 = .ok (.ifCond .ne 5, 3) := by decide +kernel
theorem dX5_isAllLetters_21 : decode cX5_isAllLetters 21 = .ok (.iconst 0, 1) := by decide +kernel
theorem dX5_isAllLetters_22 : decode cX5_isAllLetters 22 = .ok (.ireturn, 1) := by decide +kernel
theorem dX5_isAllLetters_23 : decode cX5_isAllLetters 23 = .ok (.iinc 1 1, 3) := by decide +kernel
theorem dX5_isAllLetters_26 : decode cX5_isAllLetters 26 = .ok (.goto (-24), 3) := by decide +kernel
theorem dX5_isAllLetters_29 : decode cX5_isAllLetters 29 = .ok (.iconst 1, 1) := by decide +kernel
theorem dX5_isAllLetters_30 : decode cX5_isAllLetters 30 = .ok (.ireturn, 1) := by decide +kernel
theorem dX5_isAllWords_0 : decode cX5_isAllWords 0 = .ok (.iconst 0, 1) := by decide +kernel
theorem dX5_isAllWords_1 : decode cX5_isAllWords 1 = .ok (.istore_n 1, 1) := by decide +kernel
theorem dX5_isAllWords_2 : decode cX5_isAllWords 2 = .ok (.iload_n 1, 1) := by decide +kernel
theorem dX5_isAllWords_3 : decode cX5_isAllWords 3 = .ok (.aload_n 0, 1) := by decide +kernel
theorem dX5_isAllWords_4 : decode cX5_isAllWords 4 = .ok (.getfield 21, 3) := by decide +kernel
theorem dX5_isAllWords_7 : decode cX5_isAllWords 7 = .ok (.if_icmp .ge 55, 3) := by decide +kernel
theorem dX5_isAllWords_10 : decode cX5_isAllWords 10 = .ok (.aload_n 0, 1) := by decide +kernel
theorem dX5_isAllWords_11 : decode cX5_isAllWords 11 = .ok (.iload_n 1, 1) := by decide +kernel
theorem dX5_isAllWords_12 : decode cX5_isAllWords 12 = .ok (.invokevirtual 34, 3) := by decide +kernel
theorem dX5_isAllWords_15 : decode cX5_isAllWords 15 = .ok (.bipush 32, 2) := by decide +kernel
theorem dX5_isAllWords_17 : decode cX5_isAllWords 17 = .ok (.if_icmp .ne 20, 3) := by decide +kernel
theorem dX5_isAllWords_20 : decode cX5_isAllWords 20 = .ok (.aload_n 0, 1) := by decide +kernel
theorem dX5_isAllWords_21 : decode cX5_isAllWords 21 = .ok (.iload_n 1, 1) := by decide +kernel
theorem dX5_isAllWords_22 : decode cX5_isAllWords 22 = .ok (.iconst 1, 1) := by decide +kernel
theorem dX5_isAllWords_23 : decode cX5_isAllWords 23 = .ok (.isub, 1) := by decide +kernel
theorem dX5_isAllWords_24 : decode cX5_isAllWords 24 = .ok (.invokevirtual 34, 3) := by decide +kernel
theorem dX5_isAllWords_27 : decode cX5_isAllWords 27 = .ok (.invokestatic 46, 3) := by decide +kernel
theorem dX5_isAllWords_30 : decode cX5_isAllWords 30 = .ok (.ifCond .eq 7, 3) := by decide +kernel
theorem dX5_isAllWords_33 : decode cX5_isAllWords 33 = .ok (.iconst 1, 1) := by decide +kernel
theorem dX5_isAllWords_34 : decode cX5_isAllWords 34 = .ok (.goto 4, 3) := by decide +kernel
theorem dX5_isAllWords_37 : decode cX5_isAllWords 37 = .ok (.iconst 0, 1) := by decide +kernel
theorem dX5_isAllWords_38 : decode cX5_isAllWords 38 = .ok (.istore_n 2, 1) := by decide +kernel
theorem dX5_isAllWords_39 : decode cX5_isAllWords 39 = .ok (.aload_n 0, 1) := by decide +kernel
theorem dX5_isAllWords_40 : decode cX5_isAllWords 40 = .ok (.iload_n 1, 1) := by decide +kernel
theorem dX5_isAllWords_41 : decode cX5_isAllWords 41 = .ok (.invokevirtual 34, 3) := by decide +kernel
theorem dX5_isAllWords_44 : decode cX5_isAllWords 44 = .ok (.invokestatic 46, 3) := by decide +kernel
theorem dX5_isAllWords_47 : decode cX5_isAllWords 47 = .ok (.ifCond .ne 9, 3) := by decide +kernel
theorem dX5_isAllWords_50 : decode cX5_isAllWords 50 = .ok (.iload_n 2, 1) := by decide +kernel
theorem dX5_isAllWords_51 : decode cX5_isAllWords 51 = .ok (.ifCond .ne 5, 3) := by decide +kernel
theorem dX5_isAllWords_54 : decode cX5_isAllWords 54 = .ok (.iconst 0, 1) := by decide +kernel
theorem dX5_isAllWords_55 : decode cX5_isAllWords 55 = .ok (.ireturn, 1) := by decide +kernel
theorem dX5_isAllWords_56 : decode cX5_isAllWords 56 = .ok (.iinc 1 1, 3) := by decide +kernel
theorem dX5_isAllWords_59 : decode cX5_isAllWords 59 = .ok (.goto (-57), 3) := by decide +kernel
theorem dX5_isAllWords_62 : decode cX5_isAllWords 62 = .ok (.aload_n 0, 1) := by decide +kernel
theorem dX5_isAllWords_63 : decode cX5_isAllWords 63 = .ok (.aload_n 0, 1) := by decide +kernel
theorem dX5_isAllWords_64 : decode cX5_isAllWords 64 = .ok (.getfield 21, 3) := by decide +kernel
theorem dX5_isAllWords_67 : decode cX5_isAllWords 67 = .ok (.iconst 1, 1) := by decide +kernel
theorem dX5_isAllWords_68 : decode cX5_isAllWords 68 = .ok (.isub, 1) := by decide +kernel
theorem dX5_isAllWords_69 : decode cX5_isAllWords 69 = .ok (.invokevirtual 34, 3) := by decide +kernel
theorem dX5_isAllWords_72 : decode cX5_isAllWords 72 = .ok (.invokestatic 46, 3) := by decide +kernel
theorem dX5_isAllWords_75 : decode cX5_isAllWords 75 = .ok (.ireturn, 1) := by decide +kernel
theorem dX5_words_0 : decode cX5_words 0 = .ok (.aload_n 0, 1) := by decide +kernel
theorem dX5_words_1 : decode cX5_words 1 = .ok (.getfield 21, 3) := by decide +kernel
theorem dX5_words_4 : decode cX5_words 4 = .ok (.ifCond .ne 7, 3) := by decide +kernel
theorem dX5_words_7 : decode cX5_words 7 = .ok (.iconst 0, 1) := by decide +kernel
theorem dX5_words_8 : decode cX5_words 8 = .ok (.goto 4, 3) := by decide +kernel
theorem dX5_words_11 : decode cX5_words 11 = .ok (.iconst 1, 1) := by decide +kernel
theorem dX5_words_12 : decode cX5_words 12 = .ok (.istore_n 1, 1) := by decide +kernel
theorem dX5_words_13 : decode cX5_words 13 = .ok (.iconst 0, 1) := by decide +kernel
theorem dX5_words_14 : decode cX5_words 14 = .ok (.istore_n 2, 1) := by decide +kernel
theorem dX5_words_15 : decode cX5_words 15 = .ok (.iload_n 2, 1) := by decide +kernel
theorem dX5_words_16 : decode cX5_words 16 = .ok (.aload_n 0, 1) := by decide +kernel
theorem dX5_words_17 : decode cX5_words 17 = .ok (.getfield 21, 3) := by decide +kernel
theorem dX5_words_20 : decode cX5_words 20 = .ok (.if_icmp .ge 27, 3) := by decide +kernel
theorem dX5_words_23 : decode cX5_words 23 = .ok (.iload_n 1, 1) := by decide +kernel
theorem dX5_words_24 : decode cX5_words 24 = .ok (.aload_n 0, 1) := by decide +kernel
theorem dX5_words_25 : decode cX5_words 25 = .ok (.iload_n 2, 1) := by decide +kernel
theorem dX5_words_26 : decode cX5_words 26 = .ok (.invokevirtual 34, 3) := by decide +kernel
theorem dX5_words_29 : decode cX5_words 29 = .ok (.bipush 32, 2) := by decide +kernel
theorem dX5_words_31 : decode cX5_words 31 = .ok (.if_icmp .ne 7, 3) := by decide +kernel
theorem dX5_words_34 : decode cX5_words 34 = .ok (.iconst 1, 1) := by decide +kernel
theorem dX5_words_35 : decode cX5_words 35 = .ok (.goto 4, 3) := by decide +kernel
theorem dX5_words_38 : decode cX5_words 38 = .ok (.iconst 0, 1) := by decide +kernel
theorem dX5_words_39 : decode cX5_words 39 = .ok (.iadd, 1) := by decide +kernel
theorem dX5_words_40 : decode cX5_words 40 = .ok (.istore_n 1, 1) := by decide +kernel
theorem dX5_words_41 : decode cX5_words 41 = .ok (.iinc 2 1, 3) := by decide +kernel
theorem dX5_words_44 : decode cX5_words 44 = .ok (.goto (-29), 3) := by decide +kernel
theorem dX5_words_47 : decode cX5_words 47 = .ok (.iload_n 1, 1) := by decide +kernel
theorem dX5_words_48 : decode cX5_words 48 = .ok (.ireturn, 1) := by decide +kernel
theorem dX6_init_0 : decode cX6_init 0 = .ok (.aload_n 0, 1) := by decide +kernel
theorem dX6_init_1 : decode cX6_init 1 = .ok (.invokespecial 3, 3) := by decide +kernel
theorem dX6_init_4 : decode cX6_init 4 = .ok (.aload_n 0, 1) := by decide +kernel
theorem dX6_init_5 : decode cX6_init 5 = .ok (.new 9, 3) := by decide +kernel
theorem dX6_init_8 : decode cX6_init 8 = .ok (.dup, 1) := by decide +kernel
theorem dX6_init_9 : decode cX6_init 9 = .ok (.bipush 10, 2) := by decide +kernel
theorem dX6_init_11 : decode cX6_init 11 = .ok (.invokespecial 11, 3) := by decide +kernel
theorem dX6_init_14 : decode cX6_init 14 = .ok (.putfield 14, 3) := by decide +kernel
theorem dX6_init_17 : decode cX6_init 17 = .ok (.aload_n 0, 1) := by decide +kernel
theorem dX6_init_18 : decode cX6_init 18 = .ok (.bipush 6, 2) := by decide +kernel
theorem dX6_init_20 : decode cX6_init 20 = .ok (.newarray .int, 2) := by decide +kernel
theorem dX6_init_22 : decode cX6_init 22 = .ok (.putfield 20, 3) := by decide +kernel
theorem dX6_init_25 : decode cX6_init 25 = .ok (.aload_n 0, 1) := by decide +kernel
theorem dX6_init_26 : decode cX6_init 26 = .ok (.bipush 6, 2) := by decide +kernel
theorem dX6_init_28 : decode cX6_init 28 = .ok (.newarray .int, 2) := by decide +kernel
theorem dX6_init_30 : decode cX6_init 30 = .ok (.putfield 24, 3) := by decide +kernel
theorem dX6_init_33 : decode cX6_init 33 = .ok (.aload_n 0, 1) := by decide +kernel
theorem dX6_init_34 : decode cX6_init 34 = .ok (.bipush 11, 2) := by decide +kernel
theorem dX6_init_36 : decode cX6_init 36 = .ok (.newarray .int, 2) := by decide +kernel
theorem dX6_init_38 : decode cX6_init 38 = .ok (.putfield 27, 3) := by decide +kernel
theorem dX6_init_41 : decode cX6_init 41 = .ok (.return_, 1) := by decide +kernel
theorem dX6_countReadings_0 : decode cX6_countReadings 0 = .ok (.aload_n 0, 1) := by decide +kernel
theorem dX6_countReadings_1 : decode cX6_countReadings 1 = .ok (.aload_n 2, 1) := by decide +kernel
theorem dX6_countReadings_2 : decode cX6_countReadings 2 = .ok (.invokevirtual 30, 3) := by decide +kernel
theorem dX6_countReadings_5 : decode cX6_countReadings 5 = .ok (.aload_n 0, 1) := by decide +kernel
theorem dX6_countReadings_6 : decode cX6_countReadings 6 = .ok (.iconst 0, 1) := by decide +kernel
theorem dX6_countReadings_7 : decode cX6_countReadings 7 = .ok (.putfield 34, 3) := by decide +kernel
theorem dX6_countReadings_10 : decode cX6_countReadings 10 = .ok (.aload_n 0, 1) := by decide +kernel
theorem dX6_countReadings_11 : decode cX6_countReadings 11 = .ok (.iconst (-1), 1) := by decide +kernel
theorem dX6_countReadings_12 : decode cX6_countReadings 12 = .ok (.putfield 38, 3) := by decide +kernel
theorem dX6_countReadings_15 : decode cX6_countReadings 15 = .ok (.aload_n 0, 1) := by decide +kernel
theorem dX6_countReadings_16 : decode cX6_countReadings 16 = .ok (.iconst (-1), 1) := by decide +kernel
theorem dX6_countReadings_17 : decode cX6_countReadings 17 = .ok (.putfield 41, 3) := by decide +kernel
theorem dX6_countReadings_20 : decode cX6_countReadings 20 = .ok (.iconst 0, 1) := by decide +kernel
theorem dX6_countReadings_21 : decode cX6_countReadings 21 = .ok (.istore_n 3, 1) := by decide +kernel
theorem dX6_countReadings_22 : decode cX6_countReadings 22 = .ok (.iload_n 3, 1) := by decide +kernel
theorem dX6_countReadings_23 : decode cX6_countReadings 23 = .ok (.aload_n 1, 1) := by decide +kernel
theorem dX6_countReadings_24 : decode cX6_countReadings 24 = .ok (.getfield 44, 3) := by decide +kernel
theorem dX6_countReadings_27 : decode cX6_countReadings 27 = .ok (.iconst 4, 1) := by decide +kernel
theorem dX6_countReadings_28 : decode cX6_countReadings 28 = .ok (.imul, 1) := by decide +kernel
theorem dX6_countReadings_29 : decode cX6_countReadings 29 = .ok (.if_icmp .ge 85, 3) := by decide +kernel
theorem dX6_countReadings_32 : decode cX6_countReadings 32 = .ok (.aload_n 1, 1) := by decide +kernel
theorem dX6_countReadings_33 : decode cX6_countReadings 33 = .ok (.iload_n 3, 1) := by decide +kernel
theorem dX6_countReadings_34 : decode cX6_countReadings 34 = .ok (.iconst 4, 1) := by decide +kernel
theorem dX6_countReadings_35 : decode cX6_countReadings 35 = .ok (.idiv, 1) := by decide +kernel
theorem dX6_countReadings_36 : decode cX6_countReadings 36 = .ok (.invokevirtual 49, 3) := by decide +kernel
theorem dX6_countReadings_39 : decode cX6_countReadings 39 = .ok (.astore 4, 2) := by decide +kernel
theorem dX6_countReadings_41 : decode cX6_countReadings 41 = .ok (.aload 4, 2) := by decide +kernel
theorem dX6_countReadings_43 : decode cX6_countReadings 43 = .ok (.ifnull 65, 3) := by decide +kernel
theorem dX6_countReadings_46 : decode cX6_countReadings 46 = .ok (.aload 4, 2) := by decide +kernel
theorem dX6_countReadings_48 : decode cX6_countReadings 48 = .ok (.getfield 53, 3) := by decide +kernel
theorem dX6_countReadings_51 : decode cX6_countReadings 51 = .ok (.aload_n 0, 1) := by decide +kernel
theorem dX6_countReadings_52 : decode cX6_countReadings 52 = .ok (.getfield 58, 3) := by decide +kernel
theorem dX6_countReadings_55 : decode cX6_countReadings 55 = .ok (.if_icmp .ne 53, 3) := by decide +kernel
theorem dX6_countReadings_58 : decode cX6_countReadings 58 = .ok (.aload_n 0, 1) := by decide +kernel
theorem dX6_countReadings_59 : decode cX6_countReadings 59 = .ok (.aload_n 1, 1) := by decide +kernel
theorem dX6_countReadings_60 : decode cX6_countReadings 60 = .ok (.aload_n 2, 1) := by decide +kernel
theorem dX6_countReadings_61 : decode cX6_countReadings 61 = .ok (.aload 4, 2) := by decide +kernel
theorem dX6_countReadings_63 : decode cX6_countReadings 63 = .ok (.iload_n 3, 1) := by decide +kernel
theorem dX6_countReadings_64 : decode cX6_countReadings 64 = .ok (.iconst 4, 1) := by decide +kernel
theorem dX6_countReadings_65 : decode cX6_countReadings 65 = .ok (.irem, 1) := by decide +kernel
theorem dX6_countReadings_66 : decode cX6_countReadings 66 = .ok (.invokevirtual 61, 3) := by decide +kernel
theorem dX6_countReadings_69 : decode cX6_countReadings 69 = .ok (.istore 5, 2) := by decide +kernel
theorem dX6_countReadings_71 : decode cX6_countReadings 71 = .ok (.iload 5, 2) := by decide +kernel
theorem dX6_countReadings_73 : decode cX6_countReadings 73 = .ok (.ifCond .le 24, 3) := by decide +kernel
theorem dX6_countReadings_76 : decode cX6_countReadings 76 = .ok (.aload_n 0, 1) := by decide +kernel
theorem dX6_countReadings_77 : decode cX6_countReadings 77 = .ok (.getfield 34, 3) := by decide +kernel
theorem dX6_countReadings_80 : decode cX6_countReadings 80 = .ok (.ifCond .ne 17, 3) := by decide +kernel
theorem dX6_countReadings_83 : decode cX6_countReadings 83 = .ok (.aload_n 0, 1) := by decide +kernel
theorem dX6_countReadings_84 : decode cX6_countReadings 84 = .ok (.iload_n 3, 1) := by decide +kernel
theorem dX6_countReadings_85 : decode cX6_countReadings 85 = .ok (.iconst 4, 1) := by decide +kernel
theorem dX6_countReadings_86 : decode cX6_countReadings 86 = .ok (.idiv, 1) := by decide +kernel
theorem dX6_countReadings_87 : decode cX6_countReadings 87 = .ok (.putfield 38, 3) := by decide +kernel
theorem dX6_countReadings_90 : decode cX6_countReadings 90 = .ok (.aload_n 0, 1) := by decide +kernel
theorem dX6_countReadings_91 : decode cX6_countReadings 91 = .ok (.iload_n 3, 1) := by decide +kernel
theorem dX6_countReadings_92 : decode cX6_countReadings 92 = .ok (.iconst 4, 1) := by decide +kernel
theorem dX6_countReadings_93 : decode cX6_countReadings 93 = .ok (.irem, 1) := by decide +kernel
theorem dX6_countReadings_94 : decode cX6_countReadings 94 = .ok (.putfield 41, 3) := by decide +kernel
theorem dX6_countReadings_97 : decode cX6_countReadings 97 = .ok (.aload_n 0, 1) := by decide +kernel
theorem dX6_countReadings_98 : decode cX6_countReadings 98 = .ok (.dup, 1) := by decide +kernel
theorem dX6_countReadings_99 : decode cX6_countReadings 99 = .ok (.getfield 34, 3) := by decide +kernel
theorem dX6_countReadings_102 : decode cX6_countReadings 102 = .ok (.iload 5, 2) := by decide +kernel
theorem dX6_countReadings_104 : decode cX6_countReadings 104 = .ok (.iadd, 1) := by decide +kernel
theorem dX6_countReadings_105 : decode cX6_countReadings 105 = .ok (.putfield 34, 3) := by decide +kernel
theorem dX6_countReadings_108 : decode cX6_countReadings 108 = .ok (.iinc 3 1, 3) := by decide +kernel
theorem dX6_countReadings_111 : decode cX6_countReadings 111 = .ok (.goto (-89), 3) := by decide +kernel
theorem dX6_countReadings_114 : decode cX6_countReadings 114 = .ok (.return_, 1) := by decide +kernel
theorem dX6_findNearest_0 : decode cX6_findNearest 0 = .ok (.aload_n 0, 1) := by decide +kernel
theorem dX6_findNearest_1 : decode cX6_findNearest 1 = .ok (.aload_n 2, 1) := by decide +kernel
theorem dX6_findNearest_2 : decode cX6_findNearest 2 = .ok (.invokevirtual 30, 3) := by decide +kernel
theorem dX6_findNearest_5 : decode cX6_findNearest 5 = .ok (.aload_n 0, 1) := by decide +kernel
theorem dX6_findNearest_6 : decode cX6_findNearest 6 = .ok (.ldc 65, 2) := by decide +kernel
theorem dX6_findNearest_8 : decode cX6_findNearest 8 = .ok (.putfield 66, 3) := by decide +kernel
theorem dX6_findNearest_11 : decode cX6_findNearest 11 = .ok (.aload_n 0, 1) := by decide +kernel
theorem dX6_findNearest_12 : decode cX6_findNearest 12 = .ok (.iconst (-1), 1) := by decide +kernel
theorem dX6_findNearest_13 : decode cX6_findNearest 13 = .ok (.putfield 69, 3) := by decide +kernel
theorem dX6_findNearest_16 : decode cX6_findNearest 16 = .ok (.iconst 0, 1) := by decide +kernel
theorem dX6_findNearest_17 : decode cX6_findNearest 17 = .ok (.istore_n 3, 1) := by decide +kernel
theorem dX6_findNearest_18 : decode cX6_findNearest 18 = .ok (.iload_n 3, 1) := by decide +kernel
theorem dX6_findNearest_19 : decode cX6_findNearest 19 = .ok (.aload_n 1, 1) := by decide +kernel
theorem dX6_findNearest_20 : decode cX6_findNearest 20 = .ok (.getfield 44, 3) := by decide +kernel
theorem dX6_findNearest_23 : decode cX6_findNearest 23 = .ok (.iconst 4, 1) := by decide +kernel
theorem dX6_findNearest_24 : decode cX6_findNearest 24 = .ok (.imul, 1) := by decide +kernel
theorem dX6_findNearest_25 : decode cX6_findNearest 25 = .ok (.if_icmp .ge 70, 3) := by decide +kernel
theorem dX6_findNearest_28 : decode cX6_findNearest 28 = .ok (.aload_n 1, 1) := by decide +kernel
theorem dX6_findNearest_29 : decode cX6_findNearest 29 = .ok (.iload_n 3, 1) := by decide +kernel
theorem dX6_findNearest_30 : decode cX6_findNearest 30 = .ok (.iconst 4, 1) := by decide +kernel
theorem dX6_findNearest_31 : decode cX6_findNearest 31 = .ok (.idiv, 1) := by decide +kernel
theorem dX6_findNearest_32 : decode cX6_findNearest 32 = .ok (.invokevirtual 49, 3) := by decide +kernel
theorem dX6_findNearest_35 : decode cX6_findNearest 35 = .ok (.astore 4, 2) := by decide +kernel
theorem dX6_findNearest_37 : decode cX6_findNearest 37 = .ok (.aload 4, 2) := by decide +kernel
theorem dX6_findNearest_39 : decode cX6_findNearest 39 = .ok (.ifnull 50, 3) := by decide +kernel
theorem dX6_findNearest_42 : decode cX6_findNearest 42 = .ok (.aload 4, 2) := by decide +kernel
theorem dX6_findNearest_44 : decode cX6_findNearest 44 = .ok (.getfield 53, 3) := by decide +kernel
theorem dX6_findNearest_47 : decode cX6_findNearest 47 = .ok (.aload_n 0, 1) := by decide +kernel
theorem dX6_findNearest_48 : decode cX6_findNearest 48 = .ok (.getfield 58, 3) := by decide +kernel
theorem dX6_findNearest_51 : decode cX6_findNearest 51 = .ok (.if_icmp .ne 38, 3) := by decide +kernel
theorem dX6_findNearest_54 : decode cX6_findNearest 54 = .ok (.aload_n 0, 1) := by decide +kernel
theorem dX6_findNearest_55 : decode cX6_findNearest 55 = .ok (.aload_n 1, 1) := by decide +kernel
theorem dX6_findNearest_56 : decode cX6_findNearest 56 = .ok (.aload_n 2, 1) := by decide +kernel
theorem dX6_findNearest_57 : decode cX6_findNearest 57 = .ok (.aload 4, 2) := by decide +kernel
theorem dX6_findNearest_59 : decode cX6_findNearest 59 = .ok (.iload_n 3, 1) := by decide +kernel
theorem dX6_findNearest_60 : decode cX6_findNearest 60 = .ok (.iconst 4, 1) := by decide +kernel
theorem dX6_findNearest_61 : decode cX6_findNearest 61 = .ok (.irem, 1) := by decide +kernel
theorem dX6_findNearest_62 : decode cX6_findNearest 62 = .ok (.invokevirtual 72, 3) := by decide +kernel
theorem dX6_findNearest_65 : decode cX6_findNearest 65 = .ok (.istore 5, 2) := by decide +kernel
theorem dX6_findNearest_67 : decode cX6_findNearest 67 = .ok (.iload 5, 2) := by decide +kernel
theorem dX6_findNearest_69 : decode cX6_findNearest 69 = .ok (.aload_n 0, 1) := by decide +kernel
theorem dX6_findNearest_70 : decode cX6_findNearest 70 = .ok (.getfield 66, 3) := by decide +kernel
theorem dX6_findNearest_73 : decode cX6_findNearest 73 = .ok (.if_icmp .ge 16, 3) := by decide +kernel
theorem dX6_findNearest_76 : decode cX6_findNearest 76 = .ok (.aload_n 0, 1) := by decide +kernel
theorem dX6_findNearest_77 : decode cX6_findNearest 77 = .ok (.iload 5, 2) := by decide +kernel
theorem dX6_findNearest_79 : decode cX6_findNearest 79 = .ok (.putfield 66, 3) := by decide +kernel
theorem dX6_findNearest_82 : decode cX6_findNearest 82 = .ok (.aload_n 0, 1) := by decide +kernel
theorem dX6_findNearest_83 : decode cX6_findNearest 83 = .ok (.iload_n 3, 1) := by decide +kernel
theorem dX6_findNearest_84 : decode cX6_findNearest 84 = .ok (.iconst 4, 1) := by decide +kernel
theorem dX6_findNearest_85 : decode cX6_findNearest 85 = .ok (.idiv, 1) := by decide +kernel
theorem dX6_findNearest_86 : decode cX6_findNearest 86 = .ok (.putfield 69, 3) := by decide +kernel
theorem dX6_findNearest_89 : decode cX6_findNearest 89 = .ok (.iinc 3 1, 3) := by decide +kernel
theorem dX6_findNearest_92 : decode cX6_findNearest 92 = .ok (.goto (-74), 3) := by decide +kernel
theorem dX6_findNearest_95 : decode cX6_findNearest 95 = .ok (.aload_n 0, 1) := by decide +kernel
theorem dX6_findNearest_96 : decode cX6_findNearest 96 = .ok (.aload_n 0, 1) := by decide +kernel
theorem dX6_findNearest_97 : decode cX6_findNearest 97 = .ok (.getfield 69, 3) := by decide +kernel
theorem dX6_findNearest_100 : decode cX6_findNearest 100 = .ok (.iconst (-1), 1) := by decide +kernel
theorem dX6_findNearest_101 : decode cX6_findNearest 101 = .ok (.if_icmp .ne 7, 3) := by decide +kernel
theorem dX6_findNearest_104 : decode cX6_findNearest 104 = .ok (.iconst (-1), 1) := by decide +kernel
theorem dX6_findNearest_105 : decode cX6_findNearest 105 = .ok (.goto 7, 3) := by decide +kernel
theorem dX6_findNearest_108 : decode cX6_findNearest 108 = .ok (.aload_n 0, 1) := by decide +kernel
theorem dX6_findNearest_109 : decode cX6_findNearest 109 = .ok (.getfield 66, 3) := by decide +kernel
theorem dX6_findNearest_112 : decode cX6_findNearest 112 = .ok (.putfield 66, 3) := by decide +kernel
theorem dX6_findNearest_115 : decode cX6_findNearest 115 = .ok (.return_, 1) := by decide +kernel
theorem dX6_split_0 : decode cX6_split 0 = .ok (.aload_n 0, 1) := by decide +kernel
theorem dX6_split_1 : decode cX6_split 1 = .ok (.iconst 0, 1) := by decide +kernel
theorem dX6_split_2 : decode cX6_split 2 = .ok (.putfield 58, 3) := by decide +kernel
theorem dX6_split_5 : decode cX6_split 5 = .ok (.iconst 0, 1) := by decide +kernel
theorem dX6_split_6 : decode cX6_split 6 = .ok (.istore_n 2, 1) := by decide +kernel
theorem dX6_split_7 : decode cX6_split 7 = .ok (.iconst 0, 1) := by decide +kernel
theorem dX6_split_8 : decode cX6_split 8 = .ok (.istore_n 3, 1) := by decide +kernel
theorem dX6_split_9 : decode cX6_split 9 = .ok (.iload_n 3, 1) := by decide +kernel
theorem dX6_split_10 : decode cX6_split 10 = .ok (.aload_n 1, 1) := by decide +kernel
theorem dX6_split_11 : decode cX6_split 11 = .ok (.getfield 75, 3) := by decide +kernel
theorem dX6_split_14 : decode cX6_split 14 = .ok (.if_icmp .gt 79, 3) := by decide +kernel
theorem dX6_split_17 : decode cX6_split 17 = .ok (.aload_n 1, 1) := by decide +kernel
theorem dX6_split_18 : decode cX6_split 18 = .ok (.getfield 75, 3) := by decide +kernel
theorem dX6_split_21 : decode cX6_split 21 = .ok (.ifCond .le 72, 3) := by decide +kernel
theorem dX6_split_24 : decode cX6_split 24 = .ok (.iload_n 3, 1) := by decide +kernel
theorem dX6_split_25 : decode cX6_split 25 = .ok (.aload_n 1, 1) := by decide +kernel
theorem dX6_split_26 : decode cX6_split 26 = .ok (.getfield 75, 3) := by decide +kernel
theorem dX6_split_29 : decode cX6_split 29 = .ok (.if_icmp .eq 13, 3) := by decide +kernel
theorem dX6_split_32 : decode cX6_split 32 = .ok (.aload_n 1, 1) := by decide +kernel
theorem dX6_split_33 : decode cX6_split 33 = .ok (.iload_n 3, 1) := by decide +kernel
theorem dX6_split_34 : decode cX6_split 34 = .ok (.invokevirtual 76, 3) := by decide +kernel
theorem dX6_split_37 : decode cX6_split 37 = .ok (.bipush 32, 2) := by decide +kernel
theorem dX6_split_39 : decode cX6_split 39 = .ok (.if_icmp .ne 48, 3) := by decide +kernel
theorem dX6_split_42 : decode cX6_split 42 = .ok (.aload_n 0, 1) := by decide +kernel
theorem dX6_split_43 : decode cX6_split 43 = .ok (.getfield 58, 3) := by decide +kernel
theorem dX6_split_46 : decode cX6_split 46 = .ok (.bipush 6, 2) := by decide +kernel
theorem dX6_split_48 : decode cX6_split 48 = .ok (.if_icmp .ge 25, 3) := by decide +kernel
theorem dX6_split_51 : decode cX6_split 51 = .ok (.aload_n 0, 1) := by decide +kernel
theorem dX6_split_52 : decode cX6_split 52 = .ok (.getfield 20, 3) := by decide +kernel
theorem dX6_split_55 : decode cX6_split 55 = .ok (.aload_n 0, 1) := by decide +kernel
theorem dX6_split_56 : decode cX6_split 56 = .ok (.getfield 58, 3) := by decide +kernel
theorem dX6_split_59 : decode cX6_split 59 = .ok (.iload_n 2, 1) := by decide +kernel
theorem dX6_split_60 : decode cX6_split 60 = .ok (.iastore, 1) := by decide +kernel
theorem dX6_split_61 : decode cX6_split 61 = .ok (.aload_n 0, 1) := by decide +kernel
theorem dX6_split_62 : decode cX6_split 62 = .ok (.getfield 24, 3) := by decide +kernel
theorem dX6_split_65 : decode cX6_split 65 = .ok (.aload_n 0, 1) := by decide +kernel
theorem dX6_split_66 : decode cX6_split 66 = .ok (.getfield 58, 3) := by decide +kernel
theorem dX6_split_69 : decode cX6_split 69 = .ok (.iload_n 3, 1) := by decide +kernel
theorem dX6_split_70 : decode cX6_split 70 = .ok (.iload_n 2, 1) := by decide +kernel
theorem dX6_split_71 : decode cX6_split 71 = .ok (.isub, 1) := by decide +kernel
theorem dX6_split_72 : decode cX6_split 72 = .ok (.iastore, 1) := by decide +kernel
theorem dX6_split_73 : decode cX6_split 73 = .ok (.aload_n 0, 1) := by decide +kernel
theorem dX6_split_74 : decode cX6_split 74 = .ok (.dup, 1) := by decide +kernel
theorem dX6_split_75 : decode cX6_split 75 = .ok (.getfield 58, 3) := by decide +kernel
theorem dX6_split_78 : decode cX6_split 78 = .ok (.iconst 1, 1) := by decide +kernel
theorem dX6_split_79 : decode cX6_split 79 = .ok (.iadd, 1) := by decide +kernel
theorem dX6_split_80 : decode cX6_split 80 = .ok (.putfield 58, 3) := by decide +kernel
theorem dX6_split_83 : decode cX6_split 83 = .ok (.iload_n 3, 1) := by decide +kernel
theorem dX6_split_84 : decode cX6_split 84 = .ok (.iconst 1, 1) := by decide +kernel
theorem dX6_split_85 : decode cX6_split 85 = .ok (.iadd, 1) := by decide +kernel
theorem dX6_split_86 : decode cX6_split 86 = .ok (.istore_n 2, 1) := by decide +kernel
theorem dX6_split_87 : decode cX6_split 87 = .ok (.iinc 3 1, 3) := by decide +kernel
theorem dX6_split_90 : decode cX6_split 90 = .ok (.goto (-81), 3) := by decide +kernel
theorem dX6_split_93 : decode cX6_split 93 = .ok (.return_, 1) := by decide +kernel
theorem dX6_waysOfFrame_0 : decode cX6_waysOfFrame 0 = .ok (.iconst 1, 1) := by decide +kernel
theorem dX6_waysOfFrame_1 : decode cX6_waysOfFrame 1 = .ok (.istore 5, 2) := by decide +kernel
theorem dX6_waysOfFrame_3 : decode cX6_waysOfFrame 3 = .ok (.iconst 0, 1) := by decide +kernel
theorem dX6_waysOfFrame_4 : decode cX6_waysOfFrame 4 = .ok (.istore 6, 2) := by decide +kernel
theorem dX6_waysOfFrame_6 : decode cX6_waysOfFrame 6 = .ok (.iload 6, 2) := by decide +kernel
theorem dX6_waysOfFrame_8 : decode cX6_waysOfFrame 8 = .ok (.aload_n 3, 1) := by decide +kernel
theorem dX6_waysOfFrame_9 : decode cX6_waysOfFrame 9 = .ok (.getfield 53, 3) := by decide +kernel
theorem dX6_waysOfFrame_12 : decode cX6_waysOfFrame 12 = .ok (.if_icmp .ge 38, 3) := by decide +kernel
theorem dX6_waysOfFrame_15 : decode cX6_waysOfFrame 15 = .ok (.iload 5, 2) := by decide +kernel
theorem dX6_waysOfFrame_17 : decode cX6_waysOfFrame 17 = .ok (.aload_n 3, 1) := by decide +kernel
theorem dX6_waysOfFrame_18 : decode cX6_waysOfFrame 18 = .ok (.iload 6, 2) := by decide +kernel
theorem dX6_waysOfFrame_20 : decode cX6_waysOfFrame 20 = .ok (.invokevirtual 80, 3) := by decide +kernel
theorem dX6_waysOfFrame_23 : decode cX6_waysOfFrame 23 = .ok (.iconst (-1), 1) := by decide +kernel
theorem dX6_waysOfFrame_24 : decode cX6_waysOfFrame 24 = .ok (.if_icmp .ne 16, 3) := by decide +kernel
theorem dX6_waysOfFrame_27 : decode cX6_waysOfFrame 27 = .ok (.aload_n 0, 1) := by decide +kernel
theorem dX6_waysOfFrame_28 : decode cX6_waysOfFrame 28 = .ok (.aload_n 1, 1) := by decide +kernel
theorem dX6_waysOfFrame_29 : decode cX6_waysOfFrame 29 = .ok (.aload_n 2, 1) := by decide +kernel
theorem dX6_waysOfFrame_30 : decode cX6_waysOfFrame 30 = .ok (.aload_n 3, 1) := by decide +kernel
theorem dX6_waysOfFrame_31 : decode cX6_waysOfFrame 31 = .ok (.iload 6, 2) := by decide +kernel
theorem dX6_waysOfFrame_33 : decode cX6_waysOfFrame 33 = .ok (.iconst 0, 1) := by decide +kernel
theorem dX6_waysOfFrame_34 : decode cX6_waysOfFrame 34 = .ok (.invokevirtual 83, 3) := by decide +kernel
theorem dX6_waysOfFrame_37 : decode cX6_waysOfFrame 37 = .ok (.goto 4, 3) := by decide +kernel
theorem dX6_waysOfFrame_40 : decode cX6_waysOfFrame 40 = .ok (.iconst 1, 1) := by decide +kernel
theorem dX6_waysOfFrame_41 : decode cX6_waysOfFrame 41 = .ok (.imul, 1) := by decide +kernel
theorem dX6_waysOfFrame_42 : decode cX6_waysOfFrame 42 = .ok (.istore 5, 2) := by decide +kernel
theorem dX6_waysOfFrame_44 : decode cX6_waysOfFrame 44 = .ok (.iinc 6 1, 3) := by decide +kernel
theorem dX6_waysOfFrame_47 : decode cX6_waysOfFrame 47 = .ok (.goto (-41), 3) := by decide +kernel
theorem dX6_waysOfFrame_50 : decode cX6_waysOfFrame 50 = .ok (.iconst 0, 1) := by decide +kernel
theorem dX6_waysOfFrame_51 : decode cX6_waysOfFrame 51 = .ok (.istore 6, 2) := by decide +kernel
theorem dX6_waysOfFrame_53 : decode cX6_waysOfFrame 53 = .ok (.iload 6, 2) := by decide +kernel
theorem dX6_waysOfFrame_55 : decode cX6_waysOfFrame 55 = .ok (.iconst 3, 1) := by decide +kernel
theorem dX6_waysOfFrame_56 : decode cX6_waysOfFrame 56 = .ok (.if_icmp .ge 44, 3) := by decide +kernel
theorem dX6_waysOfFrame_59 : decode cX6_waysOfFrame 59 = .ok (.iload 5, 2) := by decide +kernel
theorem dX6_waysOfFrame_61 : decode cX6_waysOfFrame 61 = .ok (.ifCond .le 39, 3) := by decide +kernel
theorem dX6_waysOfFrame_64 : decode cX6_waysOfFrame 64 = .ok (.iload 5, 2) := by decide +kernel
theorem dX6_waysOfFrame_66 : decode cX6_waysOfFrame 66 = .ok (.aload_n 3, 1) := by decide +kernel
theorem dX6_waysOfFrame_67 : decode cX6_waysOfFrame 67 = .ok (.iload 6, 2) := by decide +kernel
theorem dX6_waysOfFrame_69 : decode cX6_waysOfFrame 69 = .ok (.invokevirtual 87, 3) := by decide +kernel
theorem dX6_waysOfFrame_72 : decode cX6_waysOfFrame 72 = .ok (.iconst (-1), 1) := by decide +kernel
theorem dX6_waysOfFrame_73 : decode cX6_waysOfFrame 73 = .ok (.if_icmp .ne 7, 3) := by decide +kernel
theorem dX6_waysOfFrame_76 : decode cX6_waysOfFrame 76 = .ok (.iconst 1, 1) := by decide +kernel
theorem dX6_waysOfFrame_77 : decode cX6_waysOfFrame 77 = .ok (.goto 14, 3) := by decide +kernel
theorem dX6_waysOfFrame_80 : decode cX6_waysOfFrame 80 = .ok (.aload_n 0, 1) := by decide +kernel
theorem dX6_waysOfFrame_81 : decode cX6_waysOfFrame 81 = .ok (.aload_n 1, 1) := by decide +kernel
theorem dX6_waysOfFrame_82 : decode cX6_waysOfFrame 82 = .ok (.aload_n 2, 1) := by decide +kernel
theorem dX6_waysOfFrame_83 : decode cX6_waysOfFrame 83 = .ok (.aload_n 3, 1) := by decide +kernel
theorem dX6_waysOfFrame_84 : decode cX6_waysOfFrame 84 = .ok (.iload 6, 2) := by decide +kernel
theorem dX6_waysOfFrame_86 : decode cX6_waysOfFrame 86 = .ok (.iload 4, 2) := by decide +kernel
theorem dX6_waysOfFrame_88 : decode cX6_waysOfFrame 88 = .ok (.invokevirtual 90, 3) := by decide +kernel
theorem dX6_waysOfFrame_91 : decode cX6_waysOfFrame 91 = .ok (.imul, 1) := by decide +kernel
theorem dX6_waysOfFrame_92 : decode cX6_waysOfFrame 92 = .ok (.istore 5, 2) := by decide +kernel
theorem dX6_waysOfFrame_94 : decode cX6_waysOfFrame 94 = .ok (.iinc 6 1, 3) := by decide +kernel
theorem dX6_waysOfFrame_97 : decode cX6_waysOfFrame 97 = .ok (.goto (-44), 3) := by decide +kernel
theorem dX6_waysOfFrame_100 : decode cX6_waysOfFrame 100 = .ok (.iload 5, 2) := by decide +kernel
theorem dX6_waysOfFrame_102 : decode cX6_waysOfFrame 102 = .ok (.ireturn, 1) := by decide +kernel
theorem dX6_waysOfGroup_0 : decode cX6_waysOfGroup 0 = .ok (.iconst 0, 1) := by decide +kernel
theorem dX6_waysOfGroup_1 : decode cX6_waysOfGroup 1 = .ok (.istore 6, 2) := by decide +kernel
theorem dX6_waysOfGroup_3 : decode cX6_waysOfGroup 3 = .ok (.iload 5, 2) := by decide +kernel
theorem dX6_waysOfGroup_5 : decode cX6_waysOfGroup 5 = .ok (.bipush 24, 2) := by decide +kernel
theorem dX6_waysOfGroup_7 : decode cX6_waysOfGroup 7 = .ok (.imul, 1) := by decide +kernel
theorem dX6_waysOfGroup_8 : decode cX6_waysOfGroup 8 = .ok (.istore 7, 2) := by decide +kernel
theorem dX6_waysOfGroup_10 : decode cX6_waysOfGroup 10 = .ok (.iload 7, 2) := by decide +kernel
theorem dX6_waysOfGroup_12 : decode cX6_waysOfGroup 12 = .ok (.iload 5, 2) := by decide +kernel
theorem dX6_waysOfGroup_14 : decode cX6_waysOfGroup 14 = .ok (.iconst 1, 1) := by decide +kernel
theorem dX6_waysOfGroup_15 : decode cX6_waysOfGroup 15 = .ok (.iadd, 1) := by decide +kernel
theorem dX6_waysOfGroup_16 : decode cX6_waysOfGroup 16 = .ok (.bipush 24, 2) := by decide +kernel
theorem dX6_waysOfGroup_18 : decode cX6_waysOfGroup 18 = .ok (.imul, 1) := by decide +kernel
theorem dX6_waysOfGroup_19 : decode cX6_waysOfGroup 19 = .ok (.if_icmp .ge 73, 3) := by decide +kernel
theorem dX6_waysOfGroup_22 : decode cX6_waysOfGroup 22 = .ok (.iconst 1, 1) := by decide +kernel
theorem dX6_waysOfGroup_23 : decode cX6_waysOfGroup 23 = .ok (.istore 8, 2) := by decide +kernel
theorem dX6_waysOfGroup_25 : decode cX6_waysOfGroup 25 = .ok (.iconst 0, 1) := by decide +kernel
theorem dX6_waysOfGroup_26 : decode cX6_waysOfGroup 26 = .ok (.istore 9, 2) := by decide +kernel
theorem dX6_waysOfGroup_28 : decode cX6_waysOfGroup 28 = .ok (.iload 9, 2) := by decide +kernel
theorem dX6_waysOfGroup_30 : decode cX6_waysOfGroup 30 = .ok (.aload_n 3, 1) := by decide +kernel
theorem dX6_waysOfGroup_31 : decode cX6_waysOfGroup 31 = .ok (.getfield 53, 3) := by decide +kernel
theorem dX6_waysOfGroup_34 : decode cX6_waysOfGroup 34 = .ok (.if_icmp .ge 45, 3) := by decide +kernel
theorem dX6_waysOfGroup_37 : decode cX6_waysOfGroup 37 = .ok (.iload 8, 2) := by decide +kernel
theorem dX6_waysOfGroup_39 : decode cX6_waysOfGroup 39 = .ok (.ifCond .le 40, 3) := by decide +kernel
theorem dX6_waysOfGroup_42 : decode cX6_waysOfGroup 42 = .ok (.iload 8, 2) := by decide +kernel
theorem dX6_waysOfGroup_44 : decode cX6_waysOfGroup 44 = .ok (.aload_n 3, 1) := by decide +kernel
theorem dX6_waysOfGroup_45 : decode cX6_waysOfGroup 45 = .ok (.iload 9, 2) := by decide +kernel
theorem dX6_waysOfGroup_47 : decode cX6_waysOfGroup 47 = .ok (.invokevirtual 80, 3) := by decide +kernel
theorem dX6_waysOfGroup_50 : decode cX6_waysOfGroup 50 = .ok (.iload 4, 2) := by decide +kernel
theorem dX6_waysOfGroup_52 : decode cX6_waysOfGroup 52 = .ok (.if_icmp .ne 17, 3) := by decide +kernel
theorem dX6_waysOfGroup_55 : decode cX6_waysOfGroup 55 = .ok (.aload_n 0, 1) := by decide +kernel
theorem dX6_waysOfGroup_56 : decode cX6_waysOfGroup 56 = .ok (.aload_n 1, 1) := by decide +kernel
theorem dX6_waysOfGroup_57 : decode cX6_waysOfGroup 57 = .ok (.aload_n 2, 1) := by decide +kernel
theorem dX6_waysOfGroup_58 : decode cX6_waysOfGroup 58 = .ok (.aload_n 3, 1) := by decide +kernel
theorem dX6_waysOfGroup_59 : decode cX6_waysOfGroup 59 = .ok (.iload 9, 2) := by decide +kernel
theorem dX6_waysOfGroup_61 : decode cX6_waysOfGroup 61 = .ok (.iload 7, 2) := by decide +kernel
theorem dX6_waysOfGroup_63 : decode cX6_waysOfGroup 63 = .ok (.invokevirtual 83, 3) := by decide +kernel
theorem dX6_waysOfGroup_66 : decode cX6_waysOfGroup 66 = .ok (.goto 4, 3) := by decide +kernel
theorem dX6_waysOfGroup_69 : decode cX6_waysOfGroup 69 = .ok (.iconst 1, 1) := by decide +kernel
theorem dX6_waysOfGroup_70 : decode cX6_waysOfGroup 70 = .ok (.imul, 1) := by decide +kernel
theorem dX6_waysOfGroup_71 : decode cX6_waysOfGroup 71 = .ok (.istore 8, 2) := by decide +kernel
theorem dX6_waysOfGroup_73 : decode cX6_waysOfGroup 73 = .ok (.iinc 9 1, 3) := by decide +kernel
theorem dX6_waysOfGroup_76 : decode cX6_waysOfGroup 76 = .ok (.goto (-48), 3) := by decide +kernel
theorem dX6_waysOfGroup_79 : decode cX6_waysOfGroup 79 = .ok (.iload 6, 2) := by decide +kernel
theorem dX6_waysOfGroup_81 : decode cX6_waysOfGroup 81 = .ok (.iload 8, 2) := by decide +kernel
theorem dX6_waysOfGroup_83 : decode cX6_waysOfGroup 83 = .ok (.iadd, 1) := by decide +kernel
theorem dX6_waysOfGroup_84 : decode cX6_waysOfGroup 84 = .ok (.istore 6, 2) := by decide +kernel
theorem dX6_waysOfGroup_86 : decode cX6_waysOfGroup 86 = .ok (.iinc 7 4, 3) := by decide +kernel
theorem dX6_waysOfGroup_89 : decode cX6_waysOfGroup 89 = .ok (.goto (-79), 3) := by decide +kernel
theorem dX6_waysOfGroup_92 : decode cX6_waysOfGroup 92 = .ok (.iload 6, 2) := by decide +kernel
theorem dX6_waysOfGroup_94 : decode cX6_waysOfGroup 94 = .ok (.ireturn, 1) := by decide +kernel
theorem dX6_waysOfHole_0 : decode cX6_waysOfHole 0 = .ok (.iconst 0, 1) := by decide +kernel
theorem dX6_waysOfHole_1 : decode cX6_waysOfHole 1 = .ok (.istore 6, 2) := by decide +kernel
theorem dX6_waysOfHole_3 : decode cX6_waysOfHole 3 = .ok (.iload 5, 2) := by decide +kernel
theorem dX6_waysOfHole_5 : decode cX6_waysOfHole 5 = .ok (.aload_n 3, 1) := by decide +kernel
theorem dX6_waysOfHole_6 : decode cX6_waysOfHole 6 = .ok (.iload 4, 2) := by decide +kernel
theorem dX6_waysOfHole_8 : decode cX6_waysOfHole 8 = .ok (.invokevirtual 93, 3) := by decide +kernel
theorem dX6_waysOfHole_11 : decode cX6_waysOfHole 11 = .ok (.iconst 0, 1) := by decide +kernel
theorem dX6_waysOfHole_12 : decode cX6_waysOfHole 12 = .ok (.invokestatic 96, 3) := by decide +kernel
theorem dX6_waysOfHole_15 : decode cX6_waysOfHole 15 = .ok (.iadd, 1) := by decide +kernel
theorem dX6_waysOfHole_16 : decode cX6_waysOfHole 16 = .ok (.istore 7, 2) := by decide +kernel
theorem dX6_waysOfHole_18 : decode cX6_waysOfHole 18 = .ok (.iconst 0, 1) := by decide +kernel
theorem dX6_waysOfHole_19 : decode cX6_waysOfHole 19 = .ok (.istore 8, 2) := by decide +kernel
theorem dX6_waysOfHole_21 : decode cX6_waysOfHole 21 = .ok (.iload 8, 2) := by decide +kernel
theorem dX6_waysOfHole_23 : decode cX6_waysOfHole 23 = .ok (.aload_n 1, 1) := by decide +kernel
theorem dX6_waysOfHole_24 : decode cX6_waysOfHole 24 = .ok (.getfield 102, 3) := by decide +kernel
theorem dX6_waysOfHole_27 : decode cX6_waysOfHole 27 = .ok (.if_icmp .ge 67, 3) := by decide +kernel
theorem dX6_waysOfHole_30 : decode cX6_waysOfHole 30 = .ok (.aload_n 1, 1) := by decide +kernel
theorem dX6_waysOfHole_31 : decode cX6_waysOfHole 31 = .ok (.iload 8, 2) := by decide +kernel
theorem dX6_waysOfHole_33 : decode cX6_waysOfHole 33 = .ok (.invokevirtual 105, 3) := by decide +kernel
theorem dX6_waysOfHole_36 : decode cX6_waysOfHole 36 = .ok (.astore 9, 2) := by decide +kernel
theorem dX6_waysOfHole_38 : decode cX6_waysOfHole 38 = .ok (.aload 9, 2) := by decide +kernel
theorem dX6_waysOfHole_40 : decode cX6_waysOfHole 40 = .ok (.ifnull 48, 3) := by decide +kernel
theorem dX6_waysOfHole_43 : decode cX6_waysOfHole 43 = .ok (.aload_n 3, 1) := by decide +kernel
theorem dX6_waysOfHole_44 : decode cX6_waysOfHole 44 = .ok (.iload 4, 2) := by decide +kernel
theorem dX6_waysOfHole_46 : decode cX6_waysOfHole 46 = .ok (.aload 9, 2) := by decide +kernel
theorem dX6_waysOfHole_48 : decode cX6_waysOfHole 48 = .ok (.iload 5, 2) := by decide +kernel
theorem dX6_waysOfHole_50 : decode cX6_waysOfHole 50 = .ok (.invokestatic 109, 3) := by decide +kernel
theorem dX6_waysOfHole_53 : decode cX6_waysOfHole 53 = .ok (.ifCond .eq 35, 3) := by decide +kernel
theorem dX6_waysOfHole_56 : decode cX6_waysOfHole 56 = .ok (.aload_n 1, 1) := by decide +kernel
theorem dX6_waysOfHole_57 : decode cX6_waysOfHole 57 = .ok (.aload 9, 2) := by decide +kernel
theorem dX6_waysOfHole_59 : decode cX6_waysOfHole 59 = .ok (.iload 7, 2) := by decide +kernel
theorem dX6_waysOfHole_61 : decode cX6_waysOfHole 61 = .ok (.aload_n 0, 1) := by decide +kernel
theorem dX6_waysOfHole_62 : decode cX6_waysOfHole 62 = .ok (.getfield 14, 3) := by decide +kernel
theorem dX6_waysOfHole_65 : decode cX6_waysOfHole 65 = .ok (.invokevirtual 113, 3) := by decide +kernel
theorem dX6_waysOfHole_68 : decode cX6_waysOfHole 68 = .ok (.iload 6, 2) := by decide +kernel
theorem dX6_waysOfHole_70 : decode cX6_waysOfHole 70 = .ok (.aload_n 0, 1) := by decide +kernel
theorem dX6_waysOfHole_71 : decode cX6_waysOfHole 71 = .ok (.aload_n 2, 1) := by decide +kernel
theorem dX6_waysOfHole_72 : decode cX6_waysOfHole 72 = .ok (.iload 4, 2) := by decide +kernel
theorem dX6_waysOfHole_74 : decode cX6_waysOfHole 74 = .ok (.invokevirtual 117, 3) := by decide +kernel
theorem dX6_waysOfHole_77 : decode cX6_waysOfHole 77 = .ok (.ifCond .eq 7, 3) := by decide +kernel
theorem dX6_waysOfHole_80 : decode cX6_waysOfHole 80 = .ok (.iconst 1, 1) := by decide +kernel
theorem dX6_waysOfHole_81 : decode cX6_waysOfHole 81 = .ok (.goto 4, 3) := by decide +kernel
theorem dX6_waysOfHole_84 : decode cX6_waysOfHole 84 = .ok (.iconst 0, 1) := by decide +kernel
theorem dX6_waysOfHole_85 : decode cX6_waysOfHole 85 = .ok (.iadd, 1) := by decide +kernel
theorem dX6_waysOfHole_86 : decode cX6_waysOfHole 86 = .ok (.istore 6, 2) := by decide +kernel
theorem dX6_waysOfHole_88 : decode cX6_waysOfHole 88 = .ok (.iinc 8 1, 3) := by decide +kernel
theorem dX6_waysOfHole_91 : decode cX6_waysOfHole 91 = .ok (.goto (-70), 3) := by decide +kernel
theorem dX6_waysOfHole_94 : decode cX6_waysOfHole 94 = .ok (.iload 6, 2) := by decide +kernel
theorem dX6_waysOfHole_96 : decode cX6_waysOfHole 96 = .ok (.ireturn, 1) := by decide +kernel
theorem dX6_farnessOfFrame_0 : decode cX6_farnessOfFrame 0 = .ok (.iconst 0, 1) := by decide +kernel
theorem dX6_farnessOfFrame_1 : decode cX6_farnessOfFrame 1 = .ok (.istore 5, 2) := by decide +kernel
theorem dX6_farnessOfFrame_3 : decode cX6_farnessOfFrame 3 = .ok (.iconst 0, 1) := by decide +kernel
theorem dX6_farnessOfFrame_4 : decode cX6_farnessOfFrame 4 = .ok (.istore 6, 2) := by decide +kernel
theorem dX6_farnessOfFrame_6 : decode cX6_farnessOfFrame 6 = .ok (.iload 6, 2) := by decide +kernel
theorem dX6_farnessOfFrame_8 : decode cX6_farnessOfFrame 8 = .ok (.aload_n 3, 1) := by decide +kernel
theorem dX6_farnessOfFrame_9 : decode cX6_farnessOfFrame 9 = .ok (.getfield 53, 3) := by decide +kernel
theorem dX6_farnessOfFrame_12 : decode cX6_farnessOfFrame 12 = .ok (.if_icmp .ge 38, 3) := by decide +kernel
theorem dX6_farnessOfFrame_15 : decode cX6_farnessOfFrame 15 = .ok (.iload 5, 2) := by decide +kernel
theorem dX6_farnessOfFrame_17 : decode cX6_farnessOfFrame 17 = .ok (.aload_n 3, 1) := by decide +kernel
theorem dX6_farnessOfFrame_18 : decode cX6_farnessOfFrame 18 = .ok (.iload 6, 2) := by decide +kernel
theorem dX6_farnessOfFrame_20 : decode cX6_farnessOfFrame 20 = .ok (.invokevirtual 80, 3) := by decide +kernel
theorem dX6_farnessOfFrame_23 : decode cX6_farnessOfFrame 23 = .ok (.iconst (-1), 1) := by decide +kernel
theorem dX6_farnessOfFrame_24 : decode cX6_farnessOfFrame 24 = .ok (.if_icmp .ne 16, 3) := by decide +kernel
theorem dX6_farnessOfFrame_27 : decode cX6_farnessOfFrame 27 = .ok (.aload_n 0, 1) := by decide +kernel
theorem dX6_farnessOfFrame_28 : decode cX6_farnessOfFrame 28 = .ok (.aload_n 1, 1) := by decide +kernel
theorem dX6_farnessOfFrame_29 : decode cX6_farnessOfFrame 29 = .ok (.aload_n 2, 1) := by decide +kernel
theorem dX6_farnessOfFrame_30 : decode cX6_farnessOfFrame 30 = .ok (.aload_n 3, 1) := by decide +kernel
theorem dX6_farnessOfFrame_31 : decode cX6_farnessOfFrame 31 = .ok (.iload 6, 2) := by decide +kernel
theorem dX6_farnessOfFrame_33 : decode cX6_farnessOfFrame 33 = .ok (.iconst 0, 1) := by decide +kernel
theorem dX6_farnessOfFrame_34 : decode cX6_farnessOfFrame 34 = .ok (.invokevirtual 121, 3) := by decide +kernel
theorem dX6_farnessOfFrame_37 : decode cX6_farnessOfFrame 37 = .ok (.goto 4, 3) := by decide +kernel
theorem dX6_farnessOfFrame_40 : decode cX6_farnessOfFrame 40 = .ok (.iconst 0, 1) := by decide +kernel
theorem dX6_farnessOfFrame_41 : decode cX6_farnessOfFrame 41 = .ok (.iadd, 1) := by decide +kernel
theorem dX6_farnessOfFrame_42 : decode cX6_farnessOfFrame 42 = .ok (.istore 5, 2) := by decide +kernel
theorem dX6_farnessOfFrame_44 : decode cX6_farnessOfFrame 44 = .ok (.iinc 6 1, 3) := by decide +kernel
theorem dX6_farnessOfFrame_47 : decode cX6_farnessOfFrame 47 = .ok (.goto (-41), 3) := by decide +kernel
theorem dX6_farnessOfFrame_50 : decode cX6_farnessOfFrame 50 = .ok (.iconst 0, 1) := by decide +kernel
theorem dX6_farnessOfFrame_51 : decode cX6_farnessOfFrame 51 = .ok (.istore 6, 2) := by decide +kernel
theorem dX6_farnessOfFrame_53 : decode cX6_farnessOfFrame 53 = .ok (.iload 6, 2) := by decide +kernel
theorem dX6_farnessOfFrame_55 : decode cX6_farnessOfFrame 55 = .ok (.iconst 3, 1) := by decide +kernel
theorem dX6_farnessOfFrame_56 : decode cX6_farnessOfFrame 56 = .ok (.if_icmp .ge 39, 3) := by decide +kernel
theorem dX6_farnessOfFrame_59 : decode cX6_farnessOfFrame 59 = .ok (.iload 5, 2) := by decide +kernel
theorem dX6_farnessOfFrame_61 : decode cX6_farnessOfFrame 61 = .ok (.aload_n 3, 1) := by decide +kernel
theorem dX6_farnessOfFrame_62 : decode cX6_farnessOfFrame 62 = .ok (.iload 6, 2) := by decide +kernel
theorem dX6_farnessOfFrame_64 : decode cX6_farnessOfFrame 64 = .ok (.invokevirtual 87, 3) := by decide +kernel
theorem dX6_farnessOfFrame_67 : decode cX6_farnessOfFrame 67 = .ok (.iconst (-1), 1) := by decide +kernel
theorem dX6_farnessOfFrame_68 : decode cX6_farnessOfFrame 68 = .ok (.if_icmp .ne 7, 3) := by decide +kernel
theorem dX6_farnessOfFrame_71 : decode cX6_farnessOfFrame 71 = .ok (.iconst 0, 1) := by decide +kernel
theorem dX6_farnessOfFrame_72 : decode cX6_farnessOfFrame 72 = .ok (.goto 14, 3) := by decide +kernel
theorem dX6_farnessOfFrame_75 : decode cX6_farnessOfFrame 75 = .ok (.aload_n 0, 1) := by decide +kernel
theorem dX6_farnessOfFrame_76 : decode cX6_farnessOfFrame 76 = .ok (.aload_n 1, 1) := by decide +kernel
theorem dX6_farnessOfFrame_77 : decode cX6_farnessOfFrame 77 = .ok (.aload_n 2, 1) := by decide +kernel
theorem dX6_farnessOfFrame_78 : decode cX6_farnessOfFrame 78 = .ok (.aload_n 3, 1) := by decide +kernel
theorem dX6_farnessOfFrame_79 : decode cX6_farnessOfFrame 79 = .ok (.iload 6, 2) := by decide +kernel
theorem dX6_farnessOfFrame_81 : decode cX6_farnessOfFrame 81 = .ok (.iload 4, 2) := by decide +kernel
theorem dX6_farnessOfFrame_83 : decode cX6_farnessOfFrame 83 = .ok (.invokevirtual 124, 3) := by decide +kernel
theorem dX6_farnessOfFrame_86 : decode cX6_farnessOfFrame 86 = .ok (.iadd, 1) := by decide +kernel
theorem dX6_farnessOfFrame_87 : decode cX6_farnessOfFrame 87 = .ok (.istore 5, 2) := by decide +kernel
theorem dX6_farnessOfFrame_89 : decode cX6_farnessOfFrame 89 = .ok (.iinc 6 1, 3) := by decide +kernel
theorem dX6_farnessOfFrame_92 : decode cX6_farnessOfFrame 92 = .ok (.goto (-39), 3) := by decide +kernel
theorem dX6_farnessOfFrame_95 : decode cX6_farnessOfFrame 95 = .ok (.iload 5, 2) := by decide +kernel
theorem dX6_farnessOfFrame_97 : decode cX6_farnessOfFrame 97 = .ok (.ireturn, 1) := by decide +kernel
theorem dX6_farnessOfGroup_0 : decode cX6_farnessOfGroup 0 = .ok (.ldc 65, 2) := by decide +kernel
theorem dX6_farnessOfGroup_2 : decode cX6_farnessOfGroup 2 = .ok (.istore 6, 2) := by decide +kernel
theorem dX6_farnessOfGroup_4 : decode cX6_farnessOfGroup 4 = .ok (.iload 5, 2) := by decide +kernel
theorem dX6_farnessOfGroup_6 : decode cX6_farnessOfGroup 6 = .ok (.bipush 24, 2) := by decide +kernel
theorem dX6_farnessOfGroup_8 : decode cX6_farnessOfGroup 8 = .ok (.imul, 1) := by decide +kernel
theorem dX6_farnessOfGroup_9 : decode cX6_farnessOfGroup 9 = .ok (.istore 7, 2) := by decide +kernel
theorem dX6_farnessOfGroup_11 : decode cX6_farnessOfGroup 11 = .ok (.iload 7, 2) := by decide +kernel
theorem dX6_farnessOfGroup_13 : decode cX6_farnessOfGroup 13 = .ok (.iload 5, 2) := by decide +kernel
theorem dX6_farnessOfGroup_15 : decode cX6_farnessOfGroup 15 = .ok (.iconst 1, 1) := by decide +kernel
theorem dX6_farnessOfGroup_16 : decode cX6_farnessOfGroup 16 = .ok (.iadd, 1) := by decide +kernel
theorem dX6_farnessOfGroup_17 : decode cX6_farnessOfGroup 17 = .ok (.bipush 24, 2) := by decide +kernel
theorem dX6_farnessOfGroup_19 : decode cX6_farnessOfGroup 19 = .ok (.imul, 1) := by decide +kernel
theorem dX6_farnessOfGroup_20 : decode cX6_farnessOfGroup 20 = .ok (.if_icmp .ge 77, 3) := by decide +kernel
theorem dX6_farnessOfGroup_23 : decode cX6_farnessOfGroup 23 = .ok (.iconst 0, 1) := by decide +kernel
theorem dX6_farnessOfGroup_24 : decode cX6_farnessOfGroup 24 = .ok (.istore 8, 2) := by decide +kernel
theorem dX6_farnessOfGroup_26 : decode cX6_farnessOfGroup 26 = .ok (.iconst 0, 1) := by decide +kernel
theorem dX6_farnessOfGroup_27 : decode cX6_farnessOfGroup 27 = .ok (.istore 9, 2) := by decide +kernel
theorem dX6_farnessOfGroup_29 : decode cX6_farnessOfGroup 29 = .ok (.iload 9, 2) := by decide +kernel
theorem dX6_farnessOfGroup_31 : decode cX6_farnessOfGroup 31 = .ok (.aload_n 3, 1) := by decide +kernel
theorem dX6_farnessOfGroup_32 : decode cX6_farnessOfGroup 32 = .ok (.getfield 53, 3) := by decide +kernel
theorem dX6_farnessOfGroup_35 : decode cX6_farnessOfGroup 35 = .ok (.if_icmp .ge 47, 3) := by decide +kernel
theorem dX6_farnessOfGroup_38 : decode cX6_farnessOfGroup 38 = .ok (.iload 8, 2) := by decide +kernel
theorem dX6_farnessOfGroup_40 : decode cX6_farnessOfGroup 40 = .ok (.iload 6, 2) := by decide +kernel
theorem dX6_farnessOfGroup_42 : decode cX6_farnessOfGroup 42 = .ok (.if_icmp .ge 40, 3) := by decide +kernel
theorem dX6_farnessOfGroup_45 : decode cX6_farnessOfGroup 45 = .ok (.iload 8, 2) := by decide +kernel
theorem dX6_farnessOfGroup_47 : decode cX6_farnessOfGroup 47 = .ok (.aload_n 3, 1) := by decide +kernel
theorem dX6_farnessOfGroup_48 : decode cX6_farnessOfGroup 48 = .ok (.iload 9, 2) := by decide +kernel
theorem dX6_farnessOfGroup_50 : decode cX6_farnessOfGroup 50 = .ok (.invokevirtual 80, 3) := by decide +kernel
theorem dX6_farnessOfGroup_53 : decode cX6_farnessOfGroup 53 = .ok (.iload 4, 2) := by decide +kernel
theorem dX6_farnessOfGroup_55 : decode cX6_farnessOfGroup 55 = .ok (.if_icmp .ne 17, 3) := by decide +kernel
theorem dX6_farnessOfGroup_58 : decode cX6_farnessOfGroup 58 = .ok (.aload_n 0, 1) := by decide +kernel
theorem dX6_farnessOfGroup_59 : decode cX6_farnessOfGroup 59 = .ok (.aload_n 1, 1) := by decide +kernel
theorem dX6_farnessOfGroup_60 : decode cX6_farnessOfGroup 60 = .ok (.aload_n 2, 1) := by decide +kernel
theorem dX6_farnessOfGroup_61 : decode cX6_farnessOfGroup 61 = .ok (.aload_n 3, 1) := by decide +kernel
theorem dX6_farnessOfGroup_62 : decode cX6_farnessOfGroup 62 = .ok (.iload 9, 2) := by decide +kernel
theorem dX6_farnessOfGroup_64 : decode cX6_farnessOfGroup 64 = .ok (.iload 7, 2) := by decide +kernel
theorem dX6_farnessOfGroup_66 : decode cX6_farnessOfGroup 66 = .ok (.invokevirtual 121, 3) := by decide +kernel
theorem dX6_farnessOfGroup_69 : decode cX6_farnessOfGroup 69 = .ok (.goto 4, 3) := by decide +kernel
theorem dX6_farnessOfGroup_72 : decode cX6_farnessOfGroup 72 = .ok (.iconst 0, 1) := by decide +kernel
theorem dX6_farnessOfGroup_73 : decode cX6_farnessOfGroup 73 = .ok (.iadd, 1) := by decide +kernel
theorem dX6_farnessOfGroup_74 : decode cX6_farnessOfGroup 74 = .ok (.istore 8, 2) := by decide +kernel
theorem dX6_farnessOfGroup_76 : decode cX6_farnessOfGroup 76 = .ok (.iinc 9 1, 3) := by decide +kernel
theorem dX6_farnessOfGroup_79 : decode cX6_farnessOfGroup 79 = .ok (.goto (-50), 3) := by decide +kernel
theorem dX6_farnessOfGroup_82 : decode cX6_farnessOfGroup 82 = .ok (.iload 6, 2) := by decide +kernel
theorem dX6_farnessOfGroup_84 : decode cX6_farnessOfGroup 84 = .ok (.iload 8, 2) := by decide +kernel
theorem dX6_farnessOfGroup_86 : decode cX6_farnessOfGroup 86 = .ok (.invokestatic 127, 3) := by decide +kernel
end
section
theorem dX6_farnessOfGroup_89 : decode cX6_farnessOfGroup 89 = .ok (.istore 6, 2) := by decide +kernel
theorem dX6_farnessOfGroup_91 : decode cX6_farnessOfGroup 91 = .ok (.iinc 7 4, 3) := by decide +kernel
theorem dX6_farnessOfGroup_94 : decode cX6_farnessOfGroup 94 = .ok (.goto (-83), 3) := by decide +kernel
theorem dX6_farnessOfGroup_97 : decode cX6_farnessOfGroup 97 = .ok (.iload 6, 2) := by decide +kernel
theorem dX6_farnessOfGroup_99 : decode cX6_farnessOfGroup 99 = .ok (.ireturn, 1) := by decide +kernel
theorem dX6_farnessOfHole_0 : decode cX6_farnessOfHole 0 = .ok (.ldc 65, 2) := by decide +kernel
theorem dX6_farnessOfHole_2 : decode cX6_farnessOfHole 2 = .ok (.istore 6, 2) := by decide +kernel
theorem dX6_farnessOfHole_4 : decode cX6_farnessOfHole 4 = .ok (.iload 5, 2) := by decide +kernel
theorem dX6_farnessOfHole_6 : decode cX6_farnessOfHole 6 = .ok (.aload_n 3, 1) := by decide +kernel
theorem dX6_farnessOfHole_7 : decode cX6_farnessOfHole 7 = .ok (.iload 4, 2) := by decide +kernel
theorem dX6_farnessOfHole_9 : decode cX6_farnessOfHole 9 = .ok (.invokevirtual 93, 3) := by decide +kernel
theorem dX6_farnessOfHole_12 : decode cX6_farnessOfHole 12 = .ok (.iconst 0, 1) := by decide +kernel
theorem dX6_farnessOfHole_13 : decode cX6_farnessOfHole 13 = .ok (.invokestatic 96, 3) := by decide +kernel
theorem dX6_farnessOfHole_16 : decode cX6_farnessOfHole 16 = .ok (.iadd, 1) := by decide +kernel
theorem dX6_farnessOfHole_17 : decode cX6_farnessOfHole 17 = .ok (.istore 7, 2) := by decide +kernel
theorem dX6_farnessOfHole_19 : decode cX6_farnessOfHole 19 = .ok (.iconst 0, 1) := by decide +kernel
theorem dX6_farnessOfHole_20 : decode cX6_farnessOfHole 20 = .ok (.istore 8, 2) := by decide +kernel
theorem dX6_farnessOfHole_22 : decode cX6_farnessOfHole 22 = .ok (.iload 8, 2) := by decide +kernel
theorem dX6_farnessOfHole_24 : decode cX6_farnessOfHole 24 = .ok (.aload_n 1, 1) := by decide +kernel
theorem dX6_farnessOfHole_25 : decode cX6_farnessOfHole 25 = .ok (.getfield 102, 3) := by decide +kernel
theorem dX6_farnessOfHole_28 : decode cX6_farnessOfHole 28 = .ok (.if_icmp .ge 61, 3) := by decide +kernel
theorem dX6_farnessOfHole_31 : decode cX6_farnessOfHole 31 = .ok (.aload_n 1, 1) := by decide +kernel
theorem dX6_farnessOfHole_32 : decode cX6_farnessOfHole 32 = .ok (.iload 8, 2) := by decide +kernel
theorem dX6_farnessOfHole_34 : decode cX6_farnessOfHole 34 = .ok (.invokevirtual 105, 3) := by decide +kernel
theorem dX6_farnessOfHole_37 : decode cX6_farnessOfHole 37 = .ok (.astore 9, 2) := by decide +kernel
theorem dX6_farnessOfHole_39 : decode cX6_farnessOfHole 39 = .ok (.aload 9, 2) := by decide +kernel
theorem dX6_farnessOfHole_41 : decode cX6_farnessOfHole 41 = .ok (.ifnull 42, 3) := by decide +kernel
theorem dX6_farnessOfHole_44 : decode cX6_farnessOfHole 44 = .ok (.aload_n 3, 1) := by decide +kernel
theorem dX6_farnessOfHole_45 : decode cX6_farnessOfHole 45 = .ok (.iload 4, 2) := by decide +kernel
theorem dX6_farnessOfHole_47 : decode cX6_farnessOfHole 47 = .ok (.aload 9, 2) := by decide +kernel
theorem dX6_farnessOfHole_49 : decode cX6_farnessOfHole 49 = .ok (.iload 5, 2) := by decide +kernel
theorem dX6_farnessOfHole_51 : decode cX6_farnessOfHole 51 = .ok (.invokestatic 109, 3) := by decide +kernel
theorem dX6_farnessOfHole_54 : decode cX6_farnessOfHole 54 = .ok (.ifCond .eq 29, 3) := by decide +kernel
theorem dX6_farnessOfHole_57 : decode cX6_farnessOfHole 57 = .ok (.aload_n 1, 1) := by decide +kernel
theorem dX6_farnessOfHole_58 : decode cX6_farnessOfHole 58 = .ok (.aload 9, 2) := by decide +kernel
theorem dX6_farnessOfHole_60 : decode cX6_farnessOfHole 60 = .ok (.iload 7, 2) := by decide +kernel
theorem dX6_farnessOfHole_62 : decode cX6_farnessOfHole 62 = .ok (.aload_n 0, 1) := by decide +kernel
theorem dX6_farnessOfHole_63 : decode cX6_farnessOfHole 63 = .ok (.getfield 14, 3) := by decide +kernel
theorem dX6_farnessOfHole_66 : decode cX6_farnessOfHole 66 = .ok (.invokevirtual 113, 3) := by decide +kernel
theorem dX6_farnessOfHole_69 : decode cX6_farnessOfHole 69 = .ok (.iload 6, 2) := by decide +kernel
theorem dX6_farnessOfHole_71 : decode cX6_farnessOfHole 71 = .ok (.aload_n 0, 1) := by decide +kernel
theorem dX6_farnessOfHole_72 : decode cX6_farnessOfHole 72 = .ok (.aload_n 2, 1) := by decide +kernel
theorem dX6_farnessOfHole_73 : decode cX6_farnessOfHole 73 = .ok (.iload 4, 2) := by decide +kernel
theorem dX6_farnessOfHole_75 : decode cX6_farnessOfHole 75 = .ok (.invokevirtual 130, 3) := by decide +kernel
theorem dX6_farnessOfHole_78 : decode cX6_farnessOfHole 78 = .ok (.invokestatic 127, 3) := by decide +kernel
theorem dX6_farnessOfHole_81 : decode cX6_farnessOfHole 81 = .ok (.istore 6, 2) := by decide +kernel
theorem dX6_farnessOfHole_83 : decode cX6_farnessOfHole 83 = .ok (.iinc 8 1, 3) := by decide +kernel
theorem dX6_farnessOfHole_86 : decode cX6_farnessOfHole 86 = .ok (.goto (-64), 3) := by decide +kernel
theorem dX6_farnessOfHole_89 : decode cX6_farnessOfHole 89 = .ok (.iload 6, 2) := by decide +kernel
theorem dX6_farnessOfHole_91 : decode cX6_farnessOfHole 91 = .ok (.ireturn, 1) := by decide +kernel
theorem dX6_fits_0 : decode cX6_fits 0 = .ok (.aload_n 0, 1) := by decide +kernel
theorem dX6_fits_1 : decode cX6_fits 1 = .ok (.iload_n 1, 1) := by decide +kernel
theorem dX6_fits_2 : decode cX6_fits 2 = .ok (.aload_n 2, 1) := by decide +kernel
theorem dX6_fits_3 : decode cX6_fits 3 = .ok (.invokevirtual 134, 3) := by decide +kernel
theorem dX6_fits_6 : decode cX6_fits 6 = .ok (.ifCond .ne 5, 3) := by decide +kernel
theorem dX6_fits_9 : decode cX6_fits 9 = .ok (.iconst 0, 1) := by decide +kernel
theorem dX6_fits_10 : decode cX6_fits 10 = .ok (.ireturn, 1) := by decide +kernel
theorem dX6_fits_11 : decode cX6_fits 11 = .ok (.iload_n 3, 1) := by decide +kernel
theorem dX6_fits_12 : decode cX6_fits 12 = .ok (.iconst 4, 1) := by decide +kernel
theorem dX6_fits_13 : decode cX6_fits 13 = .ok (.idiv, 1) := by decide +kernel
theorem dX6_fits_14 : decode cX6_fits 14 = .ok (.iconst 2, 1) := by decide +kernel
theorem dX6_fits_15 : decode cX6_fits 15 = .ok (.irem, 1) := by decide +kernel
theorem dX6_fits_16 : decode cX6_fits 16 = .ok (.istore 4, 2) := by decide +kernel
theorem dX6_fits_18 : decode cX6_fits 18 = .ok (.iload_n 3, 1) := by decide +kernel
theorem dX6_fits_19 : decode cX6_fits 19 = .ok (.bipush 8, 2) := by decide +kernel
theorem dX6_fits_21 : decode cX6_fits 21 = .ok (.idiv, 1) := by decide +kernel
theorem dX6_fits_22 : decode cX6_fits 22 = .ok (.iconst 3, 1) := by decide +kernel
theorem dX6_fits_23 : decode cX6_fits 23 = .ok (.irem, 1) := by decide +kernel
theorem dX6_fits_24 : decode cX6_fits 24 = .ok (.istore 5, 2) := by decide +kernel
theorem dX6_fits_26 : decode cX6_fits 26 = .ok (.aload_n 0, 1) := by decide +kernel
theorem dX6_fits_27 : decode cX6_fits 27 = .ok (.iload_n 1, 1) := by decide +kernel
theorem dX6_fits_28 : decode cX6_fits 28 = .ok (.invokevirtual 138, 3) := by decide +kernel
theorem dX6_fits_31 : decode cX6_fits 31 = .ok (.ifCond .ne 25, 3) := by decide +kernel
theorem dX6_fits_34 : decode cX6_fits 34 = .ok (.aload_n 2, 1) := by decide +kernel
theorem dX6_fits_35 : decode cX6_fits 35 = .ok (.getfield 141, 3) := by decide +kernel
theorem dX6_fits_38 : decode cX6_fits 38 = .ok (.iload 5, 2) := by decide +kernel
theorem dX6_fits_40 : decode cX6_fits 40 = .ok (.if_icmp .ne 20, 3) := by decide +kernel
theorem dX6_fits_43 : decode cX6_fits 43 = .ok (.aload_n 2, 1) := by decide +kernel
theorem dX6_fits_44 : decode cX6_fits 44 = .ok (.getfield 146, 3) := by decide +kernel
theorem dX6_fits_47 : decode cX6_fits 47 = .ok (.iconst 3, 1) := by decide +kernel
theorem dX6_fits_48 : decode cX6_fits 48 = .ok (.if_icmp .ne 8, 3) := by decide +kernel
theorem dX6_fits_51 : decode cX6_fits 51 = .ok (.iload 4, 2) := by decide +kernel
theorem dX6_fits_53 : decode cX6_fits 53 = .ok (.ifCond .ne 7, 3) := by decide +kernel
theorem dX6_fits_56 : decode cX6_fits 56 = .ok (.iconst 1, 1) := by decide +kernel
theorem dX6_fits_57 : decode cX6_fits 57 = .ok (.goto 4, 3) := by decide +kernel
theorem dX6_fits_60 : decode cX6_fits 60 = .ok (.iconst 0, 1) := by decide +kernel
theorem dX6_fits_61 : decode cX6_fits 61 = .ok (.ireturn, 1) := by decide +kernel
theorem dX6_startOf_0 : decode cX6_startOf 0 = .ok (.iload_n 1, 1) := by decide +kernel
theorem dX6_startOf_1 : decode cX6_startOf 1 = .ok (.bipush 6, 2) := by decide +kernel
theorem dX6_startOf_3 : decode cX6_startOf 3 = .ok (.invokestatic 149, 3) := by decide +kernel
theorem dX6_startOf_6 : decode cX6_startOf 6 = .ok (.ifCond .eq 12, 3) := by decide +kernel
theorem dX6_startOf_9 : decode cX6_startOf 9 = .ok (.aload_n 0, 1) := by decide +kernel
theorem dX6_startOf_10 : decode cX6_startOf 10 = .ok (.getfield 20, 3) := by decide +kernel
theorem dX6_startOf_13 : decode cX6_startOf 13 = .ok (.iload_n 1, 1) := by decide +kernel
theorem dX6_startOf_14 : decode cX6_startOf 14 = .ok (.iaload, 1) := by decide +kernel
theorem dX6_startOf_15 : decode cX6_startOf 15 = .ok (.goto 4, 3) := by decide +kernel
theorem dX6_startOf_18 : decode cX6_startOf 18 = .ok (.iconst 0, 1) := by decide +kernel
theorem dX6_startOf_19 : decode cX6_startOf 19 = .ok (.ireturn, 1) := by decide +kernel
theorem dX6_lengthOf_0 : decode cX6_lengthOf 0 = .ok (.iload_n 1, 1) := by decide +kernel
theorem dX6_lengthOf_1 : decode cX6_lengthOf 1 = .ok (.bipush 6, 2) := by decide +kernel
theorem dX6_lengthOf_3 : decode cX6_lengthOf 3 = .ok (.invokestatic 149, 3) := by decide +kernel
theorem dX6_lengthOf_6 : decode cX6_lengthOf 6 = .ok (.ifCond .eq 12, 3) := by decide +kernel
theorem dX6_lengthOf_9 : decode cX6_lengthOf 9 = .ok (.aload_n 0, 1) := by decide +kernel
theorem dX6_lengthOf_10 : decode cX6_lengthOf 10 = .ok (.getfield 24, 3) := by decide +kernel
theorem dX6_lengthOf_13 : decode cX6_lengthOf 13 = .ok (.iload_n 1, 1) := by decide +kernel
theorem dX6_lengthOf_14 : decode cX6_lengthOf 14 = .ok (.iaload, 1) := by decide +kernel
theorem dX6_lengthOf_15 : decode cX6_lengthOf 15 = .ok (.goto 4, 3) := by decide +kernel
theorem dX6_lengthOf_18 : decode cX6_lengthOf 18 = .ok (.iconst 0, 1) := by decide +kernel
theorem dX6_lengthOf_19 : decode cX6_lengthOf 19 = .ok (.ireturn, 1) := by decide +kernel
theorem dX6_isSpelledAt_0 : decode cX6_isSpelledAt 0 = .ok (.aload_n 0, 1) := by decide +kernel
theorem dX6_isSpelledAt_1 : decode cX6_isSpelledAt 1 = .ok (.getfield 14, 3) := by decide +kernel
theorem dX6_isSpelledAt_4 : decode cX6_isSpelledAt 4 = .ok (.getfield 75, 3) := by decide +kernel
theorem dX6_isSpelledAt_7 : decode cX6_isSpelledAt 7 = .ok (.aload_n 0, 1) := by decide +kernel
theorem dX6_isSpelledAt_8 : decode cX6_isSpelledAt 8 = .ok (.iload_n 2, 1) := by decide +kernel
theorem dX6_isSpelledAt_9 : decode cX6_isSpelledAt 9 = .ok (.invokevirtual 153, 3) := by decide +kernel
theorem dX6_isSpelledAt_12 : decode cX6_isSpelledAt 12 = .ok (.if_icmp .eq 5, 3) := by decide +kernel
theorem dX6_isSpelledAt_15 : decode cX6_isSpelledAt 15 = .ok (.iconst 0, 1) := by decide +kernel
theorem dX6_isSpelledAt_16 : decode cX6_isSpelledAt 16 = .ok (.ireturn, 1) := by decide +kernel
theorem dX6_isSpelledAt_17 : decode cX6_isSpelledAt 17 = .ok (.iconst 0, 1) := by decide +kernel
theorem dX6_isSpelledAt_18 : decode cX6_isSpelledAt 18 = .ok (.istore_n 3, 1) := by decide +kernel
theorem dX6_isSpelledAt_19 : decode cX6_isSpelledAt 19 = .ok (.iload_n 3, 1) := by decide +kernel
theorem dX6_isSpelledAt_20 : decode cX6_isSpelledAt 20 = .ok (.aload_n 0, 1) := by decide +kernel
theorem dX6_isSpelledAt_21 : decode cX6_isSpelledAt 21 = .ok (.getfield 14, 3) := by decide +kernel
theorem dX6_isSpelledAt_24 : decode cX6_isSpelledAt 24 = .ok (.getfield 75, 3) := by decide +kernel
theorem dX6_isSpelledAt_27 : decode cX6_isSpelledAt 27 = .ok (.if_icmp .ge 33, 3) := by decide +kernel
theorem dX6_isSpelledAt_30 : decode cX6_isSpelledAt 30 = .ok (.aload_n 0, 1) := by decide +kernel
theorem dX6_isSpelledAt_31 : decode cX6_isSpelledAt 31 = .ok (.getfield 14, 3) := by decide +kernel
theorem dX6_isSpelledAt_34 : decode cX6_isSpelledAt 34 = .ok (.iload_n 3, 1) := by decide +kernel
theorem dX6_isSpelledAt_35 : decode cX6_isSpelledAt 35 = .ok (.invokevirtual 76, 3) := by decide +kernel
theorem dX6_isSpelledAt_38 : decode cX6_isSpelledAt 38 = .ok (.aload_n 1, 1) := by decide +kernel
theorem dX6_isSpelledAt_39 : decode cX6_isSpelledAt 39 = .ok (.aload_n 0, 1) := by decide +kernel
theorem dX6_isSpelledAt_40 : decode cX6_isSpelledAt 40 = .ok (.iload_n 2, 1) := by decide +kernel
theorem dX6_isSpelledAt_41 : decode cX6_isSpelledAt 41 = .ok (.invokevirtual 156, 3) := by decide +kernel
theorem dX6_isSpelledAt_44 : decode cX6_isSpelledAt 44 = .ok (.iload_n 3, 1) := by decide +kernel
theorem dX6_isSpelledAt_45 : decode cX6_isSpelledAt 45 = .ok (.iadd, 1) := by decide +kernel
theorem dX6_isSpelledAt_46 : decode cX6_isSpelledAt 46 = .ok (.invokevirtual 76, 3) := by decide +kernel
theorem dX6_isSpelledAt_49 : decode cX6_isSpelledAt 49 = .ok (.if_icmp .eq 5, 3) := by decide +kernel
theorem dX6_isSpelledAt_52 : decode cX6_isSpelledAt 52 = .ok (.iconst 0, 1) := by decide +kernel
theorem dX6_isSpelledAt_53 : decode cX6_isSpelledAt 53 = .ok (.ireturn, 1) := by decide +kernel
theorem dX6_isSpelledAt_54 : decode cX6_isSpelledAt 54 = .ok (.iinc 3 1, 3) := by decide +kernel
theorem dX6_isSpelledAt_57 : decode cX6_isSpelledAt 57 = .ok (.goto (-38), 3) := by decide +kernel
theorem dX6_isSpelledAt_60 : decode cX6_isSpelledAt 60 = .ok (.iconst 1, 1) := by decide +kernel
theorem dX6_isSpelledAt_61 : decode cX6_isSpelledAt 61 = .ok (.ireturn, 1) := by decide +kernel
theorem dX6_apartFrom_0 : decode cX6_apartFrom 0 = .ok (.aload_n 0, 1) := by decide +kernel
theorem dX6_apartFrom_1 : decode cX6_apartFrom 1 = .ok (.getfield 14, 3) := by decide +kernel
theorem dX6_apartFrom_4 : decode cX6_apartFrom 4 = .ok (.getfield 75, 3) := by decide +kernel
theorem dX6_apartFrom_7 : decode cX6_apartFrom 7 = .ok (.bipush 10, 2) := by decide +kernel
theorem dX6_apartFrom_9 : decode cX6_apartFrom 9 = .ok (.invokestatic 127, 3) := by decide +kernel
theorem dX6_apartFrom_12 : decode cX6_apartFrom 12 = .ok (.istore_n 3, 1) := by decide +kernel
theorem dX6_apartFrom_13 : decode cX6_apartFrom 13 = .ok (.iconst 0, 1) := by decide +kernel
theorem dX6_apartFrom_14 : decode cX6_apartFrom 14 = .ok (.istore 4, 2) := by decide +kernel
theorem dX6_apartFrom_16 : decode cX6_apartFrom 16 = .ok (.iload 4, 2) := by decide +kernel
theorem dX6_apartFrom_18 : decode cX6_apartFrom 18 = .ok (.iload_n 3, 1) := by decide +kernel
theorem dX6_apartFrom_19 : decode cX6_apartFrom 19 = .ok (.if_icmp .gt 18, 3) := by decide +kernel
theorem dX6_apartFrom_22 : decode cX6_apartFrom 22 = .ok (.aload_n 0, 1) := by decide +kernel
theorem dX6_apartFrom_23 : decode cX6_apartFrom 23 = .ok (.getfield 27, 3) := by decide +kernel
theorem dX6_apartFrom_26 : decode cX6_apartFrom 26 = .ok (.iload 4, 2) := by decide +kernel
theorem dX6_apartFrom_28 : decode cX6_apartFrom 28 = .ok (.iload 4, 2) := by decide +kernel
theorem dX6_apartFrom_30 : decode cX6_apartFrom 30 = .ok (.iastore, 1) := by decide +kernel
theorem dX6_apartFrom_31 : decode cX6_apartFrom 31 = .ok (.iinc 4 1, 3) := by decide +kernel
theorem dX6_apartFrom_34 : decode cX6_apartFrom 34 = .ok (.goto (-18), 3) := by decide +kernel
theorem dX6_apartFrom_37 : decode cX6_apartFrom 37 = .ok (.iconst 1, 1) := by decide +kernel
theorem dX6_apartFrom_38 : decode cX6_apartFrom 38 = .ok (.istore 4, 2) := by decide +kernel
theorem dX6_apartFrom_40 : decode cX6_apartFrom 40 = .ok (.iload 4, 2) := by decide +kernel
theorem dX6_apartFrom_42 : decode cX6_apartFrom 42 = .ok (.aload_n 0, 1) := by decide +kernel
theorem dX6_apartFrom_43 : decode cX6_apartFrom 43 = .ok (.iload_n 2, 1) := by decide +kernel
theorem dX6_apartFrom_44 : decode cX6_apartFrom 44 = .ok (.invokevirtual 153, 3) := by decide +kernel
theorem dX6_apartFrom_47 : decode cX6_apartFrom 47 = .ok (.if_icmp .gt 124, 3) := by decide +kernel
theorem dX6_apartFrom_50 : decode cX6_apartFrom 50 = .ok (.aload_n 1, 1) := by decide +kernel
theorem dX6_apartFrom_51 : decode cX6_apartFrom 51 = .ok (.aload_n 0, 1) := by decide +kernel
theorem dX6_apartFrom_52 : decode cX6_apartFrom 52 = .ok (.iload_n 2, 1) := by decide +kernel
theorem dX6_apartFrom_53 : decode cX6_apartFrom 53 = .ok (.invokevirtual 156, 3) := by decide +kernel
theorem dX6_apartFrom_56 : decode cX6_apartFrom 56 = .ok (.iload 4, 2) := by decide +kernel
theorem dX6_apartFrom_58 : decode cX6_apartFrom 58 = .ok (.iadd, 1) := by decide +kernel
theorem dX6_apartFrom_59 : decode cX6_apartFrom 59 = .ok (.iconst 1, 1) := by decide +kernel
theorem dX6_apartFrom_60 : decode cX6_apartFrom 60 = .ok (.isub, 1) := by decide +kernel
theorem dX6_apartFrom_61 : decode cX6_apartFrom 61 = .ok (.invokevirtual 76, 3) := by decide +kernel
theorem dX6_apartFrom_64 : decode cX6_apartFrom 64 = .ok (.istore 5, 2) := by decide +kernel
theorem dX6_apartFrom_66 : decode cX6_apartFrom 66 = .ok (.aload_n 0, 1) := by decide +kernel
theorem dX6_apartFrom_67 : decode cX6_apartFrom 67 = .ok (.getfield 27, 3) := by decide +kernel
theorem dX6_apartFrom_70 : decode cX6_apartFrom 70 = .ok (.iconst 0, 1) := by decide +kernel
theorem dX6_apartFrom_71 : decode cX6_apartFrom 71 = .ok (.iaload, 1) := by decide +kernel
theorem dX6_apartFrom_72 : decode cX6_apartFrom 72 = .ok (.istore 6, 2) := by decide +kernel
theorem dX6_apartFrom_74 : decode cX6_apartFrom 74 = .ok (.aload_n 0, 1) := by decide +kernel
theorem dX6_apartFrom_75 : decode cX6_apartFrom 75 = .ok (.getfield 27, 3) := by decide +kernel
theorem dX6_apartFrom_78 : decode cX6_apartFrom 78 = .ok (.iconst 0, 1) := by decide +kernel
theorem dX6_apartFrom_79 : decode cX6_apartFrom 79 = .ok (.iload 4, 2) := by decide +kernel
theorem dX6_apartFrom_81 : decode cX6_apartFrom 81 = .ok (.iastore, 1) := by decide +kernel
theorem dX6_apartFrom_82 : decode cX6_apartFrom 82 = .ok (.iconst 1, 1) := by decide +kernel
theorem dX6_apartFrom_83 : decode cX6_apartFrom 83 = .ok (.istore 7, 2) := by decide +kernel
theorem dX6_apartFrom_85 : decode cX6_apartFrom 85 = .ok (.iload 7, 2) := by decide +kernel
theorem dX6_apartFrom_87 : decode cX6_apartFrom 87 = .ok (.iload_n 3, 1) := by decide +kernel
theorem dX6_apartFrom_88 : decode cX6_apartFrom 88 = .ok (.if_icmp .gt 77, 3) := by decide +kernel
theorem dX6_apartFrom_91 : decode cX6_apartFrom 91 = .ok (.iload 6, 2) := by decide +kernel
theorem dX6_apartFrom_93 : decode cX6_apartFrom 93 = .ok (.aload_n 0, 1) := by decide +kernel
theorem dX6_apartFrom_94 : decode cX6_apartFrom 94 = .ok (.getfield 14, 3) := by decide +kernel
theorem dX6_apartFrom_97 : decode cX6_apartFrom 97 = .ok (.iload 7, 2) := by decide +kernel
theorem dX6_apartFrom_99 : decode cX6_apartFrom 99 = .ok (.iconst 1, 1) := by decide +kernel
theorem dX6_apartFrom_100 : decode cX6_apartFrom 100 = .ok (.isub, 1) := by decide +kernel
theorem dX6_apartFrom_101 : decode cX6_apartFrom 101 = .ok (.invokevirtual 76, 3) := by decide +kernel
theorem dX6_apartFrom_104 : decode cX6_apartFrom 104 = .ok (.iload 5, 2) := by decide +kernel
theorem dX6_apartFrom_106 : decode cX6_apartFrom 106 = .ok (.if_icmp .ne 7, 3) := by decide +kernel
theorem dX6_apartFrom_109 : decode cX6_apartFrom 109 = .ok (.iconst 0, 1) := by decide +kernel
theorem dX6_apartFrom_110 : decode cX6_apartFrom 110 = .ok (.goto 4, 3) := by decide +kernel
theorem dX6_apartFrom_113 : decode cX6_apartFrom 113 = .ok (.iconst 1, 1) := by decide +kernel
theorem dX6_apartFrom_114 : decode cX6_apartFrom 114 = .ok (.iadd, 1) := by decide +kernel
theorem dX6_apartFrom_115 : decode cX6_apartFrom 115 = .ok (.istore 8, 2) := by decide +kernel
theorem dX6_apartFrom_117 : decode cX6_apartFrom 117 = .ok (.aload_n 0, 1) := by decide +kernel
theorem dX6_apartFrom_118 : decode cX6_apartFrom 118 = .ok (.getfield 27, 3) := by decide +kernel
theorem dX6_apartFrom_121 : decode cX6_apartFrom 121 = .ok (.iload 7, 2) := by decide +kernel
theorem dX6_apartFrom_123 : decode cX6_apartFrom 123 = .ok (.iaload, 1) := by decide +kernel
theorem dX6_apartFrom_124 : decode cX6_apartFrom 124 = .ok (.istore 6, 2) := by decide +kernel
theorem dX6_apartFrom_126 : decode cX6_apartFrom 126 = .ok (.aload_n 0, 1) := by decide +kernel
theorem dX6_apartFrom_127 : decode cX6_apartFrom 127 = .ok (.getfield 27, 3) := by decide +kernel
theorem dX6_apartFrom_130 : decode cX6_apartFrom 130 = .ok (.iload 7, 2) := by decide +kernel
theorem dX6_apartFrom_132 : decode cX6_apartFrom 132 = .ok (.iload 8, 2) := by decide +kernel
theorem dX6_apartFrom_134 : decode cX6_apartFrom 134 = .ok (.aload_n 0, 1) := by decide +kernel
theorem dX6_apartFrom_135 : decode cX6_apartFrom 135 = .ok (.getfield 27, 3) := by decide +kernel
theorem dX6_apartFrom_138 : decode cX6_apartFrom 138 = .ok (.iload 7, 2) := by decide +kernel
theorem dX6_apartFrom_140 : decode cX6_apartFrom 140 = .ok (.iconst 1, 1) := by decide +kernel
theorem dX6_apartFrom_141 : decode cX6_apartFrom 141 = .ok (.isub, 1) := by decide +kernel
theorem dX6_apartFrom_142 : decode cX6_apartFrom 142 = .ok (.iaload, 1) := by decide +kernel
theorem dX6_apartFrom_143 : decode cX6_apartFrom 143 = .ok (.aload_n 0, 1) := by decide +kernel
theorem dX6_apartFrom_144 : decode cX6_apartFrom 144 = .ok (.getfield 27, 3) := by decide +kernel
theorem dX6_apartFrom_147 : decode cX6_apartFrom 147 = .ok (.iload 7, 2) := by decide +kernel
theorem dX6_apartFrom_149 : decode cX6_apartFrom 149 = .ok (.iaload, 1) := by decide +kernel
theorem dX6_apartFrom_150 : decode cX6_apartFrom 150 = .ok (.invokestatic 127, 3) := by decide +kernel
theorem dX6_apartFrom_153 : decode cX6_apartFrom 153 = .ok (.iconst 1, 1) := by decide +kernel
theorem dX6_apartFrom_154 : decode cX6_apartFrom 154 = .ok (.iadd, 1) := by decide +kernel
theorem dX6_apartFrom_155 : decode cX6_apartFrom 155 = .ok (.invokestatic 127, 3) := by decide +kernel
theorem dX6_apartFrom_158 : decode cX6_apartFrom 158 = .ok (.iastore, 1) := by decide +kernel
theorem dX6_apartFrom_159 : decode cX6_apartFrom 159 = .ok (.iinc 7 1, 3) := by decide +kernel
theorem dX6_apartFrom_162 : decode cX6_apartFrom 162 = .ok (.goto (-77), 3) := by decide +kernel
theorem dX6_apartFrom_165 : decode cX6_apartFrom 165 = .ok (.iinc 4 1, 3) := by decide +kernel
theorem dX6_apartFrom_168 : decode cX6_apartFrom 168 = .ok (.goto (-128), 3) := by decide +kernel
theorem dX6_apartFrom_171 : decode cX6_apartFrom 171 = .ok (.aload_n 0, 1) := by decide +kernel
theorem dX6_apartFrom_172 : decode cX6_apartFrom 172 = .ok (.getfield 27, 3) := by decide +kernel
theorem dX6_apartFrom_175 : decode cX6_apartFrom 175 = .ok (.iload_n 3, 1) := by decide +kernel
theorem dX6_apartFrom_176 : decode cX6_apartFrom 176 = .ok (.iaload, 1) := by decide +kernel
theorem dX6_apartFrom_177 : decode cX6_apartFrom 177 = .ok (.ireturn, 1) := by decide +kernel
theorem dX7_init_0 : decode cX7_init 0 = .ok (.aload_n 0, 1) := by decide +kernel
theorem dX7_init_1 : decode cX7_init 1 = .ok (.invokespecial 3, 3) := by decide +kernel
theorem dX7_init_4 : decode cX7_init 4 = .ok (.aload_n 0, 1) := by decide +kernel
theorem dX7_init_5 : decode cX7_init 5 = .ok (.iconst (-1), 1) := by decide +kernel
theorem dX7_init_6 : decode cX7_init 6 = .ok (.putfield 9, 3) := by decide +kernel
theorem dX7_init_9 : decode cX7_init 9 = .ok (.aload_n 0, 1) := by decide +kernel
theorem dX7_init_10 : decode cX7_init 10 = .ok (.bipush 40, 2) := by decide +kernel
theorem dX7_init_12 : decode cX7_init 12 = .ok (.newarray .int, 2) := by decide +kernel
theorem dX7_init_14 : decode cX7_init 14 = .ok (.putfield 15, 3) := by decide +kernel
theorem dX7_init_17 : decode cX7_init 17 = .ok (.return_, 1) := by decide +kernel
theorem dX7_begin_0 : decode cX7_begin 0 = .ok (.aload_n 0, 1) := by decide +kernel
theorem dX7_begin_1 : decode cX7_begin 1 = .ok (.iload_n 1, 1) := by decide +kernel
theorem dX7_begin_2 : decode cX7_begin 2 = .ok (.putfield 9, 3) := by decide +kernel
theorem dX7_begin_5 : decode cX7_begin 5 = .ok (.aload_n 0, 1) := by decide +kernel
theorem dX7_begin_6 : decode cX7_begin 6 = .ok (.iload_n 2, 1) := by decide +kernel
theorem dX7_begin_7 : decode cX7_begin 7 = .ok (.putfield 19, 3) := by decide +kernel
theorem dX7_begin_10 : decode cX7_begin 10 = .ok (.aload_n 0, 1) := by decide +kernel
theorem dX7_begin_11 : decode cX7_begin 11 = .ok (.getfield 15, 3) := by decide +kernel
theorem dX7_begin_14 : decode cX7_begin 14 = .ok (.iconst 0, 1) := by decide +kernel
theorem dX7_begin_15 : decode cX7_begin 15 = .ok (.invokestatic 22, 3) := by decide +kernel
theorem dX7_begin_18 : decode cX7_begin 18 = .ok (.return_, 1) := by decide +kernel
theorem dX7_isMissing_0 : decode cX7_isMissing 0 = .ok (.aload_n 0, 1) := by decide +kernel
theorem dX7_isMissing_1 : decode cX7_isMissing 1 = .ok (.getfield 9, 3) := by decide +kernel
theorem dX7_isMissing_4 : decode cX7_isMissing 4 = .ok (.iconst (-1), 1) := by decide +kernel
theorem dX7_isMissing_5 : decode cX7_isMissing 5 = .ok (.if_icmp .ne 7, 3) := by decide +kernel
theorem dX7_isMissing_8 : decode cX7_isMissing 8 = .ok (.iconst 1, 1) := by decide +kernel
theorem dX7_isMissing_9 : decode cX7_isMissing 9 = .ok (.goto 4, 3) := by decide +kernel
theorem dX7_isMissing_12 : decode cX7_isMissing 12 = .ok (.iconst 0, 1) := by decide +kernel
theorem dX7_isMissing_13 : decode cX7_isMissing 13 = .ok (.ireturn, 1) := by decide +kernel
theorem dX7_hasRun_0 : decode cX7_hasRun 0 = .ok (.iload_n 1, 1) := by decide +kernel
theorem dX7_hasRun_1 : decode cX7_hasRun 1 = .ok (.ifCond .lt 29, 3) := by decide +kernel
theorem dX7_hasRun_4 : decode cX7_hasRun 4 = .ok (.iload_n 2, 1) := by decide +kernel
theorem dX7_hasRun_5 : decode cX7_hasRun 5 = .ok (.ifCond .lt 25, 3) := by decide +kernel
theorem dX7_hasRun_8 : decode cX7_hasRun 8 = .ok (.iload_n 1, 1) := by decide +kernel
theorem dX7_hasRun_9 : decode cX7_hasRun 9 = .ok (.aload_n 0, 1) := by decide +kernel
theorem dX7_hasRun_10 : decode cX7_hasRun 10 = .ok (.getfield 19, 3) := by decide +kernel
theorem dX7_hasRun_13 : decode cX7_hasRun 13 = .ok (.if_icmp .gt 17, 3) := by decide +kernel
theorem dX7_hasRun_16 : decode cX7_hasRun 16 = .ok (.iload_n 2, 1) := by decide +kernel
theorem dX7_hasRun_17 : decode cX7_hasRun 17 = .ok (.aload_n 0, 1) := by decide +kernel
theorem dX7_hasRun_18 : decode cX7_hasRun 18 = .ok (.getfield 19, 3) := by decide +kernel
theorem dX7_hasRun_21 : decode cX7_hasRun 21 = .ok (.iload_n 1, 1) := by decide +kernel
theorem dX7_hasRun_22 : decode cX7_hasRun 22 = .ok (.isub, 1) := by decide +kernel
theorem dX7_hasRun_23 : decode cX7_hasRun 23 = .ok (.if_icmp .gt 7, 3) := by decide +kernel
theorem dX7_hasRun_26 : decode cX7_hasRun 26 = .ok (.iconst 1, 1) := by decide +kernel
theorem dX7_hasRun_27 : decode cX7_hasRun 27 = .ok (.goto 4, 3) := by decide +kernel
theorem dX7_hasRun_30 : decode cX7_hasRun 30 = .ok (.iconst 0, 1) := by decide +kernel
theorem dX7_hasRun_31 : decode cX7_hasRun 31 = .ok (.ireturn, 1) := by decide +kernel
theorem dX7_at_0 : decode cX7_at 0 = .ok (.aload_n 0, 1) := by decide +kernel
theorem dX7_at_1 : decode cX7_at 1 = .ok (.iload_n 1, 1) := by decide +kernel
theorem dX7_at_2 : decode cX7_at 2 = .ok (.iconst 1, 1) := by decide +kernel
theorem dX7_at_3 : decode cX7_at 3 = .ok (.invokevirtual 28, 3) := by decide +kernel
theorem dX7_at_6 : decode cX7_at 6 = .ok (.ifCond .eq 12, 3) := by decide +kernel
theorem dX7_at_9 : decode cX7_at 9 = .ok (.aload_n 0, 1) := by decide +kernel
theorem dX7_at_10 : decode cX7_at 10 = .ok (.getfield 15, 3) := by decide +kernel
theorem dX7_at_13 : decode cX7_at 13 = .ok (.iload_n 1, 1) := by decide +kernel
theorem dX7_at_14 : decode cX7_at 14 = .ok (.iaload, 1) := by decide +kernel
theorem dX7_at_15 : decode cX7_at 15 = .ok (.goto 4, 3) := by decide +kernel
theorem dX7_at_18 : decode cX7_at 18 = .ok (.iconst 0, 1) := by decide +kernel
theorem dX7_at_19 : decode cX7_at 19 = .ok (.ireturn, 1) := by decide +kernel
theorem dX7_set_0 : decode cX7_set 0 = .ok (.aload_n 0, 1) := by decide +kernel
theorem dX7_set_1 : decode cX7_set 1 = .ok (.iload_n 1, 1) := by decide +kernel
theorem dX7_set_2 : decode cX7_set 2 = .ok (.iconst 1, 1) := by decide +kernel
theorem dX7_set_3 : decode cX7_set 3 = .ok (.invokevirtual 28, 3) := by decide +kernel
theorem dX7_set_6 : decode cX7_set 6 = .ok (.ifCond .eq 22, 3) := by decide +kernel
theorem dX7_set_9 : decode cX7_set 9 = .ok (.aload_n 0, 1) := by decide +kernel
theorem dX7_set_10 : decode cX7_set 10 = .ok (.getfield 15, 3) := by decide +kernel
theorem dX7_set_13 : decode cX7_set 13 = .ok (.iload_n 1, 1) := by decide +kernel
theorem dX7_set_14 : decode cX7_set 14 = .ok (.aload_n 0, 1) := by decide +kernel
theorem dX7_set_15 : decode cX7_set 15 = .ok (.getfield 9, 3) := by decide +kernel
theorem dX7_set_18 : decode cX7_set 18 = .ok (.ifCond .ne 8, 3) := by decide +kernel
theorem dX7_set_21 : decode cX7_set 21 = .ok (.iload_n 2, 1) := by decide +kernel
theorem dX7_set_22 : decode cX7_set 22 = .ok (.i2s, 1) := by decide +kernel
theorem dX7_set_23 : decode cX7_set 23 = .ok (.goto 4, 3) := by decide +kernel
theorem dX7_set_26 : decode cX7_set 26 = .ok (.iload_n 2, 1) := by decide +kernel
theorem dX7_set_27 : decode cX7_set 27 = .ok (.iastore, 1) := by decide +kernel
theorem dX7_set_28 : decode cX7_set 28 = .ok (.return_, 1) := by decide +kernel
theorem dX7_take_0 : decode cX7_take 0 = .ok (.aload_n 2, 1) := by decide +kernel
theorem dX7_take_1 : decode cX7_take 1 = .ok (.iload_n 3, 1) := by decide +kernel
theorem dX7_take_2 : decode cX7_take 2 = .ok (.iload 4, 2) := by decide +kernel
theorem dX7_take_4 : decode cX7_take 4 = .ok (.invokevirtual 28, 3) := by decide +kernel
theorem dX7_take_7 : decode cX7_take 7 = .ok (.ifCond .eq 28, 3) := by decide +kernel
theorem dX7_take_10 : decode cX7_take 10 = .ok (.aload_n 0, 1) := by decide +kernel
theorem dX7_take_11 : decode cX7_take 11 = .ok (.iload_n 1, 1) := by decide +kernel
theorem dX7_take_12 : decode cX7_take 12 = .ok (.iload 4, 2) := by decide +kernel
theorem dX7_take_14 : decode cX7_take 14 = .ok (.invokevirtual 28, 3) := by decide +kernel
theorem dX7_take_17 : decode cX7_take 17 = .ok (.ifCond .eq 18, 3) := by decide +kernel
theorem dX7_take_20 : decode cX7_take 20 = .ok (.aload_n 2, 1) := by decide +kernel
theorem dX7_take_21 : decode cX7_take 21 = .ok (.getfield 15, 3) := by decide +kernel
theorem dX7_take_24 : decode cX7_take 24 = .ok (.iload_n 3, 1) := by decide +kernel
theorem dX7_take_25 : decode cX7_take 25 = .ok (.aload_n 0, 1) := by decide +kernel
theorem dX7_take_26 : decode cX7_take 26 = .ok (.getfield 15, 3) := by decide +kernel
theorem dX7_take_29 : decode cX7_take 29 = .ok (.iload_n 1, 1) := by decide +kernel
theorem dX7_take_30 : decode cX7_take 30 = .ok (.iload 4, 2) := by decide +kernel
theorem dX7_take_32 : decode cX7_take 32 = .ok (.invokestatic 32, 3) := by decide +kernel
theorem dX7_take_35 : decode cX7_take 35 = .ok (.return_, 1) := by decide +kernel
theorem dX8_init_0 : decode cX8_init 0 = .ok (.aload_n 0, 1) := by decide +kernel
theorem dX8_init_1 : decode cX8_init 1 = .ok (.invokespecial 3, 3) := by decide +kernel
theorem dX8_init_4 : decode cX8_init 4 = .ok (.aload_n 0, 1) := by decide +kernel
theorem dX8_init_5 : decode cX8_init 5 = .ok (.new 9, 3) := by decide +kernel
theorem dX8_init_8 : decode cX8_init 8 = .ok (.dup, 1) := by decide +kernel
theorem dX8_init_9 : decode cX8_init 9 = .ok (.bipush 10, 2) := by decide +kernel
theorem dX8_init_11 : decode cX8_init 11 = .ok (.invokespecial 11, 3) := by decide +kernel
theorem dX8_init_14 : decode cX8_init 14 = .ok (.putfield 14, 3) := by decide +kernel
theorem dX8_init_17 : decode cX8_init 17 = .ok (.aload_n 0, 1) := by decide +kernel
theorem dX8_init_18 : decode cX8_init 18 = .ok (.new 9, 3) := by decide +kernel
theorem dX8_init_21 : decode cX8_init 21 = .ok (.dup, 1) := by decide +kernel
theorem dX8_init_22 : decode cX8_init 22 = .ok (.bipush 66, 2) := by decide +kernel
theorem dX8_init_24 : decode cX8_init 24 = .ok (.invokespecial 11, 3) := by decide +kernel
theorem dX8_init_27 : decode cX8_init 27 = .ok (.putfield 20, 3) := by decide +kernel
theorem dX8_init_30 : decode cX8_init 30 = .ok (.aload_n 0, 1) := by decide +kernel
theorem dX8_init_31 : decode cX8_init 31 = .ok (.bipush 6, 2) := by decide +kernel
theorem dX8_init_33 : decode cX8_init 33 = .ok (.newarray .int, 2) := by decide +kernel
theorem dX8_init_35 : decode cX8_init 35 = .ok (.putfield 23, 3) := by decide +kernel
theorem dX8_init_38 : decode cX8_init 38 = .ok (.return_, 1) := by decide +kernel
theorem dX8_say_0 : decode cX8_say 0 = .ok (.aload_n 0, 1) := by decide +kernel
theorem dX8_say_1 : decode cX8_say 1 = .ok (.getfield 20, 3) := by decide +kernel
theorem dX8_say_4 : decode cX8_say 4 = .ok (.invokevirtual 27, 3) := by decide +kernel
theorem dX8_say_7 : decode cX8_say 7 = .ok (.aload_n 0, 1) := by decide +kernel
theorem dX8_say_8 : decode cX8_say 8 = .ok (.iconst 0, 1) := by decide +kernel
theorem dX8_say_9 : decode cX8_say 9 = .ok (.putfield 30, 3) := by decide +kernel
theorem dX8_say_12 : decode cX8_say 12 = .ok (.aload_n 1, 1) := by decide +kernel
theorem dX8_say_13 : decode cX8_say 13 = .ok (.aload_n 2, 1) := by decide +kernel
theorem dX8_say_14 : decode cX8_say 14 = .ok (.getfield 34, 3) := by decide +kernel
theorem dX8_say_17 : decode cX8_say 17 = .ok (.invokevirtual 39, 3) := by decide +kernel
theorem dX8_say_20 : decode cX8_say 20 = .ok (.astore 5, 2) := by decide +kernel
theorem dX8_say_22 : decode cX8_say 22 = .ok (.aload 5, 2) := by decide +kernel
theorem dX8_say_24 : decode cX8_say 24 = .ok (.ifnonnull 5, 3) := by decide +kernel
theorem dX8_say_27 : decode cX8_say 27 = .ok (.iconst 0, 1) := by decide +kernel
theorem dX8_say_28 : decode cX8_say 28 = .ok (.ireturn, 1) := by decide +kernel
theorem dX8_say_29 : decode cX8_say 29 = .ok (.iconst 0, 1) := by decide +kernel
theorem dX8_say_30 : decode cX8_say 30 = .ok (.istore 6, 2) := by decide +kernel
theorem dX8_say_32 : decode cX8_say 32 = .ok (.iload 6, 2) := by decide +kernel
theorem dX8_say_34 : decode cX8_say 34 = .ok (.aload 5, 2) := by decide +kernel
theorem dX8_say_36 : decode cX8_say 36 = .ok (.getfield 45, 3) := by decide +kernel
theorem dX8_say_39 : decode cX8_say 39 = .ok (.if_icmp .ge 68, 3) := by decide +kernel
theorem dX8_say_42 : decode cX8_say 42 = .ok (.aload_n 1, 1) := by decide +kernel
theorem dX8_say_43 : decode cX8_say 43 = .ok (.aload_n 2, 1) := by decide +kernel
theorem dX8_say_44 : decode cX8_say 44 = .ok (.iload 6, 2) := by decide +kernel
theorem dX8_say_46 : decode cX8_say 46 = .ok (.invokevirtual 50, 3) := by decide +kernel
theorem dX8_say_49 : decode cX8_say 49 = .ok (.invokevirtual 54, 3) := by decide +kernel
theorem dX8_say_52 : decode cX8_say 52 = .ok (.astore 7, 2) := by decide +kernel
theorem dX8_say_54 : decode cX8_say 54 = .ok (.aload 7, 2) := by decide +kernel
theorem dX8_say_56 : decode cX8_say 56 = .ok (.ifnonnull 17, 3) := by decide +kernel
theorem dX8_say_59 : decode cX8_say 59 = .ok (.aload_n 0, 1) := by decide +kernel
theorem dX8_say_60 : decode cX8_say 60 = .ok (.getfield 20, 3) := by decide +kernel
theorem dX8_say_63 : decode cX8_say 63 = .ok (.invokevirtual 27, 3) := by decide +kernel
theorem dX8_say_66 : decode cX8_say 66 = .ok (.aload_n 0, 1) := by decide +kernel
theorem dX8_say_67 : decode cX8_say 67 = .ok (.iconst 0, 1) := by decide +kernel
theorem dX8_say_68 : decode cX8_say 68 = .ok (.putfield 30, 3) := by decide +kernel
theorem dX8_say_71 : decode cX8_say 71 = .ok (.iconst 0, 1) := by decide +kernel
theorem dX8_say_72 : decode cX8_say 72 = .ok (.ireturn, 1) := by decide +kernel
theorem dX8_say_73 : decode cX8_say 73 = .ok (.aload_n 1, 1) := by decide +kernel
theorem dX8_say_74 : decode cX8_say 74 = .ok (.aload 7, 2) := by decide +kernel
theorem dX8_say_76 : decode cX8_say 76 = .ok (.aload_n 1, 1) := by decide +kernel
theorem dX8_say_77 : decode cX8_say 77 = .ok (.aload_n 2, 1) := by decide +kernel
theorem dX8_say_78 : decode cX8_say 78 = .ok (.iload 6, 2) := by decide +kernel
theorem dX8_say_80 : decode cX8_say 80 = .ok (.iload 4, 2) := by decide +kernel
theorem dX8_say_82 : decode cX8_say 82 = .ok (.invokestatic 58, 3) := by decide +kernel
theorem dX8_say_85 : decode cX8_say 85 = .ok (.iload_n 3, 1) := by decide +kernel
theorem dX8_say_86 : decode cX8_say 86 = .ok (.bipush 24, 2) := by decide +kernel
theorem dX8_say_88 : decode cX8_say 88 = .ok (.imul, 1) := by decide +kernel
theorem dX8_say_89 : decode cX8_say 89 = .ok (.iadd, 1) := by decide +kernel
theorem dX8_say_90 : decode cX8_say 90 = .ok (.aload_n 0, 1) := by decide +kernel
theorem dX8_say_91 : decode cX8_say 91 = .ok (.getfield 14, 3) := by decide +kernel
theorem dX8_say_94 : decode cX8_say 94 = .ok (.invokevirtual 62, 3) := by decide +kernel
theorem dX8_say_97 : decode cX8_say 97 = .ok (.aload_n 0, 1) := by decide +kernel
theorem dX8_say_98 : decode cX8_say 98 = .ok (.invokevirtual 66, 3) := by decide +kernel
theorem dX8_say_101 : decode cX8_say 101 = .ok (.iinc 6 1, 3) := by decide +kernel
theorem dX8_say_104 : decode cX8_say 104 = .ok (.goto (-72), 3) := by decide +kernel
theorem dX8_say_107 : decode cX8_say 107 = .ok (.iconst 1, 1) := by decide +kernel
theorem dX8_say_108 : decode cX8_say 108 = .ok (.ireturn, 1) := by decide +kernel
theorem dX8_lengthOf_0 : decode cX8_lengthOf 0 = .ok (.iload_n 1, 1) := by decide +kernel
theorem dX8_lengthOf_1 : decode cX8_lengthOf 1 = .ok (.aload_n 0, 1) := by decide +kernel
theorem dX8_lengthOf_2 : decode cX8_lengthOf 2 = .ok (.getfield 30, 3) := by decide +kernel
theorem dX8_lengthOf_5 : decode cX8_lengthOf 5 = .ok (.invokestatic 69, 3) := by decide +kernel
theorem dX8_lengthOf_8 : decode cX8_lengthOf 8 = .ok (.ifCond .eq 18, 3) := by decide +kernel
theorem dX8_lengthOf_11 : decode cX8_lengthOf 11 = .ok (.iload_n 1, 1) := by decide +kernel
theorem dX8_lengthOf_12 : decode cX8_lengthOf 12 = .ok (.bipush 6, 2) := by decide +kernel
theorem dX8_lengthOf_14 : decode cX8_lengthOf 14 = .ok (.if_icmp .ge 12, 3) := by decide +kernel
theorem dX8_lengthOf_17 : decode cX8_lengthOf 17 = .ok (.aload_n 0, 1) := by decide +kernel
theorem dX8_lengthOf_18 : decode cX8_lengthOf 18 = .ok (.getfield 23, 3) := by decide +kernel
theorem dX8_lengthOf_21 : decode cX8_lengthOf 21 = .ok (.iload_n 1, 1) := by decide +kernel
theorem dX8_lengthOf_22 : decode cX8_lengthOf 22 = .ok (.iaload, 1) := by decide +kernel
theorem dX8_lengthOf_23 : decode cX8_lengthOf 23 = .ok (.goto 4, 3) := by decide +kernel
theorem dX8_lengthOf_26 : decode cX8_lengthOf 26 = .ok (.iconst (-1), 1) := by decide +kernel
theorem dX8_lengthOf_27 : decode cX8_lengthOf 27 = .ok (.ireturn, 1) := by decide +kernel
theorem dX8_timeBy_0 : decode cX8_timeBy 0 = .ok (.fconst 0, 1) := by decide +kernel
theorem dX8_timeBy_1 : decode cX8_timeBy 1 = .ok (.fstore_n 2, 1) := by decide +kernel
theorem dX8_timeBy_2 : decode cX8_timeBy 2 = .ok (.iconst 0, 1) := by decide +kernel
theorem dX8_timeBy_3 : decode cX8_timeBy 3 = .ok (.istore_n 3, 1) := by decide +kernel
theorem dX8_timeBy_4 : decode cX8_timeBy 4 = .ok (.iload_n 3, 1) := by decide +kernel
theorem dX8_timeBy_5 : decode cX8_timeBy 5 = .ok (.aload_n 0, 1) := by decide +kernel
theorem dX8_timeBy_6 : decode cX8_timeBy 6 = .ok (.getfield 20, 3) := by decide +kernel
theorem dX8_timeBy_9 : decode cX8_timeBy 9 = .ok (.getfield 73, 3) := by decide +kernel
theorem dX8_timeBy_12 : decode cX8_timeBy 12 = .ok (.if_icmp .ge 85, 3) := by decide +kernel
theorem dX8_timeBy_15 : decode cX8_timeBy 15 = .ok (.aload_n 0, 1) := by decide +kernel
theorem dX8_timeBy_16 : decode cX8_timeBy 16 = .ok (.getfield 20, 3) := by decide +kernel
theorem dX8_timeBy_19 : decode cX8_timeBy 19 = .ok (.iload_n 3, 1) := by decide +kernel
theorem dX8_timeBy_20 : decode cX8_timeBy 20 = .ok (.invokevirtual 74, 3) := by decide +kernel
theorem dX8_timeBy_23 : decode cX8_timeBy 23 = .ok (.istore 4, 2) := by decide +kernel
theorem dX8_timeBy_25 : decode cX8_timeBy 25 = .ok (.iload 4, 2) := by decide +kernel
theorem dX8_timeBy_27 : decode cX8_timeBy 27 = .ok (.bipush 32, 2) := by decide +kernel
theorem dX8_timeBy_29 : decode cX8_timeBy 29 = .ok (.if_icmp .ne 8, 3) := by decide +kernel
theorem dX8_timeBy_32 : decode cX8_timeBy 32 = .ok (.ldc 77, 2) := by decide +kernel
theorem dX8_timeBy_34 : decode cX8_timeBy 34 = .ok (.goto 18, 3) := by decide +kernel
theorem dX8_timeBy_37 : decode cX8_timeBy 37 = .ok (.iload 4, 2) := by decide +kernel
theorem dX8_timeBy_39 : decode cX8_timeBy 39 = .ok (.invokestatic 78, 3) := by decide +kernel
theorem dX8_timeBy_42 : decode cX8_timeBy 42 = .ok (.ifCond .eq 8, 3) := by decide +kernel
theorem dX8_timeBy_45 : decode cX8_timeBy 45 = .ok (.ldc 82, 2) := by decide +kernel
theorem dX8_timeBy_47 : decode cX8_timeBy 47 = .ok (.goto 5, 3) := by decide +kernel
theorem dX8_timeBy_50 : decode cX8_timeBy 50 = .ok (.ldc 83, 2) := by decide +kernel
theorem dX8_timeBy_52 : decode cX8_timeBy 52 = .ok (.fstore 5, 2) := by decide +kernel
theorem dX8_timeBy_54 : decode cX8_timeBy 54 = .ok (.iload 4, 2) := by decide +kernel
theorem dX8_timeBy_56 : decode cX8_timeBy 56 = .ok (.bipush 32, 2) := by decide +kernel
theorem dX8_timeBy_58 : decode cX8_timeBy 58 = .ok (.if_icmp .eq 25, 3) := by decide +kernel
theorem dX8_timeBy_61 : decode cX8_timeBy 61 = .ok (.iload 4, 2) := by decide +kernel
theorem dX8_timeBy_63 : decode cX8_timeBy 63 = .ok (.aload_n 0, 1) := by decide +kernel
theorem dX8_timeBy_64 : decode cX8_timeBy 64 = .ok (.getfield 20, 3) := by decide +kernel
theorem dX8_timeBy_67 : decode cX8_timeBy 67 = .ok (.iload_n 3, 1) := by decide +kernel
theorem dX8_timeBy_68 : decode cX8_timeBy 68 = .ok (.iconst 1, 1) := by decide +kernel
theorem dX8_timeBy_69 : decode cX8_timeBy 69 = .ok (.isub, 1) := by decide +kernel
theorem dX8_timeBy_70 : decode cX8_timeBy 70 = .ok (.invokevirtual 74, 3) := by decide +kernel
theorem dX8_timeBy_73 : decode cX8_timeBy 73 = .ok (.if_icmp .ne 10, 3) := by decide +kernel
theorem dX8_timeBy_76 : decode cX8_timeBy 76 = .ok (.fload 5, 2) := by decide +kernel
theorem dX8_timeBy_78 : decode cX8_timeBy 78 = .ok (.ldc 84, 2) := by decide +kernel
theorem dX8_timeBy_80 : decode cX8_timeBy 80 = .ok (.fmul, 1) := by decide +kernel
theorem dX8_timeBy_81 : decode cX8_timeBy 81 = .ok (.fstore 5, 2) := by decide +kernel
theorem dX8_timeBy_83 : decode cX8_timeBy 83 = .ok (.fload_n 2, 1) := by decide +kernel
theorem dX8_timeBy_84 : decode cX8_timeBy 84 = .ok (.fload 5, 2) := by decide +kernel
theorem dX8_timeBy_86 : decode cX8_timeBy 86 = .ok (.iload_n 1, 1) := by decide +kernel
theorem dX8_timeBy_87 : decode cX8_timeBy 87 = .ok (.i2f, 1) := by decide +kernel
theorem dX8_timeBy_88 : decode cX8_timeBy 88 = .ok (.fdiv, 1) := by decide +kernel
theorem dX8_timeBy_89 : decode cX8_timeBy 89 = .ok (.fadd, 1) := by decide +kernel
theorem dX8_timeBy_90 : decode cX8_timeBy 90 = .ok (.fstore_n 2, 1) := by decide +kernel
theorem dX8_timeBy_91 : decode cX8_timeBy 91 = .ok (.iinc 3 1, 3) := by decide +kernel
theorem dX8_timeBy_94 : decode cX8_timeBy 94 = .ok (.goto (-90), 3) := by decide +kernel
theorem dX8_timeBy_97 : decode cX8_timeBy 97 = .ok (.fload_n 2, 1) := by decide +kernel
theorem dX8_timeBy_98 : decode cX8_timeBy 98 = .ok (.freturn, 1) := by decide +kernel
theorem dX8_addSpelled_0 : decode cX8_addSpelled 0 = .ok (.aload_n 0, 1) := by decide +kernel
theorem dX8_addSpelled_1 : decode cX8_addSpelled 1 = .ok (.getfield 30, 3) := by decide +kernel
theorem dX8_addSpelled_4 : decode cX8_addSpelled 4 = .ok (.ifCond .le 12, 3) := by decide +kernel
theorem dX8_addSpelled_7 : decode cX8_addSpelled 7 = .ok (.aload_n 0, 1) := by decide +kernel
theorem dX8_addSpelled_8 : decode cX8_addSpelled 8 = .ok (.getfield 20, 3) := by decide +kernel
theorem dX8_addSpelled_11 : decode cX8_addSpelled 11 = .ok (.bipush 32, 2) := by decide +kernel
theorem dX8_addSpelled_13 : decode cX8_addSpelled 13 = .ok (.invokevirtual 85, 3) := by decide +kernel
theorem dX8_addSpelled_16 : decode cX8_addSpelled 16 = .ok (.iconst 0, 1) := by decide +kernel
theorem dX8_addSpelled_17 : decode cX8_addSpelled 17 = .ok (.istore_n 1, 1) := by decide +kernel
theorem dX8_addSpelled_18 : decode cX8_addSpelled 18 = .ok (.iload_n 1, 1) := by decide +kernel
theorem dX8_addSpelled_19 : decode cX8_addSpelled 19 = .ok (.aload_n 0, 1) := by decide +kernel
theorem dX8_addSpelled_20 : decode cX8_addSpelled 20 = .ok (.getfield 14, 3) := by decide +kernel
theorem dX8_addSpelled_23 : decode cX8_addSpelled 23 = .ok (.getfield 73, 3) := by decide +kernel
theorem dX8_addSpelled_26 : decode cX8_addSpelled 26 = .ok (.if_icmp .ge 24, 3) := by decide +kernel
theorem dX8_addSpelled_29 : decode cX8_addSpelled 29 = .ok (.aload_n 0, 1) := by decide +kernel
theorem dX8_addSpelled_30 : decode cX8_addSpelled 30 = .ok (.getfield 20, 3) := by decide +kernel
theorem dX8_addSpelled_33 : decode cX8_addSpelled 33 = .ok (.aload_n 0, 1) := by decide +kernel
theorem dX8_addSpelled_34 : decode cX8_addSpelled 34 = .ok (.getfield 14, 3) := by decide +kernel
theorem dX8_addSpelled_37 : decode cX8_addSpelled 37 = .ok (.iload_n 1, 1) := by decide +kernel
theorem dX8_addSpelled_38 : decode cX8_addSpelled 38 = .ok (.invokevirtual 74, 3) := by decide +kernel
theorem dX8_addSpelled_41 : decode cX8_addSpelled 41 = .ok (.invokevirtual 85, 3) := by decide +kernel
theorem dX8_addSpelled_44 : decode cX8_addSpelled 44 = .ok (.iinc 1 1, 3) := by decide +kernel
theorem dX8_addSpelled_47 : decode cX8_addSpelled 47 = .ok (.goto (-29), 3) := by decide +kernel
theorem dX8_addSpelled_50 : decode cX8_addSpelled 50 = .ok (.aload_n 0, 1) := by decide +kernel
theorem dX8_addSpelled_51 : decode cX8_addSpelled 51 = .ok (.getfield 30, 3) := by decide +kernel
theorem dX8_addSpelled_54 : decode cX8_addSpelled 54 = .ok (.bipush 6, 2) := by decide +kernel
theorem dX8_addSpelled_56 : decode cX8_addSpelled 56 = .ok (.if_icmp .ge 29, 3) := by decide +kernel
theorem dX8_addSpelled_59 : decode cX8_addSpelled 59 = .ok (.aload_n 0, 1) := by decide +kernel
theorem dX8_addSpelled_60 : decode cX8_addSpelled 60 = .ok (.getfield 23, 3) := by decide +kernel
theorem dX8_addSpelled_63 : decode cX8_addSpelled 63 = .ok (.aload_n 0, 1) := by decide +kernel
theorem dX8_addSpelled_64 : decode cX8_addSpelled 64 = .ok (.getfield 30, 3) := by decide +kernel
theorem dX8_addSpelled_67 : decode cX8_addSpelled 67 = .ok (.aload_n 0, 1) := by decide +kernel
theorem dX8_addSpelled_68 : decode cX8_addSpelled 68 = .ok (.getfield 14, 3) := by decide +kernel
theorem dX8_addSpelled_71 : decode cX8_addSpelled 71 = .ok (.getfield 73, 3) := by decide +kernel
theorem dX8_addSpelled_74 : decode cX8_addSpelled 74 = .ok (.iastore, 1) := by decide +kernel
theorem dX8_addSpelled_75 : decode cX8_addSpelled 75 = .ok (.aload_n 0, 1) := by decide +kernel
theorem dX8_addSpelled_76 : decode cX8_addSpelled 76 = .ok (.dup, 1) := by decide +kernel
theorem dX8_addSpelled_77 : decode cX8_addSpelled 77 = .ok (.getfield 30, 3) := by decide +kernel
theorem dX8_addSpelled_80 : decode cX8_addSpelled 80 = .ok (.iconst 1, 1) := by decide +kernel
theorem dX8_addSpelled_81 : decode cX8_addSpelled 81 = .ok (.iadd, 1) := by decide +kernel
theorem dX8_addSpelled_82 : decode cX8_addSpelled 82 = .ok (.putfield 30, 3) := by decide +kernel
theorem dX8_addSpelled_85 : decode cX8_addSpelled 85 = .ok (.return_, 1) := by decide +kernel
theorem dX8_agreement_0 : decode cX8_agreement 0 = .ok (.aload_n 0, 1) := by decide +kernel
theorem dX8_agreement_1 : decode cX8_agreement 1 = .ok (.aload_n 1, 1) := by decide +kernel
theorem dX8_agreement_2 : decode cX8_agreement 2 = .ok (.getfield 34, 3) := by decide +kernel
theorem dX8_agreement_5 : decode cX8_agreement 5 = .ok (.invokevirtual 39, 3) := by decide +kernel
theorem dX8_agreement_8 : decode cX8_agreement 8 = .ok (.astore 4, 2) := by decide +kernel
theorem dX8_agreement_10 : decode cX8_agreement 10 = .ok (.aload 4, 2) := by decide +kernel
theorem dX8_agreement_12 : decode cX8_agreement 12 = .ok (.ifnull 13, 3) := by decide +kernel
theorem dX8_agreement_15 : decode cX8_agreement 15 = .ok (.aload 4, 2) := by decide +kernel
theorem dX8_agreement_17 : decode cX8_agreement 17 = .ok (.iload_n 2, 1) := by decide +kernel
theorem dX8_agreement_18 : decode cX8_agreement 18 = .ok (.invokevirtual 88, 3) := by decide +kernel
theorem dX8_agreement_21 : decode cX8_agreement 21 = .ok (.iconst (-1), 1) := by decide +kernel
theorem dX8_agreement_22 : decode cX8_agreement 22 = .ok (.if_icmp .ne 5, 3) := by decide +kernel
theorem dX8_agreement_25 : decode cX8_agreement 25 = .ok (.iconst 0, 1) := by decide +kernel
theorem dX8_agreement_26 : decode cX8_agreement 26 = .ok (.ireturn, 1) := by decide +kernel
theorem dX8_agreement_27 : decode cX8_agreement 27 = .ok (.aload 4, 2) := by decide +kernel
theorem dX8_agreement_29 : decode cX8_agreement 29 = .ok (.iload_n 2, 1) := by decide +kernel
theorem dX8_agreement_30 : decode cX8_agreement 30 = .ok (.invokevirtual 88, 3) := by decide +kernel
theorem dX8_agreement_33 : decode cX8_agreement 33 = .ok (.istore 5, 2) := by decide +kernel
theorem dX8_agreement_35 : decode cX8_agreement 35 = .ok (.aload_n 0, 1) := by decide +kernel
theorem dX8_agreement_36 : decode cX8_agreement 36 = .ok (.aload_n 1, 1) := by decide +kernel
theorem dX8_agreement_37 : decode cX8_agreement 37 = .ok (.aload 4, 2) := by decide +kernel
theorem dX8_agreement_39 : decode cX8_agreement 39 = .ok (.iload 5, 2) := by decide +kernel
theorem dX8_agreement_41 : decode cX8_agreement 41 = .ok (.invokevirtual 91, 3) := by decide +kernel
theorem dX8_agreement_44 : decode cX8_agreement 44 = .ok (.invokevirtual 50, 3) := by decide +kernel
theorem dX8_agreement_47 : decode cX8_agreement 47 = .ok (.invokevirtual 54, 3) := by decide +kernel
theorem dX8_agreement_50 : decode cX8_agreement 50 = .ok (.astore 6, 2) := by decide +kernel
theorem dX8_agreement_52 : decode cX8_agreement 52 = .ok (.aload 6, 2) := by decide +kernel
theorem dX8_agreement_54 : decode cX8_agreement 54 = .ok (.ifnonnull 5, 3) := by decide +kernel
theorem dX8_agreement_57 : decode cX8_agreement 57 = .ok (.iconst 0, 1) := by decide +kernel
theorem dX8_agreement_58 : decode cX8_agreement 58 = .ok (.ireturn, 1) := by decide +kernel
theorem dX8_agreement_59 : decode cX8_agreement 59 = .ok (.aload 6, 2) := by decide +kernel
theorem dX8_agreement_61 : decode cX8_agreement 61 = .ok (.getfield 94, 3) := by decide +kernel
theorem dX8_agreement_64 : decode cX8_agreement 64 = .ok (.iconst 3, 1) := by decide +kernel
theorem dX8_agreement_65 : decode cX8_agreement 65 = .ok (.if_icmp .ne 7, 3) := by decide +kernel
theorem dX8_agreement_68 : decode cX8_agreement 68 = .ok (.iconst 0, 1) := by decide +kernel
theorem dX8_agreement_69 : decode cX8_agreement 69 = .ok (.goto 9, 3) := by decide +kernel
theorem dX8_agreement_72 : decode cX8_agreement 72 = .ok (.iload_n 3, 1) := by decide +kernel
theorem dX8_agreement_73 : decode cX8_agreement 73 = .ok (.iload 5, 2) := by decide +kernel
theorem dX8_agreement_75 : decode cX8_agreement 75 = .ok (.ishr, 1) := by decide +kernel
theorem dX8_agreement_76 : decode cX8_agreement 76 = .ok (.iconst 1, 1) := by decide +kernel
theorem dX8_agreement_77 : decode cX8_agreement 77 = .ok (.iand, 1) := by decide +kernel
theorem dX8_agreement_78 : decode cX8_agreement 78 = .ok (.istore 7, 2) := by decide +kernel
theorem dX8_agreement_80 : decode cX8_agreement 80 = .ok (.aload 4, 2) := by decide +kernel
theorem dX8_agreement_82 : decode cX8_agreement 82 = .ok (.iload_n 2, 1) := by decide +kernel
theorem dX8_agreement_83 : decode cX8_agreement 83 = .ok (.invokevirtual 99, 3) := by decide +kernel
theorem dX8_agreement_86 : decode cX8_agreement 86 = .ok (.iconst 0, 1) := by decide +kernel
theorem dX8_agreement_87 : decode cX8_agreement 87 = .ok (.invokestatic 102, 3) := by decide +kernel
theorem dX8_agreement_90 : decode cX8_agreement 90 = .ok (.iload 7, 2) := by decide +kernel
theorem dX8_agreement_92 : decode cX8_agreement 92 = .ok (.iconst 4, 1) := by decide +kernel
theorem dX8_agreement_93 : decode cX8_agreement 93 = .ok (.imul, 1) := by decide +kernel
theorem dX8_agreement_94 : decode cX8_agreement 94 = .ok (.iadd, 1) := by decide +kernel
theorem dX8_agreement_95 : decode cX8_agreement 95 = .ok (.aload 6, 2) := by decide +kernel
theorem dX8_agreement_97 : decode cX8_agreement 97 = .ok (.getfield 108, 3) := by decide +kernel
theorem dX8_agreement_100 : decode cX8_agreement 100 = .ok (.bipush 8, 2) := by decide +kernel
theorem dX8_agreement_102 : decode cX8_agreement 102 = .ok (.imul, 1) := by decide +kernel
theorem dX8_agreement_103 : decode cX8_agreement 103 = .ok (.iadd, 1) := by decide +kernel
theorem dX8_agreement_104 : decode cX8_agreement 104 = .ok (.ireturn, 1) := by decide +kernel
theorem dX9_init_0 : decode cX9_init 0 = .ok (.aload_n 0, 1) := by decide +kernel
theorem dX9_init_1 : decode cX9_init 1 = .ok (.invokespecial 3, 3) := by decide +kernel
theorem dX9_init_4 : decode cX9_init 4 = .ok (.aload_n 0, 1) := by decide +kernel
theorem dX9_init_5 : decode cX9_init 5 = .ok (.iconst (-1), 1) := by decide +kernel
theorem dX9_init_6 : decode cX9_init 6 = .ok (.putfield 9, 3) := by decide +kernel
theorem dX9_init_9 : decode cX9_init 9 = .ok (.aload_n 0, 1) := by decide +kernel
theorem dX9_init_10 : decode cX9_init 10 = .ok (.bipush 20, 2) := by decide +kernel
theorem dX9_init_12 : decode cX9_init 12 = .ok (.newarray .int, 2) := by decide +kernel
theorem dX9_init_14 : decode cX9_init 14 = .ok (.putfield 15, 3) := by decide +kernel
theorem dX9_init_17 : decode cX9_init 17 = .ok (.return_, 1) := by decide +kernel
theorem dX9_begin_0 : decode cX9_begin 0 = .ok (.aload_n 0, 1) := by decide +kernel
theorem dX9_begin_1 : decode cX9_begin 1 = .ok (.iload_n 1, 1) := by decide +kernel
theorem dX9_begin_2 : decode cX9_begin 2 = .ok (.putfield 9, 3) := by decide +kernel
theorem dX9_begin_5 : decode cX9_begin 5 = .ok (.aload_n 0, 1) := by decide +kernel
theorem dX9_begin_6 : decode cX9_begin 6 = .ok (.iload_n 2, 1) := by decide +kernel
theorem dX9_begin_7 : decode cX9_begin 7 = .ok (.putfield 19, 3) := by decide +kernel
theorem dX9_begin_10 : decode cX9_begin 10 = .ok (.aload_n 0, 1) := by decide +kernel
theorem dX9_begin_11 : decode cX9_begin 11 = .ok (.getfield 15, 3) := by decide +kernel
theorem dX9_begin_14 : decode cX9_begin 14 = .ok (.iconst (-1), 1) := by decide +kernel
theorem dX9_begin_15 : decode cX9_begin 15 = .ok (.invokestatic 22, 3) := by decide +kernel
theorem dX9_begin_18 : decode cX9_begin 18 = .ok (.return_, 1) := by decide +kernel
theorem dX9_become_0 : decode cX9_become 0 = .ok (.aload_n 0, 1) := by decide +kernel
theorem dX9_become_1 : decode cX9_become 1 = .ok (.aload_n 1, 1) := by decide +kernel
theorem dX9_become_2 : decode cX9_become 2 = .ok (.getfield 9, 3) := by decide +kernel
theorem dX9_become_5 : decode cX9_become 5 = .ok (.putfield 9, 3) := by decide +kernel
theorem dX9_become_8 : decode cX9_become 8 = .ok (.aload_n 0, 1) := by decide +kernel
theorem dX9_become_9 : decode cX9_become 9 = .ok (.aload_n 1, 1) := by decide +kernel
theorem dX9_become_10 : decode cX9_become 10 = .ok (.getfield 19, 3) := by decide +kernel
theorem dX9_become_13 : decode cX9_become 13 = .ok (.putfield 19, 3) := by decide +kernel
theorem dX9_become_16 : decode cX9_become 16 = .ok (.aload_n 1, 1) := by decide +kernel
theorem dX9_become_17 : decode cX9_become 17 = .ok (.getfield 15, 3) := by decide +kernel
theorem dX9_become_20 : decode cX9_become 20 = .ok (.iconst 0, 1) := by decide +kernel
theorem dX9_become_21 : decode cX9_become 21 = .ok (.aload_n 0, 1) := by decide +kernel
theorem dX9_become_22 : decode cX9_become 22 = .ok (.getfield 15, 3) := by decide +kernel
theorem dX9_become_25 : decode cX9_become 25 = .ok (.iconst 0, 1) := by decide +kernel
theorem dX9_become_26 : decode cX9_become 26 = .ok (.bipush 20, 2) := by decide +kernel
theorem dX9_become_28 : decode cX9_become 28 = .ok (.invokestatic 28, 3) := by decide +kernel
theorem dX9_become_31 : decode cX9_become 31 = .ok (.return_, 1) := by decide +kernel
theorem dX9_isMissing_0 : decode cX9_isMissing 0 = .ok (.aload_n 0, 1) := by decide +kernel
theorem dX9_isMissing_1 : decode cX9_isMissing 1 = .ok (.getfield 9, 3) := by decide +kernel
theorem dX9_isMissing_4 : decode cX9_isMissing 4 = .ok (.iconst (-1), 1) := by decide +kernel
theorem dX9_isMissing_5 : decode cX9_isMissing 5 = .ok (.if_icmp .ne 7, 3) := by decide +kernel
theorem dX9_isMissing_8 : decode cX9_isMissing 8 = .ok (.iconst 1, 1) := by decide +kernel
theorem dX9_isMissing_9 : decode cX9_isMissing 9 = .ok (.goto 4, 3) := by decide +kernel
theorem dX9_isMissing_12 : decode cX9_isMissing 12 = .ok (.iconst 0, 1) := by decide +kernel
theorem dX9_isMissing_13 : decode cX9_isMissing 13 = .ok (.ireturn, 1) := by decide +kernel
theorem dX9_has_0 : decode cX9_has 0 = .ok (.iload_n 1, 1) := by decide +kernel
theorem dX9_has_1 : decode cX9_has 1 = .ok (.ifCond .lt 21, 3) := by decide +kernel
theorem dX9_has_4 : decode cX9_has 4 = .ok (.iload_n 1, 1) := by decide +kernel
theorem dX9_has_5 : decode cX9_has 5 = .ok (.aload_n 0, 1) := by decide +kernel
theorem dX9_has_6 : decode cX9_has 6 = .ok (.getfield 19, 3) := by decide +kernel
theorem dX9_has_9 : decode cX9_has 9 = .ok (.if_icmp .ge 13, 3) := by decide +kernel
theorem dX9_has_12 : decode cX9_has 12 = .ok (.iload_n 1, 1) := by decide +kernel
theorem dX9_has_13 : decode cX9_has 13 = .ok (.bipush 20, 2) := by decide +kernel
theorem dX9_has_15 : decode cX9_has 15 = .ok (.if_icmp .ge 7, 3) := by decide +kernel
theorem dX9_has_18 : decode cX9_has 18 = .ok (.iconst 1, 1) := by decide +kernel
theorem dX9_has_19 : decode cX9_has 19 = .ok (.goto 4, 3) := by decide +kernel
theorem dX9_has_22 : decode cX9_has 22 = .ok (.iconst 0, 1) := by decide +kernel
theorem dX9_has_23 : decode cX9_has 23 = .ok (.ireturn, 1) := by decide +kernel
theorem dX9_wordAt_0 : decode cX9_wordAt 0 = .ok (.aload_n 0, 1) := by decide +kernel
theorem dX9_wordAt_1 : decode cX9_wordAt 1 = .ok (.iload_n 1, 1) := by decide +kernel
theorem dX9_wordAt_2 : decode cX9_wordAt 2 = .ok (.invokevirtual 34, 3) := by decide +kernel
theorem dX9_wordAt_5 : decode cX9_wordAt 5 = .ok (.ifCond .eq 12, 3) := by decide +kernel
theorem dX9_wordAt_8 : decode cX9_wordAt 8 = .ok (.aload_n 0, 1) := by decide +kernel
theorem dX9_wordAt_9 : decode cX9_wordAt 9 = .ok (.getfield 15, 3) := by decide +kernel
theorem dX9_wordAt_12 : decode cX9_wordAt 12 = .ok (.iload_n 1, 1) := by decide +kernel
theorem dX9_wordAt_13 : decode cX9_wordAt 13 = .ok (.iaload, 1) := by decide +kernel
theorem dX9_wordAt_14 : decode cX9_wordAt 14 = .ok (.goto 4, 3) := by decide +kernel
theorem dX9_wordAt_17 : decode cX9_wordAt 17 = .ok (.iconst (-1), 1) := by decide +kernel
theorem dX9_wordAt_18 : decode cX9_wordAt 18 = .ok (.ireturn, 1) := by decide +kernel
theorem dX9_lay_0 : decode cX9_lay 0 = .ok (.aload_n 0, 1) := by decide +kernel
theorem dX9_lay_1 : decode cX9_lay 1 = .ok (.iload_n 1, 1) := by decide +kernel
theorem dX9_lay_2 : decode cX9_lay 2 = .ok (.invokevirtual 34, 3) := by decide +kernel
theorem dX9_lay_5 : decode cX9_lay 5 = .ok (.ifCond .eq 10, 3) := by decide +kernel
theorem dX9_lay_8 : decode cX9_lay 8 = .ok (.aload_n 0, 1) := by decide +kernel
theorem dX9_lay_9 : decode cX9_lay 9 = .ok (.getfield 15, 3) := by decide +kernel
theorem dX9_lay_12 : decode cX9_lay 12 = .ok (.iload_n 1, 1) := by decide +kernel
theorem dX9_lay_13 : decode cX9_lay 13 = .ok (.iload_n 2, 1) := by decide +kernel
theorem dX9_lay_14 : decode cX9_lay 14 = .ok (.iastore, 1) := by decide +kernel
theorem dX9_lay_15 : decode cX9_lay 15 = .ok (.return_, 1) := by decide +kernel
theorem dX10_init_0 : decode cX10_init 0 = .ok (.aload_n 0, 1) := by decide +kernel
theorem dX10_init_1 : decode cX10_init 1 = .ok (.invokespecial 3, 3) := by decide +kernel
theorem dX10_init_4 : decode cX10_init 4 = .ok (.aload_n 0, 1) := by decide +kernel
theorem dX10_init_5 : decode cX10_init 5 = .ok (.new 9, 3) := by decide +kernel
theorem dX10_init_8 : decode cX10_init 8 = .ok (.dup, 1) := by decide +kernel
theorem dX10_init_9 : decode cX10_init 9 = .ok (.bipush 6, 2) := by decide +kernel
theorem dX10_init_11 : decode cX10_init 11 = .ok (.invokespecial 11, 3) := by decide +kernel
theorem dX10_init_14 : decode cX10_init 14 = .ok (.putfield 14, 3) := by decide +kernel
theorem dX10_init_17 : decode cX10_init 17 = .ok (.aload_n 0, 1) := by decide +kernel
theorem dX10_init_18 : decode cX10_init 18 = .ok (.iload_n 1, 1) := by decide +kernel
theorem dX10_init_19 : decode cX10_init 19 = .ok (.putfield 20, 3) := by decide +kernel
theorem dX10_init_22 : decode cX10_init 22 = .ok (.return_, 1) := by decide +kernel
theorem dX10_become_0 : decode cX10_become 0 = .ok (.aload_n 0, 1) := by decide +kernel
theorem dX10_become_1 : decode cX10_become 1 = .ok (.aload_n 1, 1) := by decide +kernel
theorem dX10_become_2 : decode cX10_become 2 = .ok (.getfield 14, 3) := by decide +kernel
theorem dX10_become_5 : decode cX10_become 5 = .ok (.aload_n 1, 1) := by decide +kernel
theorem dX10_become_6 : decode cX10_become 6 = .ok (.getfield 24, 3) := by decide +kernel
theorem dX10_become_9 : decode cX10_become 9 = .ok (.aload_n 1, 1) := by decide +kernel
theorem dX10_become_10 : decode cX10_become 10 = .ok (.getfield 27, 3) := by decide +kernel
theorem dX10_become_13 : decode cX10_become 13 = .ok (.aload_n 1, 1) := by decide +kernel
theorem dX10_become_14 : decode cX10_become 14 = .ok (.getfield 30, 3) := by decide +kernel
theorem dX10_become_17 : decode cX10_become 17 = .ok (.invokevirtual 33, 3) := by decide +kernel
theorem dX10_become_20 : decode cX10_become 20 = .ok (.return_, 1) := by decide +kernel
theorem dX10_begin_0 : decode cX10_begin 0 = .ok (.aload_n 0, 1) := by decide +kernel
theorem dX10_begin_1 : decode cX10_begin 1 = .ok (.getfield 14, 3) := by decide +kernel
theorem dX10_begin_4 : decode cX10_begin 4 = .ok (.aload_n 1, 1) := by decide +kernel
theorem dX10_begin_5 : decode cX10_begin 5 = .ok (.invokevirtual 37, 3) := by decide +kernel
theorem dX10_begin_8 : decode cX10_begin 8 = .ok (.aload_n 0, 1) := by decide +kernel
theorem dX10_begin_9 : decode cX10_begin 9 = .ok (.iload_n 2, 1) := by decide +kernel
theorem dX10_begin_10 : decode cX10_begin 10 = .ok (.putfield 24, 3) := by decide +kernel
theorem dX10_begin_13 : decode cX10_begin 13 = .ok (.aload_n 0, 1) := by decide +kernel
theorem dX10_begin_14 : decode cX10_begin 14 = .ok (.iload_n 3, 1) := by decide +kernel
theorem dX10_begin_15 : decode cX10_begin 15 = .ok (.putfield 27, 3) := by decide +kernel
theorem dX10_begin_18 : decode cX10_begin 18 = .ok (.aload_n 0, 1) := by decide +kernel
theorem dX10_begin_19 : decode cX10_begin 19 = .ok (.iload 4, 2) := by decide +kernel
theorem dX10_begin_21 : decode cX10_begin 21 = .ok (.putfield 30, 3) := by decide +kernel
theorem dX10_begin_24 : decode cX10_begin 24 = .ok (.return_, 1) := by decide +kernel
theorem dX10_isOf_0 : decode cX10_isOf 0 = .ok (.aload_n 0, 1) := by decide +kernel
theorem dX10_isOf_1 : decode cX10_isOf 1 = .ok (.getfield 24, 3) := by decide +kernel
theorem dX10_isOf_4 : decode cX10_isOf 4 = .ok (.istore_n 2, 1) := by decide +kernel
theorem dX10_isOf_5 : decode cX10_isOf 5 = .ok (.iconst 0, 1) := by decide +kernel
theorem dX10_isOf_6 : decode cX10_isOf 6 = .ok (.istore_n 3, 1) := by decide +kernel
theorem dX10_isOf_7 : decode cX10_isOf 7 = .ok (.iload_n 3, 1) := by decide +kernel
theorem dX10_isOf_8 : decode cX10_isOf 8 = .ok (.bipush 6, 2) := by decide +kernel
theorem dX10_isOf_10 : decode cX10_isOf 10 = .ok (.if_icmp .ge 34, 3) := by decide +kernel
theorem dX10_isOf_13 : decode cX10_isOf 13 = .ok (.iload_n 2, 1) := by decide +kernel
theorem dX10_isOf_14 : decode cX10_isOf 14 = .ok (.ifCond .lt 30, 3) := by decide +kernel
theorem dX10_isOf_17 : decode cX10_isOf 17 = .ok (.iload_n 2, 1) := by decide +kernel
theorem dX10_isOf_18 : decode cX10_isOf 18 = .ok (.getstatic 41, 3) := by decide +kernel
theorem dX10_isOf_21 : decode cX10_isOf 21 = .ok (.arraylength, 1) := by decide +kernel
theorem dX10_isOf_22 : decode cX10_isOf 22 = .ok (.if_icmp .ge 22, 3) := by decide +kernel
theorem dX10_isOf_25 : decode cX10_isOf 25 = .ok (.iload_n 2, 1) := by decide +kernel
theorem dX10_isOf_26 : decode cX10_isOf 26 = .ok (.iload_n 1, 1) := by decide +kernel
theorem dX10_isOf_27 : decode cX10_isOf 27 = .ok (.if_icmp .ne 5, 3) := by decide +kernel
theorem dX10_isOf_30 : decode cX10_isOf 30 = .ok (.iconst 1, 1) := by decide +kernel
theorem dX10_isOf_31 : decode cX10_isOf 31 = .ok (.ireturn, 1) := by decide +kernel
theorem dX10_isOf_32 : decode cX10_isOf 32 = .ok (.getstatic 41, 3) := by decide +kernel
theorem dX10_isOf_35 : decode cX10_isOf 35 = .ok (.iload_n 2, 1) := by decide +kernel
theorem dX10_isOf_36 : decode cX10_isOf 36 = .ok (.iaload, 1) := by decide +kernel
theorem dX10_isOf_37 : decode cX10_isOf 37 = .ok (.istore_n 2, 1) := by decide +kernel
theorem dX10_isOf_38 : decode cX10_isOf 38 = .ok (.iinc 3 1, 3) := by decide +kernel
theorem dX10_isOf_41 : decode cX10_isOf 41 = .ok (.goto (-34), 3) := by decide +kernel
theorem dX10_isOf_44 : decode cX10_isOf 44 = .ok (.iconst 0, 1) := by decide +kernel
theorem dX10_isOf_45 : decode cX10_isOf 45 = .ok (.ireturn, 1) := by decide +kernel
theorem dX11_init_0 : decode cX11_init 0 = .ok (.aload_n 0, 1) := by decide +kernel
theorem dX11_init_1 : decode cX11_init 1 = .ok (.invokespecial 3, 3) := by decide +kernel
theorem dX11_init_4 : decode cX11_init 4 = .ok (.aload_n 0, 1) := by decide +kernel
theorem dX11_init_5 : decode cX11_init 5 = .ok (.new 9, 3) := by decide +kernel
theorem dX11_init_8 : decode cX11_init 8 = .ok (.dup, 1) := by decide +kernel
theorem dX11_init_9 : decode cX11_init 9 = .ok (.bipush 50, 2) := by decide +kernel
theorem dX11_init_11 : decode cX11_init 11 = .ok (.invokespecial 11, 3) := by decide +kernel
theorem dX11_init_14 : decode cX11_init 14 = .ok (.putfield 14, 3) := by decide +kernel
theorem dX11_init_17 : decode cX11_init 17 = .ok (.aload_n 0, 1) := by decide +kernel
theorem dX11_init_18 : decode cX11_init 18 = .ok (.new 18, 3) := by decide +kernel
theorem dX11_init_21 : decode cX11_init 21 = .ok (.dup, 1) := by decide +kernel
theorem dX11_init_22 : decode cX11_init 22 = .ok (.invokespecial 20, 3) := by decide +kernel
theorem dX11_init_25 : decode cX11_init 25 = .ok (.putfield 21, 3) := by decide +kernel
theorem dX11_init_28 : decode cX11_init 28 = .ok (.aload_n 0, 1) := by decide +kernel
theorem dX11_init_29 : decode cX11_init 29 = .ok (.new 18, 3) := by decide +kernel
theorem dX11_init_32 : decode cX11_init 32 = .ok (.dup, 1) := by decide +kernel
theorem dX11_init_33 : decode cX11_init 33 = .ok (.invokespecial 20, 3) := by decide +kernel
theorem dX11_init_36 : decode cX11_init 36 = .ok (.putfield 25, 3) := by decide +kernel
theorem dX11_init_39 : decode cX11_init 39 = .ok (.aload_n 0, 1) := by decide +kernel
theorem dX11_init_40 : decode cX11_init 40 = .ok (.new 28, 3) := by decide +kernel
theorem dX11_init_43 : decode cX11_init 43 = .ok (.dup, 1) := by decide +kernel
theorem dX11_init_44 : decode cX11_init 44 = .ok (.invokespecial 30, 3) := by decide +kernel
theorem dX11_init_47 : decode cX11_init 47 = .ok (.putfield 31, 3) := by decide +kernel
theorem dX11_init_50 : decode cX11_init 50 = .ok (.aload_n 0, 1) := by decide +kernel
theorem dX11_init_51 : decode cX11_init 51 = .ok (.new 9, 3) := by decide +kernel
theorem dX11_init_54 : decode cX11_init 54 = .ok (.dup, 1) := by decide +kernel
theorem dX11_init_55 : decode cX11_init 55 = .ok (.bipush 10, 2) := by decide +kernel
theorem dX11_init_57 : decode cX11_init 57 = .ok (.invokespecial 11, 3) := by decide +kernel
theorem dX11_init_60 : decode cX11_init 60 = .ok (.putfield 35, 3) := by decide +kernel
theorem dX11_init_63 : decode cX11_init 63 = .ok (.aload_n 0, 1) := by decide +kernel
theorem dX11_init_64 : decode cX11_init 64 = .ok (.new 38, 3) := by decide +kernel
theorem dX11_init_67 : decode cX11_init 67 = .ok (.dup, 1) := by decide +kernel
theorem dX11_init_68 : decode cX11_init 68 = .ok (.invokespecial 40, 3) := by decide +kernel
theorem dX11_init_71 : decode cX11_init 71 = .ok (.putfield 41, 3) := by decide +kernel
theorem dX11_init_74 : decode cX11_init 74 = .ok (.aload_n 0, 1) := by decide +kernel
theorem dX11_init_75 : decode cX11_init 75 = .ok (.new 45, 3) := by decide +kernel
theorem dX11_init_78 : decode cX11_init 78 = .ok (.dup, 1) := by decide +kernel
theorem dX11_init_79 : decode cX11_init 79 = .ok (.invokespecial 47, 3) := by decide +kernel
theorem dX11_init_82 : decode cX11_init 82 = .ok (.putfield 48, 3) := by decide +kernel
theorem dX11_init_85 : decode cX11_init 85 = .ok (.aload_n 0, 1) := by decide +kernel
theorem dX11_init_86 : decode cX11_init 86 = .ok (.new 52, 3) := by decide +kernel
theorem dX11_init_89 : decode cX11_init 89 = .ok (.dup, 1) := by decide +kernel
theorem dX11_init_90 : decode cX11_init 90 = .ok (.invokespecial 54, 3) := by decide +kernel
theorem dX11_init_93 : decode cX11_init 93 = .ok (.putfield 55, 3) := by decide +kernel
theorem dX11_init_96 : decode cX11_init 96 = .ok (.aload_n 0, 1) := by decide +kernel
theorem dX11_init_97 : decode cX11_init 97 = .ok (.iconst 4, 1) := by decide +kernel
theorem dX11_init_98 : decode cX11_init 98 = .ok (.anewarray 59, 3) := by decide +kernel
theorem dX11_init_101 : decode cX11_init 101 = .ok (.putfield 61, 3) := by decide +kernel
theorem dX11_init_104 : decode cX11_init 104 = .ok (.aload_n 0, 1) := by decide +kernel
theorem dX11_init_105 : decode cX11_init 105 = .ok (.iconst 4, 1) := by decide +kernel
theorem dX11_init_106 : decode cX11_init 106 = .ok (.anewarray 65, 3) := by decide +kernel
theorem dX11_init_109 : decode cX11_init 109 = .ok (.putfield 67, 3) := by decide +kernel
theorem dX11_init_112 : decode cX11_init 112 = .ok (.iconst 0, 1) := by decide +kernel
theorem dX11_init_113 : decode cX11_init 113 = .ok (.istore_n 1, 1) := by decide +kernel
theorem dX11_init_114 : decode cX11_init 114 = .ok (.iload_n 1, 1) := by decide +kernel
theorem dX11_init_115 : decode cX11_init 115 = .ok (.iconst 4, 1) := by decide +kernel
theorem dX11_init_116 : decode cX11_init 116 = .ok (.if_icmp .ge 22, 3) := by decide +kernel
theorem dX11_init_119 : decode cX11_init 119 = .ok (.aload_n 0, 1) := by decide +kernel
theorem dX11_init_120 : decode cX11_init 120 = .ok (.getfield 61, 3) := by decide +kernel
theorem dX11_init_123 : decode cX11_init 123 = .ok (.iload_n 1, 1) := by decide +kernel
theorem dX11_init_124 : decode cX11_init 124 = .ok (.new 59, 3) := by decide +kernel
theorem dX11_init_127 : decode cX11_init 127 = .ok (.dup, 1) := by decide +kernel
theorem dX11_init_128 : decode cX11_init 128 = .ok (.invokespecial 71, 3) := by decide +kernel
theorem dX11_init_131 : decode cX11_init 131 = .ok (.aastore, 1) := by decide +kernel
theorem dX11_init_132 : decode cX11_init 132 = .ok (.iinc 1 1, 3) := by decide +kernel
theorem dX11_init_135 : decode cX11_init 135 = .ok (.goto (-21), 3) := by decide +kernel
theorem dX11_init_138 : decode cX11_init 138 = .ok (.iconst 0, 1) := by decide +kernel
theorem dX11_init_139 : decode cX11_init 139 = .ok (.istore_n 1, 1) := by decide +kernel
theorem dX11_init_140 : decode cX11_init 140 = .ok (.iload_n 1, 1) := by decide +kernel
theorem dX11_init_141 : decode cX11_init 141 = .ok (.iconst 4, 1) := by decide +kernel
theorem dX11_init_142 : decode cX11_init 142 = .ok (.if_icmp .ge 22, 3) := by decide +kernel
theorem dX11_init_145 : decode cX11_init 145 = .ok (.aload_n 0, 1) := by decide +kernel
theorem dX11_init_146 : decode cX11_init 146 = .ok (.getfield 67, 3) := by decide +kernel
theorem dX11_init_149 : decode cX11_init 149 = .ok (.iload_n 1, 1) := by decide +kernel
theorem dX11_init_150 : decode cX11_init 150 = .ok (.new 65, 3) := by decide +kernel
theorem dX11_init_153 : decode cX11_init 153 = .ok (.dup, 1) := by decide +kernel
theorem dX11_init_154 : decode cX11_init 154 = .ok (.invokespecial 72, 3) := by decide +kernel
theorem dX11_init_157 : decode cX11_init 157 = .ok (.aastore, 1) := by decide +kernel
theorem dX11_init_158 : decode cX11_init 158 = .ok (.iinc 1 1, 3) := by decide +kernel
theorem dX11_init_161 : decode cX11_init 161 = .ok (.goto (-21), 3) := by decide +kernel
theorem dX11_init_164 : decode cX11_init 164 = .ok (.return_, 1) := by decide +kernel
theorem dX11_feed_0 : decode cX11_feed 0 = .ok (.iload_n 1, 1) := by decide +kernel
theorem dX11_feed_1 : decode cX11_feed 1 = .ok (.iconst 1, 1) := by decide +kernel
theorem dX11_feed_2 : decode cX11_feed 2 = .ok (.if_icmp .lt 22, 3) := by decide +kernel
theorem dX11_feed_5 : decode cX11_feed 5 = .ok (.iload_n 1, 1) := by decide +kernel
theorem dX11_feed_6 : decode cX11_feed 6 = .ok (.iconst 5, 1) := by decide +kernel
theorem dX11_feed_7 : decode cX11_feed 7 = .ok (.if_icmp .gt 17, 3) := by decide +kernel
theorem dX11_feed_10 : decode cX11_feed 10 = .ok (.iload_n 2, 1) := by decide +kernel
theorem dX11_feed_11 : decode cX11_feed 11 = .ok (.iload_n 3, 1) := by decide +kernel
theorem dX11_feed_12 : decode cX11_feed 12 = .ok (.iload 4, 2) := by decide +kernel
theorem dX11_feed_14 : decode cX11_feed 14 = .ok (.iload 5, 2) := by decide +kernel
theorem dX11_feed_16 : decode cX11_feed 16 = .ok (.iload 6, 2) := by decide +kernel
theorem dX11_feed_18 : decode cX11_feed 18 = .ok (.invokestatic 73, 3) := by decide +kernel
theorem dX11_feed_21 : decode cX11_feed 21 = .ok (.ifCond .ne 6, 3) := by decide +kernel
theorem dX11_feed_24 : decode cX11_feed 24 = .ok (.bipush (-2), 2) := by decide +kernel
theorem dX11_feed_26 : decode cX11_feed 26 = .ok (.ireturn, 1) := by decide +kernel
theorem dX11_feed_27 : decode cX11_feed 27 = .ok (.aload_n 0, 1) := by decide +kernel
theorem dX11_feed_28 : decode cX11_feed 28 = .ok (.getfield 14, 3) := by decide +kernel
theorem dX11_feed_31 : decode cX11_feed 31 = .ok (.getfield 77, 3) := by decide +kernel
theorem dX11_feed_34 : decode cX11_feed 34 = .ok (.iload_n 1, 1) := by decide +kernel
theorem dX11_feed_35 : decode cX11_feed 35 = .ok (.iadd, 1) := by decide +kernel
theorem dX11_feed_36 : decode cX11_feed 36 = .ok (.bipush 50, 2) := by decide +kernel
theorem dX11_feed_38 : decode cX11_feed 38 = .ok (.if_icmp .le 6, 3) := by decide +kernel
theorem dX11_feed_41 : decode cX11_feed 41 = .ok (.bipush (-4), 2) := by decide +kernel
theorem dX11_feed_43 : decode cX11_feed 43 = .ok (.ireturn, 1) := by decide +kernel
theorem dX11_feed_44 : decode cX11_feed 44 = .ok (.iconst 0, 1) := by decide +kernel
theorem dX11_feed_45 : decode cX11_feed 45 = .ok (.istore 7, 2) := by decide +kernel
theorem dX11_feed_47 : decode cX11_feed 47 = .ok (.iload 7, 2) := by decide +kernel
theorem dX11_feed_49 : decode cX11_feed 49 = .ok (.iload_n 1, 1) := by decide +kernel
theorem dX11_feed_50 : decode cX11_feed 50 = .ok (.if_icmp .ge 59, 3) := by decide +kernel
theorem dX11_feed_53 : decode cX11_feed 53 = .ok (.aload_n 0, 1) := by decide +kernel
theorem dX11_feed_54 : decode cX11_feed 54 = .ok (.getfield 14, 3) := by decide +kernel
theorem dX11_feed_57 : decode cX11_feed 57 = .ok (.iload 7, 2) := by decide +kernel
theorem dX11_feed_59 : decode cX11_feed 59 = .ok (.ifCond .ne 7, 3) := by decide +kernel
theorem dX11_feed_62 : decode cX11_feed 62 = .ok (.iload_n 2, 1) := by decide +kernel
theorem dX11_feed_63 : decode cX11_feed 63 = .ok (.goto 37, 3) := by decide +kernel
theorem dX11_feed_66 : decode cX11_feed 66 = .ok (.iload 7, 2) := by decide +kernel
theorem dX11_feed_68 : decode cX11_feed 68 = .ok (.iconst 1, 1) := by decide +kernel
theorem dX11_feed_69 : decode cX11_feed 69 = .ok (.if_icmp .ne 7, 3) := by decide +kernel
theorem dX11_feed_72 : decode cX11_feed 72 = .ok (.iload_n 3, 1) := by decide +kernel
theorem dX11_feed_73 : decode cX11_feed 73 = .ok (.goto 27, 3) := by decide +kernel
theorem dX11_feed_76 : decode cX11_feed 76 = .ok (.iload 7, 2) := by decide +kernel
theorem dX11_feed_78 : decode cX11_feed 78 = .ok (.iconst 2, 1) := by decide +kernel
theorem dX11_feed_79 : decode cX11_feed 79 = .ok (.if_icmp .ne 8, 3) := by decide +kernel
theorem dX11_feed_82 : decode cX11_feed 82 = .ok (.iload 4, 2) := by decide +kernel
theorem dX11_feed_84 : decode cX11_feed 84 = .ok (.goto 16, 3) := by decide +kernel
theorem dX11_feed_87 : decode cX11_feed 87 = .ok (.iload 7, 2) := by decide +kernel
theorem dX11_feed_89 : decode cX11_feed 89 = .ok (.iconst 3, 1) := by decide +kernel
theorem dX11_feed_90 : decode cX11_feed 90 = .ok (.if_icmp .ne 8, 3) := by decide +kernel
theorem dX11_feed_93 : decode cX11_feed 93 = .ok (.iload 5, 2) := by decide +kernel
theorem dX11_feed_95 : decode cX11_feed 95 = .ok (.goto 5, 3) := by decide +kernel
theorem dX11_feed_98 : decode cX11_feed 98 = .ok (.iload 6, 2) := by decide +kernel
theorem dX11_feed_100 : decode cX11_feed 100 = .ok (.invokevirtual 81, 3) := by decide +kernel
theorem dX11_feed_103 : decode cX11_feed 103 = .ok (.iinc 7 1, 3) := by decide +kernel
theorem dX11_feed_106 : decode cX11_feed 106 = .ok (.goto (-59), 3) := by decide +kernel
theorem dX11_feed_109 : decode cX11_feed 109 = .ok (.aload_n 0, 1) := by decide +kernel
theorem dX11_feed_110 : decode cX11_feed 110 = .ok (.getfield 14, 3) := by decide +kernel
theorem dX11_feed_113 : decode cX11_feed 113 = .ok (.getfield 77, 3) := by decide +kernel
theorem dX11_feed_116 : decode cX11_feed 116 = .ok (.ireturn, 1) := by decide +kernel
theorem dX11_word_0 : decode cX11_word 0 = .ok (.iload_n 1, 1) := by decide +kernel
theorem dX11_word_1 : decode cX11_word 1 = .ok (.bipush 6, 2) := by decide +kernel
theorem dX11_word_3 : decode cX11_word 3 = .ok (.invokestatic 84, 3) := by decide +kernel
theorem dX11_word_6 : decode cX11_word 6 = .ok (.ifCond .eq 19, 3) := by decide +kernel
theorem dX11_word_9 : decode cX11_word 9 = .ok (.iload_n 2, 1) := by decide +kernel
theorem dX11_word_10 : decode cX11_word 10 = .ok (.iconst 4, 1) := by decide +kernel
theorem dX11_word_11 : decode cX11_word 11 = .ok (.invokestatic 84, 3) := by decide +kernel
theorem dX11_word_14 : decode cX11_word 14 = .ok (.ifCond .eq 11, 3) := by decide +kernel
theorem dX11_word_17 : decode cX11_word 17 = .ok (.iload_n 3, 1) := by decide +kernel
theorem dX11_word_18 : decode cX11_word 18 = .ok (.iconst 3, 1) := by decide +kernel
theorem dX11_word_19 : decode cX11_word 19 = .ok (.invokestatic 84, 3) := by decide +kernel
theorem dX11_word_22 : decode cX11_word 22 = .ok (.ifCond .ne 6, 3) := by decide +kernel
theorem dX11_word_25 : decode cX11_word 25 = .ok (.bipush (-2), 2) := by decide +kernel
theorem dX11_word_27 : decode cX11_word 27 = .ok (.ireturn, 1) := by decide +kernel
theorem dX11_word_28 : decode cX11_word 28 = .ok (.aload_n 0, 1) := by decide +kernel
theorem dX11_word_29 : decode cX11_word 29 = .ok (.getfield 14, 3) := by decide +kernel
theorem dX11_word_32 : decode cX11_word 32 = .ok (.getfield 77, 3) := by decide +kernel
theorem dX11_word_35 : decode cX11_word 35 = .ok (.iconst 1, 1) := by decide +kernel
theorem dX11_word_36 : decode cX11_word 36 = .ok (.if_icmp .lt 29, 3) := by decide +kernel
theorem dX11_word_39 : decode cX11_word 39 = .ok (.aload_n 0, 1) := by decide +kernel
theorem dX11_word_40 : decode cX11_word 40 = .ok (.getfield 14, 3) := by decide +kernel
theorem dX11_word_43 : decode cX11_word 43 = .ok (.getfield 77, 3) := by decide +kernel
theorem dX11_word_46 : decode cX11_word 46 = .ok (.bipush 6, 2) := by decide +kernel
theorem dX11_word_48 : decode cX11_word 48 = .ok (.if_icmp .gt 17, 3) := by decide +kernel
theorem dX11_word_51 : decode cX11_word 51 = .ok (.aload_n 0, 1) := by decide +kernel
theorem dX11_word_52 : decode cX11_word 52 = .ok (.getfield 14, 3) := by decide +kernel
theorem dX11_word_55 : decode cX11_word 55 = .ok (.invokevirtual 88, 3) := by decide +kernel
theorem dX11_word_58 : decode cX11_word 58 = .ok (.ifCond .eq 7, 3) := by decide +kernel
theorem dX11_word_61 : decode cX11_word 61 = .ok (.iconst 1, 1) := by decide +kernel
theorem dX11_word_62 : decode cX11_word 62 = .ok (.goto 4, 3) := by decide +kernel
theorem dX11_word_65 : decode cX11_word 65 = .ok (.iconst 0, 1) := by decide +kernel
theorem dX11_word_66 : decode cX11_word 66 = .ok (.istore 4, 2) := by decide +kernel
theorem dX11_word_68 : decode cX11_word 68 = .ok (.iload 4, 2) := by decide +kernel
theorem dX11_word_70 : decode cX11_word 70 = .ok (.ifCond .eq 20, 3) := by decide +kernel
theorem dX11_word_73 : decode cX11_word 73 = .ok (.aload_n 0, 1) := by decide +kernel
theorem dX11_word_74 : decode cX11_word 74 = .ok (.getfield 21, 3) := by decide +kernel
theorem dX11_word_77 : decode cX11_word 77 = .ok (.aload_n 0, 1) := by decide +kernel
theorem dX11_word_78 : decode cX11_word 78 = .ok (.getfield 14, 3) := by decide +kernel
theorem dX11_word_81 : decode cX11_word 81 = .ok (.iload_n 1, 1) := by decide +kernel
theorem dX11_word_82 : decode cX11_word 82 = .ok (.iload_n 2, 1) := by decide +kernel
theorem dX11_word_83 : decode cX11_word 83 = .ok (.iload_n 3, 1) := by decide +kernel
theorem dX11_word_84 : decode cX11_word 84 = .ok (.invokevirtual 92, 3) := by decide +kernel
theorem dX11_word_87 : decode cX11_word 87 = .ok (.goto 5, 3) := by decide +kernel
theorem dX11_word_90 : decode cX11_word 90 = .ok (.bipush (-3), 2) := by decide +kernel
theorem dX11_word_92 : decode cX11_word 92 = .ok (.istore 5, 2) := by decide +kernel
theorem dX11_word_94 : decode cX11_word 94 = .ok (.aload_n 0, 1) := by decide +kernel
theorem dX11_word_95 : decode cX11_word 95 = .ok (.getfield 14, 3) := by decide +kernel
theorem dX11_word_98 : decode cX11_word 98 = .ok (.invokevirtual 96, 3) := by decide +kernel
theorem dX11_word_101 : decode cX11_word 101 = .ok (.iload 5, 2) := by decide +kernel
theorem dX11_word_103 : decode cX11_word 103 = .ok (.ireturn, 1) := by decide +kernel
theorem dX11_ending_0 : decode cX11_ending 0 = .ok (.aload_n 0, 1) := by decide +kernel
theorem dX11_ending_1 : decode cX11_ending 1 = .ok (.getfield 21, 3) := by decide +kernel
theorem dX11_ending_4 : decode cX11_ending 4 = .ok (.iload_n 1, 1) := by decide +kernel
theorem dX11_ending_5 : decode cX11_ending 5 = .ok (.iload_n 2, 1) := by decide +kernel
theorem dX11_ending_6 : decode cX11_ending 6 = .ok (.iload_n 3, 1) := by decide +kernel
theorem dX11_ending_7 : decode cX11_ending 7 = .ok (.invokevirtual 99, 3) := by decide +kernel
theorem dX11_ending_10 : decode cX11_ending 10 = .ok (.astore 4, 2) := by decide +kernel
theorem dX11_ending_12 : decode cX11_ending 12 = .ok (.aload 4, 2) := by decide +kernel
theorem dX11_ending_14 : decode cX11_ending 14 = .ok (.ifnonnull 6, 3) := by decide +kernel
theorem dX11_ending_17 : decode cX11_ending 17 = .ok (.bipush (-2), 2) := by decide +kernel
theorem dX11_ending_19 : decode cX11_ending 19 = .ok (.ireturn, 1) := by decide +kernel
theorem dX11_ending_20 : decode cX11_ending 20 = .ok (.bipush (-3), 2) := by decide +kernel
theorem dX11_ending_22 : decode cX11_ending 22 = .ok (.istore 5, 2) := by decide +kernel
theorem dX11_ending_24 : decode cX11_ending 24 = .ok (.aload_n 0, 1) := by decide +kernel
theorem dX11_ending_25 : decode cX11_ending 25 = .ok (.getfield 14, 3) := by decide +kernel
theorem dX11_ending_28 : decode cX11_ending 28 = .ok (.getfield 77, 3) := by decide +kernel
theorem dX11_ending_31 : decode cX11_ending 31 = .ok (.iconst 3, 1) := by decide +kernel
theorem dX11_ending_32 : decode cX11_ending 32 = .ok (.if_icmp .gt 29, 3) := by decide +kernel
theorem dX11_ending_35 : decode cX11_ending 35 = .ok (.aload_n 0, 1) := by decide +kernel
theorem dX11_ending_36 : decode cX11_ending 36 = .ok (.getfield 14, 3) := by decide +kernel
theorem dX11_ending_39 : decode cX11_ending 39 = .ok (.invokevirtual 88, 3) := by decide +kernel
theorem dX11_ending_42 : decode cX11_ending 42 = .ok (.ifCond .eq 19, 3) := by decide +kernel
theorem dX11_ending_45 : decode cX11_ending 45 = .ok (.aload 4, 2) := by decide +kernel
theorem dX11_ending_47 : decode cX11_ending 47 = .ok (.getfield 77, 3) := by decide +kernel
theorem dX11_ending_50 : decode cX11_ending 50 = .ok (.istore 5, 2) := by decide +kernel
theorem dX11_ending_52 : decode cX11_ending 52 = .ok (.aload 4, 2) := by decide +kernel
theorem dX11_ending_54 : decode cX11_ending 54 = .ok (.aload_n 0, 1) := by decide +kernel
theorem dX11_ending_55 : decode cX11_ending 55 = .ok (.getfield 14, 3) := by decide +kernel
theorem dX11_ending_58 : decode cX11_ending 58 = .ok (.invokevirtual 103, 3) := by decide +kernel
theorem dX11_ending_61 : decode cX11_ending 61 = .ok (.aload_n 0, 1) := by decide +kernel
theorem dX11_ending_62 : decode cX11_ending 62 = .ok (.getfield 14, 3) := by decide +kernel
theorem dX11_ending_65 : decode cX11_ending 65 = .ok (.invokevirtual 96, 3) := by decide +kernel
theorem dX11_ending_68 : decode cX11_ending 68 = .ok (.iload 5, 2) := by decide +kernel
theorem dX11_ending_70 : decode cX11_ending 70 = .ok (.ireturn, 1) := by decide +kernel
theorem dX11_frame_0 : decode cX11_frame 0 = .ok (.aload_n 0, 1) := by decide +kernel
theorem dX11_frame_1 : decode cX11_frame 1 = .ok (.getfield 31, 3) := by decide +kernel
theorem dX11_frame_4 : decode cX11_frame 4 = .ok (.aload_n 0, 1) := by decide +kernel
theorem dX11_frame_5 : decode cX11_frame 5 = .ok (.getfield 21, 3) := by decide +kernel
theorem dX11_frame_8 : decode cX11_frame 8 = .ok (.aload_n 0, 1) := by decide +kernel
theorem dX11_frame_9 : decode cX11_frame 9 = .ok (.getfield 14, 3) := by decide +kernel
theorem dX11_frame_12 : decode cX11_frame 12 = .ok (.invokevirtual 107, 3) := by decide +kernel
theorem dX11_frame_15 : decode cX11_frame 15 = .ok (.istore_n 1, 1) := by decide +kernel
theorem dX11_frame_16 : decode cX11_frame 16 = .ok (.aload_n 0, 1) := by decide +kernel
theorem dX11_frame_17 : decode cX11_frame 17 = .ok (.getfield 14, 3) := by decide +kernel
theorem dX11_frame_20 : decode cX11_frame 20 = .ok (.invokevirtual 96, 3) := by decide +kernel
theorem dX11_frame_23 : decode cX11_frame 23 = .ok (.iload_n 1, 1) := by decide +kernel
theorem dX11_frame_24 : decode cX11_frame 24 = .ok (.iconst (-1), 1) := by decide +kernel
theorem dX11_frame_25 : decode cX11_frame 25 = .ok (.if_icmp .ne 20, 3) := by decide +kernel
theorem dX11_frame_28 : decode cX11_frame 28 = .ok (.aload_n 0, 1) := by decide +kernel
theorem dX11_frame_29 : decode cX11_frame 29 = .ok (.getfield 21, 3) := by decide +kernel
theorem dX11_frame_32 : decode cX11_frame 32 = .ok (.aload_n 0, 1) := by decide +kernel
theorem dX11_frame_33 : decode cX11_frame 33 = .ok (.getfield 31, 3) := by decide +kernel
theorem dX11_frame_36 : decode cX11_frame 36 = .ok (.getfield 111, 3) := by decide +kernel
theorem dX11_frame_39 : decode cX11_frame 39 = .ok (.invokevirtual 115, 3) := by decide +kernel
theorem dX11_frame_42 : decode cX11_frame 42 = .ok (.goto 7, 3) := by decide +kernel
theorem dX11_frame_45 : decode cX11_frame 45 = .ok (.bipush (-100), 2) := by decide +kernel
theorem dX11_frame_47 : decode cX11_frame 47 = .ok (.iload_n 1, 1) := by decide +kernel
theorem dX11_frame_48 : decode cX11_frame 48 = .ok (.isub, 1) := by decide +kernel
theorem dX11_frame_49 : decode cX11_frame 49 = .ok (.ireturn, 1) := by decide +kernel
theorem dX11_told_0 : decode cX11_told 0 = .ok (.aload_n 0, 1) := by decide +kernel
theorem dX11_told_1 : decode cX11_told 1 = .ok (.getfield 21, 3) := by decide +kernel
theorem dX11_told_4 : decode cX11_told 4 = .ok (.iload_n 1, 1) := by decide +kernel
theorem dX11_told_5 : decode cX11_told 5 = .ok (.invokevirtual 119, 3) := by decide +kernel
theorem dX11_told_8 : decode cX11_told 8 = .ok (.astore_n 3, 1) := by decide +kernel
theorem dX11_told_9 : decode cX11_told 9 = .ok (.aload_n 3, 1) := by decide +kernel
theorem dX11_told_10 : decode cX11_told 10 = .ok (.ifnonnull 6, 3) := by decide +kernel
theorem dX11_told_13 : decode cX11_told 13 = .ok (.bipush (-2), 2) := by decide +kernel
theorem dX11_told_15 : decode cX11_told 15 = .ok (.ireturn, 1) := by decide +kernel
theorem dX11_told_16 : decode cX11_told 16 = .ok (.iload_n 2, 1) := by decide +kernel
theorem dX11_told_17 : decode cX11_told 17 = .ok (.tableswitch 54 0 3 #[31, 36, 41, 46], 31) := by decide +kernel
theorem dX11_told_48 : decode cX11_told 48 = .ok (.aload_n 3, 1) := by decide +kernel
theorem dX11_told_49 : decode cX11_told 49 = .ok (.getfield 123, 3) := by decide +kernel
theorem dX11_told_52 : decode cX11_told 52 = .ok (.ireturn, 1) := by decide +kernel
theorem dX11_told_53 : decode cX11_told 53 = .ok (.aload_n 3, 1) := by decide +kernel
theorem dX11_told_54 : decode cX11_told 54 = .ok (.getfield 128, 3) := by decide +kernel
theorem dX11_told_57 : decode cX11_told 57 = .ok (.ireturn, 1) := by decide +kernel
theorem dX11_told_58 : decode cX11_told 58 = .ok (.aload_n 3, 1) := by decide +kernel
theorem dX11_told_59 : decode cX11_told 59 = .ok (.getfield 131, 3) := by decide +kernel
theorem dX11_told_62 : decode cX11_told 62 = .ok (.ireturn, 1) := by decide +kernel
theorem dX11_told_63 : decode cX11_told 63 = .ok (.aload_n 3, 1) := by decide +kernel
theorem dX11_told_64 : decode cX11_told 64 = .ok (.getfield 134, 3) := by decide +kernel
theorem dX11_told_67 : decode cX11_told 67 = .ok (.getfield 77, 3) := by decide +kernel
theorem dX11_told_70 : decode cX11_told 70 = .ok (.ireturn, 1) := by decide +kernel
theorem dX11_told_71 : decode cX11_told 71 = .ok (.bipush (-2), 2) := by decide +kernel
theorem dX11_told_73 : decode cX11_told 73 = .ok (.ireturn, 1) := by decide +kernel
theorem dX11_taken_0 : decode cX11_taken 0 = .ok (.aload_n 0, 1) := by decide +kernel
theorem dX11_taken_1 : decode cX11_taken 1 = .ok (.getfield 21, 3) := by decide +kernel
theorem dX11_taken_4 : decode cX11_taken 4 = .ok (.iload_n 1, 1) := by decide +kernel
theorem dX11_taken_5 : decode cX11_taken 5 = .ok (.invokevirtual 119, 3) := by decide +kernel
theorem dX11_taken_8 : decode cX11_taken 8 = .ok (.astore_n 3, 1) := by decide +kernel
theorem dX11_taken_9 : decode cX11_taken 9 = .ok (.aload_n 3, 1) := by decide +kernel
theorem dX11_taken_10 : decode cX11_taken 10 = .ok (.ifnull 12, 3) := by decide +kernel
theorem dX11_taken_13 : decode cX11_taken 13 = .ok (.iload_n 2, 1) := by decide +kernel
theorem dX11_taken_14 : decode cX11_taken 14 = .ok (.bipush 6, 2) := by decide +kernel
theorem dX11_taken_16 : decode cX11_taken 16 = .ok (.invokestatic 84, 3) := by decide +kernel
theorem dX11_taken_19 : decode cX11_taken 19 = .ok (.ifCond .ne 6, 3) := by decide +kernel
theorem dX11_taken_22 : decode cX11_taken 22 = .ok (.bipush (-2), 2) := by decide +kernel
theorem dX11_taken_24 : decode cX11_taken 24 = .ok (.ireturn, 1) := by decide +kernel
theorem dX11_taken_25 : decode cX11_taken 25 = .ok (.aload_n 3, 1) := by decide +kernel
theorem dX11_taken_26 : decode cX11_taken 26 = .ok (.iload_n 2, 1) := by decide +kernel
theorem dX11_taken_27 : decode cX11_taken 27 = .ok (.invokevirtual 137, 3) := by decide +kernel
theorem dX11_taken_30 : decode cX11_taken 30 = .ok (.ifCond .ne 6, 3) := by decide +kernel
theorem dX11_taken_33 : decode cX11_taken 33 = .ok (.bipush (-13), 2) := by decide +kernel
theorem dX11_taken_35 : decode cX11_taken 35 = .ok (.ireturn, 1) := by decide +kernel
theorem dX11_taken_36 : decode cX11_taken 36 = .ok (.aload_n 0, 1) := by decide +kernel
theorem dX11_taken_37 : decode cX11_taken 37 = .ok (.getfield 21, 3) := by decide +kernel
theorem dX11_taken_40 : decode cX11_taken 40 = .ok (.aload_n 3, 1) := by decide +kernel
theorem dX11_taken_41 : decode cX11_taken 41 = .ok (.iconst 5, 1) := by decide +kernel
theorem dX11_taken_42 : decode cX11_taken 42 = .ok (.aload_n 3, 1) := by decide +kernel
theorem dX11_taken_43 : decode cX11_taken 43 = .ok (.getfield 131, 3) := by decide +kernel
theorem dX11_taken_46 : decode cX11_taken 46 = .ok (.bipush 8, 2) := by decide +kernel
theorem dX11_taken_48 : decode cX11_taken 48 = .ok (.imul, 1) := by decide +kernel
theorem dX11_taken_49 : decode cX11_taken 49 = .ok (.iadd, 1) := by decide +kernel
theorem dX11_taken_50 : decode cX11_taken 50 = .ok (.bipush 24, 2) := by decide +kernel
theorem dX11_taken_52 : decode cX11_taken 52 = .ok (.iadd, 1) := by decide +kernel
theorem dX11_taken_53 : decode cX11_taken 53 = .ok (.aload_n 0, 1) := by decide +kernel
theorem dX11_taken_54 : decode cX11_taken 54 = .ok (.getfield 35, 3) := by decide +kernel
theorem dX11_taken_57 : decode cX11_taken 57 = .ok (.invokevirtual 141, 3) := by decide +kernel
theorem dX11_taken_60 : decode cX11_taken 60 = .ok (.aload_n 0, 1) := by decide +kernel
theorem dX11_taken_61 : decode cX11_taken 61 = .ok (.getfield 35, 3) := by decide +kernel
theorem dX11_taken_64 : decode cX11_taken 64 = .ok (.getfield 77, 3) := by decide +kernel
theorem dX11_taken_67 : decode cX11_taken 67 = .ok (.ireturn, 1) := by decide +kernel
theorem dX11_form_0 : decode cX11_form 0 = .ok (.aload_n 0, 1) := by decide +kernel
theorem dX11_form_1 : decode cX11_form 1 = .ok (.getfield 21, 3) := by decide +kernel
theorem dX11_form_4 : decode cX11_form 4 = .ok (.iload_n 1, 1) := by decide +kernel
theorem dX11_form_5 : decode cX11_form 5 = .ok (.invokevirtual 119, 3) := by decide +kernel
theorem dX11_form_8 : decode cX11_form 8 = .ok (.astore 4, 2) := by decide +kernel
theorem dX11_form_10 : decode cX11_form 10 = .ok (.aload 4, 2) := by decide +kernel
theorem dX11_form_12 : decode cX11_form 12 = .ok (.ifnull 12, 3) := by decide +kernel
theorem dX11_form_15 : decode cX11_form 15 = .ok (.iload_n 2, 1) := by decide +kernel
theorem dX11_form_16 : decode cX11_form 16 = .ok (.bipush 96, 2) := by decide +kernel
theorem dX11_form_18 : decode cX11_form 18 = .ok (.invokestatic 84, 3) := by decide +kernel
theorem dX11_form_21 : decode cX11_form 21 = .ok (.ifCond .ne 6, 3) := by decide +kernel
theorem dX11_form_24 : decode cX11_form 24 = .ok (.bipush (-2), 2) := by decide +kernel
theorem dX11_form_26 : decode cX11_form 26 = .ok (.ireturn, 1) := by decide +kernel
theorem dX11_form_27 : decode cX11_form 27 = .ok (.aload_n 0, 1) := by decide +kernel
theorem dX11_form_28 : decode cX11_form 28 = .ok (.getfield 21, 3) := by decide +kernel
theorem dX11_form_31 : decode cX11_form 31 = .ok (.aload 4, 2) := by decide +kernel
theorem dX11_form_33 : decode cX11_form 33 = .ok (.iload_n 2, 1) := by decide +kernel
theorem dX11_form_34 : decode cX11_form 34 = .ok (.aload_n 0, 1) := by decide +kernel
theorem dX11_form_35 : decode cX11_form 35 = .ok (.getfield 35, 3) := by decide +kernel
theorem dX11_form_38 : decode cX11_form 38 = .ok (.invokevirtual 141, 3) := by decide +kernel
theorem dX11_form_41 : decode cX11_form 41 = .ok (.aload_n 0, 1) := by decide +kernel
theorem dX11_form_42 : decode cX11_form 42 = .ok (.getfield 35, 3) := by decide +kernel
theorem dX11_form_45 : decode cX11_form 45 = .ok (.iload_n 3, 1) := by decide +kernel
theorem dX11_form_46 : decode cX11_form 46 = .ok (.invokestatic 145, 3) := by decide +kernel
theorem dX11_form_49 : decode cX11_form 49 = .ok (.ireturn, 1) := by decide +kernel
theorem dX11_hole_0 : decode cX11_hole 0 = .ok (.aload_n 0, 1) := by decide +kernel
theorem dX11_hole_1 : decode cX11_hole 1 = .ok (.getfield 21, 3) := by decide +kernel
theorem dX11_hole_4 : decode cX11_hole 4 = .ok (.iload_n 1, 1) := by decide +kernel
theorem dX11_hole_5 : decode cX11_hole 5 = .ok (.invokevirtual 149, 3) := by decide +kernel
theorem dX11_hole_8 : decode cX11_hole 8 = .ok (.astore 4, 2) := by decide +kernel
theorem dX11_hole_10 : decode cX11_hole 10 = .ok (.aload 4, 2) := by decide +kernel
theorem dX11_hole_12 : decode cX11_hole 12 = .ok (.ifnull 12, 3) := by decide +kernel
theorem dX11_hole_15 : decode cX11_hole 15 = .ok (.iload_n 3, 1) := by decide +kernel
theorem dX11_hole_16 : decode cX11_hole 16 = .ok (.ifCond .lt 8, 3) := by decide +kernel
theorem dX11_hole_19 : decode cX11_hole 19 = .ok (.iload_n 3, 1) := by decide +kernel
theorem dX11_hole_20 : decode cX11_hole 20 = .ok (.iconst 4, 1) := by decide +kernel
theorem dX11_hole_21 : decode cX11_hole 21 = .ok (.if_icmp .le 6, 3) := by decide +kernel
theorem dX11_hole_24 : decode cX11_hole 24 = .ok (.bipush (-2), 2) := by decide +kernel
theorem dX11_hole_26 : decode cX11_hole 26 = .ok (.ireturn, 1) := by decide +kernel
theorem dX11_hole_27 : decode cX11_hole 27 = .ok (.aload 4, 2) := by decide +kernel
theorem dX11_hole_29 : decode cX11_hole 29 = .ok (.iload_n 2, 1) := by decide +kernel
theorem dX11_hole_30 : decode cX11_hole 30 = .ok (.invokevirtual 153, 3) := by decide +kernel
theorem dX11_hole_33 : decode cX11_hole 33 = .ok (.ifCond .ne 6, 3) := by decide +kernel
theorem dX11_hole_36 : decode cX11_hole 36 = .ok (.bipush (-12), 2) := by decide +kernel
theorem dX11_hole_38 : decode cX11_hole 38 = .ok (.ireturn, 1) := by decide +kernel
theorem dX11_hole_39 : decode cX11_hole 39 = .ok (.iload_n 3, 1) := by decide +kernel
theorem dX11_hole_40 : decode cX11_hole 40 = .ok (.tableswitch 60 0 3 #[32, 39, 46, 53], 32) := by decide +kernel
theorem dX11_hole_72 : decode cX11_hole 72 = .ok (.aload 4, 2) := by decide +kernel
theorem dX11_hole_74 : decode cX11_hole 74 = .ok (.iload_n 2, 1) := by decide +kernel
theorem dX11_hole_75 : decode cX11_hole 75 = .ok (.invokevirtual 158, 3) := by decide +kernel
theorem dX11_hole_78 : decode cX11_hole 78 = .ok (.ireturn, 1) := by decide +kernel
theorem dX11_hole_79 : decode cX11_hole 79 = .ok (.aload 4, 2) := by decide +kernel
theorem dX11_hole_81 : decode cX11_hole 81 = .ok (.iload_n 2, 1) := by decide +kernel
theorem dX11_hole_82 : decode cX11_hole 82 = .ok (.invokevirtual 162, 3) := by decide +kernel
theorem dX11_hole_85 : decode cX11_hole 85 = .ok (.ireturn, 1) := by decide +kernel
theorem dX11_hole_86 : decode cX11_hole 86 = .ok (.aload 4, 2) := by decide +kernel
theorem dX11_hole_88 : decode cX11_hole 88 = .ok (.iload_n 2, 1) := by decide +kernel
theorem dX11_hole_89 : decode cX11_hole 89 = .ok (.invokevirtual 165, 3) := by decide +kernel
theorem dX11_hole_92 : decode cX11_hole 92 = .ok (.ireturn, 1) := by decide +kernel
theorem dX11_hole_93 : decode cX11_hole 93 = .ok (.aload 4, 2) := by decide +kernel
theorem dX11_hole_95 : decode cX11_hole 95 = .ok (.iload_n 2, 1) := by decide +kernel
theorem dX11_hole_96 : decode cX11_hole 96 = .ok (.invokevirtual 168, 3) := by decide +kernel
theorem dX11_hole_99 : decode cX11_hole 99 = .ok (.ireturn, 1) := by decide +kernel
theorem dX11_hole_100 : decode cX11_hole 100 = .ok (.aload_n 0, 1) := by decide +kernel
theorem dX11_hole_101 : decode cX11_hole 101 = .ok (.getfield 21, 3) := by decide +kernel
theorem dX11_hole_104 : decode cX11_hole 104 = .ok (.aload 4, 2) := by decide +kernel
theorem dX11_hole_106 : decode cX11_hole 106 = .ok (.iload_n 2, 1) := by decide +kernel
theorem dX11_hole_107 : decode cX11_hole 107 = .ok (.invokevirtual 171, 3) := by decide +kernel
theorem dX11_hole_110 : decode cX11_hole 110 = .ok (.ireturn, 1) := by decide +kernel
theorem dX11_desk_0 : decode cX11_desk 0 = .ok (.aload_n 0, 1) := by decide +kernel
theorem dX11_desk_1 : decode cX11_desk 1 = .ok (.getfield 21, 3) := by decide +kernel
theorem dX11_desk_4 : decode cX11_desk 4 = .ok (.iload_n 1, 1) := by decide +kernel
theorem dX11_desk_5 : decode cX11_desk 5 = .ok (.invokevirtual 149, 3) := by decide +kernel
theorem dX11_desk_8 : decode cX11_desk 8 = .ok (.astore_n 3, 1) := by decide +kernel
theorem dX11_desk_9 : decode cX11_desk 9 = .ok (.aload_n 3, 1) := by decide +kernel
theorem dX11_desk_10 : decode cX11_desk 10 = .ok (.ifnull 11, 3) := by decide +kernel
theorem dX11_desk_13 : decode cX11_desk 13 = .ok (.iload_n 2, 1) := by decide +kernel
theorem dX11_desk_14 : decode cX11_desk 14 = .ok (.iconst 4, 1) := by decide +kernel
theorem dX11_desk_15 : decode cX11_desk 15 = .ok (.invokestatic 84, 3) := by decide +kernel
theorem dX11_desk_18 : decode cX11_desk 18 = .ok (.ifCond .ne 6, 3) := by decide +kernel
theorem dX11_desk_21 : decode cX11_desk 21 = .ok (.bipush (-2), 2) := by decide +kernel
theorem dX11_desk_23 : decode cX11_desk 23 = .ok (.ireturn, 1) := by decide +kernel
theorem dX11_desk_24 : decode cX11_desk 24 = .ok (.aload_n 0, 1) := by decide +kernel
theorem dX11_desk_25 : decode cX11_desk 25 = .ok (.getfield 21, 3) := by decide +kernel
theorem dX11_desk_28 : decode cX11_desk 28 = .ok (.getfield 175, 3) := by decide +kernel
theorem dX11_desk_31 : decode cX11_desk 31 = .ok (.iload_n 1, 1) := by decide +kernel
theorem dX11_desk_32 : decode cX11_desk 32 = .ok (.iload_n 2, 1) := by decide +kernel
theorem dX11_desk_33 : decode cX11_desk 33 = .ok (.invokevirtual 179, 3) := by decide +kernel
theorem dX11_desk_36 : decode cX11_desk 36 = .ok (.iconst 0, 1) := by decide +kernel
theorem dX11_desk_37 : decode cX11_desk 37 = .ok (.istore 4, 2) := by decide +kernel
theorem dX11_desk_39 : decode cX11_desk 39 = .ok (.iload 4, 2) := by decide +kernel
theorem dX11_desk_41 : decode cX11_desk 41 = .ok (.aload_n 3, 1) := by decide +kernel
theorem dX11_desk_42 : decode cX11_desk 42 = .ok (.getfield 185, 3) := by decide +kernel
theorem dX11_desk_45 : decode cX11_desk 45 = .ok (.if_icmp .ge 32, 3) := by decide +kernel
theorem dX11_desk_48 : decode cX11_desk 48 = .ok (.aload_n 0, 1) := by decide +kernel
theorem dX11_desk_49 : decode cX11_desk 49 = .ok (.getfield 21, 3) := by decide +kernel
theorem dX11_desk_52 : decode cX11_desk 52 = .ok (.getfield 175, 3) := by decide +kernel
theorem dX11_desk_55 : decode cX11_desk 55 = .ok (.iload 4, 2) := by decide +kernel
theorem dX11_desk_57 : decode cX11_desk 57 = .ok (.aload_n 0, 1) := by decide +kernel
theorem dX11_desk_58 : decode cX11_desk 58 = .ok (.getfield 21, 3) := by decide +kernel
theorem dX11_desk_61 : decode cX11_desk 61 = .ok (.aload_n 3, 1) := by decide +kernel
theorem dX11_desk_62 : decode cX11_desk 62 = .ok (.iload 4, 2) := by decide +kernel
theorem dX11_desk_64 : decode cX11_desk 64 = .ok (.iconst 0, 1) := by decide +kernel
theorem dX11_desk_65 : decode cX11_desk 65 = .ok (.invokevirtual 186, 3) := by decide +kernel
theorem dX11_desk_68 : decode cX11_desk 68 = .ok (.invokevirtual 190, 3) := by decide +kernel
theorem dX11_desk_71 : decode cX11_desk 71 = .ok (.iinc 4 1, 3) := by decide +kernel
theorem dX11_desk_74 : decode cX11_desk 74 = .ok (.goto (-35), 3) := by decide +kernel
theorem dX11_desk_77 : decode cX11_desk 77 = .ok (.aload_n 3, 1) := by decide +kernel
theorem dX11_desk_78 : decode cX11_desk 78 = .ok (.getfield 185, 3) := by decide +kernel
theorem dX11_desk_81 : decode cX11_desk 81 = .ok (.ireturn, 1) := by decide +kernel
theorem dX11_choose_0 : decode cX11_choose 0 = .ok (.aload_n 0, 1) := by decide +kernel
theorem dX11_choose_1 : decode cX11_choose 1 = .ok (.getfield 21, 3) := by decide +kernel
theorem dX11_choose_4 : decode cX11_choose 4 = .ok (.iload_n 2, 1) := by decide +kernel
theorem dX11_choose_5 : decode cX11_choose 5 = .ok (.invokevirtual 119, 3) := by decide +kernel
theorem dX11_choose_8 : decode cX11_choose 8 = .ok (.astore_n 3, 1) := by decide +kernel
theorem dX11_choose_9 : decode cX11_choose 9 = .ok (.aload_n 3, 1) := by decide +kernel
theorem dX11_choose_10 : decode cX11_choose 10 = .ok (.ifnonnull 6, 3) := by decide +kernel
theorem dX11_choose_13 : decode cX11_choose 13 = .ok (.bipush (-2), 2) := by decide +kernel
theorem dX11_choose_15 : decode cX11_choose 15 = .ok (.ireturn, 1) := by decide +kernel
theorem dX11_choose_16 : decode cX11_choose 16 = .ok (.aload_n 0, 1) := by decide +kernel
theorem dX11_choose_17 : decode cX11_choose 17 = .ok (.getfield 21, 3) := by decide +kernel
theorem dX11_choose_20 : decode cX11_choose 20 = .ok (.aload_n 0, 1) := by decide +kernel
theorem dX11_choose_21 : decode cX11_choose 21 = .ok (.getfield 21, 3) := by decide +kernel
theorem dX11_choose_24 : decode cX11_choose 24 = .ok (.getfield 175, 3) := by decide +kernel
theorem dX11_choose_27 : decode cX11_choose 27 = .ok (.getfield 193, 3) := by decide +kernel
theorem dX11_choose_30 : decode cX11_choose 30 = .ok (.invokevirtual 149, 3) := by decide +kernel
theorem dX11_choose_33 : decode cX11_choose 33 = .ok (.astore 4, 2) := by decide +kernel
theorem dX11_choose_35 : decode cX11_choose 35 = .ok (.aload 4, 2) := by decide +kernel
theorem dX11_choose_37 : decode cX11_choose 37 = .ok (.ifnonnull 6, 3) := by decide +kernel
theorem dX11_choose_40 : decode cX11_choose 40 = .ok (.bipush (-3), 2) := by decide +kernel
theorem dX11_choose_42 : decode cX11_choose 42 = .ok (.ireturn, 1) := by decide +kernel
theorem dX11_choose_43 : decode cX11_choose 43 = .ok (.aload 4, 2) := by decide +kernel
theorem dX11_choose_45 : decode cX11_choose 45 = .ok (.iload_n 1, 1) := by decide +kernel
theorem dX11_choose_46 : decode cX11_choose 46 = .ok (.invokevirtual 153, 3) := by decide +kernel
theorem dX11_choose_49 : decode cX11_choose 49 = .ok (.ifCond .ne 6, 3) := by decide +kernel
theorem dX11_choose_52 : decode cX11_choose 52 = .ok (.bipush (-12), 2) := by decide +kernel
theorem dX11_choose_54 : decode cX11_choose 54 = .ok (.ireturn, 1) := by decide +kernel
theorem dX11_choose_55 : decode cX11_choose 55 = .ok (.aload 4, 2) := by decide +kernel
theorem dX11_choose_57 : decode cX11_choose 57 = .ok (.iload_n 1, 1) := by decide +kernel
theorem dX11_choose_58 : decode cX11_choose 58 = .ok (.aload_n 3, 1) := by decide +kernel
theorem dX11_choose_59 : decode cX11_choose 59 = .ok (.invokevirtual 195, 3) := by decide +kernel
theorem dX11_choose_62 : decode cX11_choose 62 = .ok (.ifCond .ne 6, 3) := by decide +kernel
theorem dX11_choose_65 : decode cX11_choose 65 = .ok (.bipush (-13), 2) := by decide +kernel
theorem dX11_choose_67 : decode cX11_choose 67 = .ok (.ireturn, 1) := by decide +kernel
theorem dX11_choose_68 : decode cX11_choose 68 = .ok (.aload_n 0, 1) := by decide +kernel
theorem dX11_choose_69 : decode cX11_choose 69 = .ok (.getfield 21, 3) := by decide +kernel
theorem dX11_choose_72 : decode cX11_choose 72 = .ok (.getfield 175, 3) := by decide +kernel
theorem dX11_choose_75 : decode cX11_choose 75 = .ok (.iload_n 1, 1) := by decide +kernel
theorem dX11_choose_76 : decode cX11_choose 76 = .ok (.invokevirtual 199, 3) := by decide +kernel
theorem dX11_choose_79 : decode cX11_choose 79 = .ok (.istore 5, 2) := by decide +kernel
theorem dX11_choose_81 : decode cX11_choose 81 = .ok (.aload_n 0, 1) := by decide +kernel
theorem dX11_choose_82 : decode cX11_choose 82 = .ok (.getfield 21, 3) := by decide +kernel
theorem dX11_choose_85 : decode cX11_choose 85 = .ok (.getfield 175, 3) := by decide +kernel
theorem dX11_choose_88 : decode cX11_choose 88 = .ok (.iload_n 1, 1) := by decide +kernel
theorem dX11_choose_89 : decode cX11_choose 89 = .ok (.iload_n 2, 1) := by decide +kernel
theorem dX11_choose_90 : decode cX11_choose 90 = .ok (.invokevirtual 190, 3) := by decide +kernel
theorem dX11_choose_93 : decode cX11_choose 93 = .ok (.iload 5, 2) := by decide +kernel
theorem dX11_choose_95 : decode cX11_choose 95 = .ok (.ireturn, 1) := by decide +kernel
theorem dX11_number_0 : decode cX11_number 0 = .ok (.iload_n 1, 1) := by decide +kernel
theorem dX11_number_1 : decode cX11_number 1 = .ok (.iconst 3, 1) := by decide +kernel
theorem dX11_number_2 : decode cX11_number 2 = .ok (.invokestatic 84, 3) := by decide +kernel
theorem dX11_number_5 : decode cX11_number 5 = .ok (.ifCond .eq 11, 3) := by decide +kernel
theorem dX11_number_8 : decode cX11_number 8 = .ok (.iload_n 2, 1) := by decide +kernel
theorem dX11_number_9 : decode cX11_number 9 = .ok (.iconst 2, 1) := by decide +kernel
theorem dX11_number_10 : decode cX11_number 10 = .ok (.invokestatic 84, 3) := by decide +kernel
theorem dX11_number_13 : decode cX11_number 13 = .ok (.ifCond .ne 6, 3) := by decide +kernel
theorem dX11_number_16 : decode cX11_number 16 = .ok (.bipush (-2), 2) := by decide +kernel
theorem dX11_number_18 : decode cX11_number 18 = .ok (.ireturn, 1) := by decide +kernel
theorem dX11_number_19 : decode cX11_number 19 = .ok (.aload_n 0, 1) := by decide +kernel
theorem dX11_number_20 : decode cX11_number 20 = .ok (.getfield 21, 3) := by decide +kernel
theorem dX11_number_23 : decode cX11_number 23 = .ok (.getfield 175, 3) := by decide +kernel
theorem dX11_number_26 : decode cX11_number 26 = .ok (.getfield 193, 3) := by decide +kernel
theorem dX11_number_29 : decode cX11_number 29 = .ok (.iconst (-1), 1) := by decide +kernel
theorem dX11_number_30 : decode cX11_number 30 = .ok (.if_icmp .ne 6, 3) := by decide +kernel
theorem dX11_number_33 : decode cX11_number 33 = .ok (.bipush (-3), 2) := by decide +kernel
theorem dX11_number_35 : decode cX11_number 35 = .ok (.ireturn, 1) := by decide +kernel
theorem dX11_number_36 : decode cX11_number 36 = .ok (.aload_n 0, 1) := by decide +kernel
theorem dX11_number_37 : decode cX11_number 37 = .ok (.getfield 21, 3) := by decide +kernel
theorem dX11_number_40 : decode cX11_number 40 = .ok (.getfield 175, 3) := by decide +kernel
theorem dX11_number_43 : decode cX11_number 43 = .ok (.getfield 202, 3) := by decide +kernel
theorem dX11_number_46 : decode cX11_number 46 = .ok (.iload_n 1, 1) := by decide +kernel
theorem dX11_number_47 : decode cX11_number 47 = .ok (.ishr, 1) := by decide +kernel
theorem dX11_number_48 : decode cX11_number 48 = .ok (.iconst 1, 1) := by decide +kernel
theorem dX11_number_49 : decode cX11_number 49 = .ok (.iand, 1) := by decide +kernel
theorem dX11_number_50 : decode cX11_number 50 = .ok (.istore_n 3, 1) := by decide +kernel
theorem dX11_number_51 : decode cX11_number 51 = .ok (.aload_n 0, 1) := by decide +kernel
theorem dX11_number_52 : decode cX11_number 52 = .ok (.getfield 21, 3) := by decide +kernel
theorem dX11_number_55 : decode cX11_number 55 = .ok (.getfield 175, 3) := by decide +kernel
theorem dX11_number_58 : decode cX11_number 58 = .ok (.aload_n 0, 1) := by decide +kernel
theorem dX11_number_59 : decode cX11_number 59 = .ok (.getfield 21, 3) := by decide +kernel
theorem dX11_number_62 : decode cX11_number 62 = .ok (.getfield 175, 3) := by decide +kernel
theorem dX11_number_65 : decode cX11_number 65 = .ok (.getfield 202, 3) := by decide +kernel
theorem dX11_number_68 : decode cX11_number 68 = .ok (.iconst 1, 1) := by decide +kernel
theorem dX11_number_69 : decode cX11_number 69 = .ok (.iload_n 1, 1) := by decide +kernel
theorem dX11_number_70 : decode cX11_number 70 = .ok (.ishl, 1) := by decide +kernel
theorem dX11_number_71 : decode cX11_number 71 = .ok (.iconst (-1), 1) := by decide +kernel
theorem dX11_number_72 : decode cX11_number 72 = .ok (.ixor, 1) := by decide +kernel
theorem dX11_number_73 : decode cX11_number 73 = .ok (.iand, 1) := by decide +kernel
theorem dX11_number_74 : decode cX11_number 74 = .ok (.iload_n 2, 1) := by decide +kernel
theorem dX11_number_75 : decode cX11_number 75 = .ok (.iload_n 1, 1) := by decide +kernel
theorem dX11_number_76 : decode cX11_number 76 = .ok (.ishl, 1) := by decide +kernel
theorem dX11_number_77 : decode cX11_number 77 = .ok (.ior, 1) := by decide +kernel
theorem dX11_number_78 : decode cX11_number 78 = .ok (.putfield 202, 3) := by decide +kernel
theorem dX11_number_81 : decode cX11_number 81 = .ok (.iload_n 3, 1) := by decide +kernel
theorem dX11_number_82 : decode cX11_number 82 = .ok (.ireturn, 1) := by decide +kernel
theorem dX11_said_0 : decode cX11_said 0 = .ok (.aload_n 0, 1) := by decide +kernel
theorem dX11_said_1 : decode cX11_said 1 = .ok (.invokevirtual 205, 3) := by decide +kernel
theorem dX11_said_4 : decode cX11_said 4 = .ok (.pop, 1) := by decide +kernel
theorem dX11_said_5 : decode cX11_said 5 = .ok (.aload_n 0, 1) := by decide +kernel
theorem dX11_said_6 : decode cX11_said 6 = .ok (.getfield 41, 3) := by decide +kernel
theorem dX11_said_9 : decode cX11_said 9 = .ok (.getfield 208, 3) := by decide +kernel
theorem dX11_said_12 : decode cX11_said 12 = .ok (.iload_n 1, 1) := by decide +kernel
theorem dX11_said_13 : decode cX11_said 13 = .ok (.invokestatic 145, 3) := by decide +kernel
theorem dX11_said_16 : decode cX11_said 16 = .ok (.ireturn, 1) := by decide +kernel
theorem dX11_spoken_0 : decode cX11_spoken 0 = .ok (.iload_n 1, 1) := by decide +kernel
theorem dX11_spoken_1 : decode cX11_spoken 1 = .ok (.iconst 1, 1) := by decide +kernel
theorem dX11_spoken_2 : decode cX11_spoken 2 = .ok (.if_icmp .lt 9, 3) := by decide +kernel
theorem dX11_spoken_5 : decode cX11_spoken 5 = .ok (.iload_n 1, 1) := by decide +kernel
theorem dX11_spoken_6 : decode cX11_spoken 6 = .ok (.bipush 99, 2) := by decide +kernel
theorem dX11_spoken_8 : decode cX11_spoken 8 = .ok (.if_icmp .le 6, 3) := by decide +kernel
theorem dX11_spoken_11 : decode cX11_spoken 11 = .ok (.bipush (-2), 2) := by decide +kernel
theorem dX11_spoken_13 : decode cX11_spoken 13 = .ok (.ireturn, 1) := by decide +kernel
theorem dX11_spoken_14 : decode cX11_spoken 14 = .ok (.aload_n 0, 1) := by decide +kernel
theorem dX11_spoken_15 : decode cX11_spoken 15 = .ok (.invokevirtual 205, 3) := by decide +kernel
theorem dX11_spoken_18 : decode cX11_spoken 18 = .ok (.pop, 1) := by decide +kernel
theorem dX11_spoken_19 : decode cX11_spoken 19 = .ok (.aload_n 0, 1) := by decide +kernel
theorem dX11_spoken_20 : decode cX11_spoken 20 = .ok (.getfield 41, 3) := by decide +kernel
theorem dX11_spoken_23 : decode cX11_spoken 23 = .ok (.iload_n 1, 1) := by decide +kernel
theorem dX11_spoken_24 : decode cX11_spoken 24 = .ok (.invokevirtual 211, 3) := by decide +kernel
theorem dX11_spoken_27 : decode cX11_spoken 27 = .ok (.invokestatic 215, 3) := by decide +kernel
theorem dX11_spoken_30 : decode cX11_spoken 30 = .ok (.ireturn, 1) := by decide +kernel
theorem dX11_text_0 : decode cX11_text 0 = .ok (.bipush (-3), 2) := by decide +kernel
theorem dX11_text_2 : decode cX11_text 2 = .ok (.istore_n 1, 1) := by decide +kernel
theorem dX11_text_3 : decode cX11_text 3 = .ok (.aload_n 0, 1) := by decide +kernel
theorem dX11_text_4 : decode cX11_text 4 = .ok (.getfield 14, 3) := by decide +kernel
theorem dX11_text_7 : decode cX11_text 7 = .ok (.invokevirtual 219, 3) := by decide +kernel
theorem dX11_text_10 : decode cX11_text 10 = .ok (.ifCond .eq 28, 3) := by decide +kernel
theorem dX11_text_13 : decode cX11_text 13 = .ok (.aload_n 0, 1) := by decide +kernel
theorem dX11_text_14 : decode cX11_text 14 = .ok (.getfield 21, 3) := by decide +kernel
theorem dX11_text_17 : decode cX11_text 17 = .ok (.getfield 222, 3) := by decide +kernel
theorem dX11_text_20 : decode cX11_text 20 = .ok (.aload_n 0, 1) := by decide +kernel
theorem dX11_text_21 : decode cX11_text 21 = .ok (.getfield 14, 3) := by decide +kernel
theorem dX11_text_24 : decode cX11_text 24 = .ok (.invokevirtual 103, 3) := by decide +kernel
theorem dX11_text_27 : decode cX11_text 27 = .ok (.aload_n 0, 1) := by decide +kernel
theorem dX11_text_28 : decode cX11_text 28 = .ok (.getfield 21, 3) := by decide +kernel
theorem dX11_text_31 : decode cX11_text 31 = .ok (.getfield 222, 3) := by decide +kernel
theorem dX11_text_34 : decode cX11_text 34 = .ok (.invokevirtual 225, 3) := by decide +kernel
theorem dX11_text_37 : decode cX11_text 37 = .ok (.istore_n 1, 1) := by decide +kernel
theorem dX11_text_38 : decode cX11_text 38 = .ok (.aload_n 0, 1) := by decide +kernel
theorem dX11_text_39 : decode cX11_text 39 = .ok (.getfield 14, 3) := by decide +kernel
theorem dX11_text_42 : decode cX11_text 42 = .ok (.invokevirtual 96, 3) := by decide +kernel
theorem dX11_text_45 : decode cX11_text 45 = .ok (.iload_n 1, 1) := by decide +kernel
theorem dX11_text_46 : decode cX11_text 46 = .ok (.ireturn, 1) := by decide +kernel
theorem dX11_readings_0 : decode cX11_readings 0 = .ok (.iload_n 1, 1) := by decide +kernel
theorem dX11_readings_1 : decode cX11_readings 1 = .ok (.ifCond .lt 8, 3) := by decide +kernel
theorem dX11_readings_4 : decode cX11_readings 4 = .ok (.iload_n 1, 1) := by decide +kernel
theorem dX11_readings_5 : decode cX11_readings 5 = .ok (.iconst 2, 1) := by decide +kernel
theorem dX11_readings_6 : decode cX11_readings 6 = .ok (.if_icmp .le 6, 3) := by decide +kernel
theorem dX11_readings_9 : decode cX11_readings 9 = .ok (.bipush (-2), 2) := by decide +kernel
theorem dX11_readings_11 : decode cX11_readings 11 = .ok (.ireturn, 1) := by decide +kernel
theorem dX11_readings_12 : decode cX11_readings 12 = .ok (.aload_n 0, 1) := by decide +kernel
theorem dX11_readings_13 : decode cX11_readings 13 = .ok (.getfield 55, 3) := by decide +kernel
theorem dX11_readings_16 : decode cX11_readings 16 = .ok (.aload_n 0, 1) := by decide +kernel
theorem dX11_readings_17 : decode cX11_readings 17 = .ok (.getfield 21, 3) := by decide +kernel
theorem dX11_readings_20 : decode cX11_readings 20 = .ok (.aload_n 0, 1) := by decide +kernel
theorem dX11_readings_21 : decode cX11_readings 21 = .ok (.getfield 21, 3) := by decide +kernel
theorem dX11_readings_24 : decode cX11_readings 24 = .ok (.getfield 222, 3) := by decide +kernel
theorem dX11_readings_27 : decode cX11_readings 27 = .ok (.invokevirtual 229, 3) := by decide +kernel
theorem dX11_readings_30 : decode cX11_readings 30 = .ok (.iload_n 1, 1) := by decide +kernel
theorem dX11_readings_31 : decode cX11_readings 31 = .ok (.ifCond .ne 13, 3) := by decide +kernel
theorem dX11_readings_34 : decode cX11_readings 34 = .ok (.aload_n 0, 1) := by decide +kernel
theorem dX11_readings_35 : decode cX11_readings 35 = .ok (.getfield 55, 3) := by decide +kernel
theorem dX11_readings_38 : decode cX11_readings 38 = .ok (.getfield 233, 3) := by decide +kernel
theorem dX11_readings_41 : decode cX11_readings 41 = .ok (.goto 25, 3) := by decide +kernel
theorem dX11_readings_44 : decode cX11_readings 44 = .ok (.iload_n 1, 1) := by decide +kernel
theorem dX11_readings_45 : decode cX11_readings 45 = .ok (.iconst 1, 1) := by decide +kernel
theorem dX11_readings_46 : decode cX11_readings 46 = .ok (.if_icmp .ne 13, 3) := by decide +kernel
theorem dX11_readings_49 : decode cX11_readings 49 = .ok (.aload_n 0, 1) := by decide +kernel
theorem dX11_readings_50 : decode cX11_readings 50 = .ok (.getfield 55, 3) := by decide +kernel
theorem dX11_readings_53 : decode cX11_readings 53 = .ok (.getfield 236, 3) := by decide +kernel
theorem dX11_readings_56 : decode cX11_readings 56 = .ok (.goto 10, 3) := by decide +kernel
theorem dX11_readings_59 : decode cX11_readings 59 = .ok (.aload_n 0, 1) := by decide +kernel
theorem dX11_readings_60 : decode cX11_readings 60 = .ok (.getfield 55, 3) := by decide +kernel
theorem dX11_readings_63 : decode cX11_readings 63 = .ok (.getfield 239, 3) := by decide +kernel
theorem dX11_readings_66 : decode cX11_readings 66 = .ok (.ireturn, 1) := by decide +kernel
theorem dX11_near_0 : decode cX11_near 0 = .ok (.iload_n 1, 1) := by decide +kernel
theorem dX11_near_1 : decode cX11_near 1 = .ok (.ifCond .lt 8, 3) := by decide +kernel
theorem dX11_near_4 : decode cX11_near 4 = .ok (.iload_n 1, 1) := by decide +kernel
theorem dX11_near_5 : decode cX11_near 5 = .ok (.iconst 1, 1) := by decide +kernel
theorem dX11_near_6 : decode cX11_near 6 = .ok (.if_icmp .le 6, 3) := by decide +kernel
theorem dX11_near_9 : decode cX11_near 9 = .ok (.bipush (-2), 2) := by decide +kernel
theorem dX11_near_11 : decode cX11_near 11 = .ok (.ireturn, 1) := by decide +kernel
theorem dX11_near_12 : decode cX11_near 12 = .ok (.aload_n 0, 1) := by decide +kernel
theorem dX11_near_13 : decode cX11_near 13 = .ok (.getfield 55, 3) := by decide +kernel
theorem dX11_near_16 : decode cX11_near 16 = .ok (.aload_n 0, 1) := by decide +kernel
theorem dX11_near_17 : decode cX11_near 17 = .ok (.getfield 21, 3) := by decide +kernel
theorem dX11_near_20 : decode cX11_near 20 = .ok (.aload_n 0, 1) := by decide +kernel
theorem dX11_near_21 : decode cX11_near 21 = .ok (.getfield 21, 3) := by decide +kernel
theorem dX11_near_24 : decode cX11_near 24 = .ok (.getfield 222, 3) := by decide +kernel
theorem dX11_near_27 : decode cX11_near 27 = .ok (.invokevirtual 242, 3) := by decide +kernel
theorem dX11_near_30 : decode cX11_near 30 = .ok (.iload_n 1, 1) := by decide +kernel
theorem dX11_near_31 : decode cX11_near 31 = .ok (.ifCond .ne 13, 3) := by decide +kernel
theorem dX11_near_34 : decode cX11_near 34 = .ok (.aload_n 0, 1) := by decide +kernel
theorem dX11_near_35 : decode cX11_near 35 = .ok (.getfield 55, 3) := by decide +kernel
theorem dX11_near_38 : decode cX11_near 38 = .ok (.getfield 245, 3) := by decide +kernel
theorem dX11_near_41 : decode cX11_near 41 = .ok (.goto 10, 3) := by decide +kernel
theorem dX11_near_44 : decode cX11_near 44 = .ok (.aload_n 0, 1) := by decide +kernel
theorem dX11_near_45 : decode cX11_near 45 = .ok (.getfield 55, 3) := by decide +kernel
theorem dX11_near_48 : decode cX11_near 48 = .ok (.getfield 248, 3) := by decide +kernel
theorem dX11_near_51 : decode cX11_near 51 = .ok (.ireturn, 1) := by decide +kernel
theorem dX11_drawn_0 : decode cX11_drawn 0 = .ok (.iload_n 2, 1) := by decide +kernel
theorem dX11_drawn_1 : decode cX11_drawn 1 = .ok (.ifCond .lt 8, 3) := by decide +kernel
theorem dX11_drawn_4 : decode cX11_drawn 4 = .ok (.iload_n 2, 1) := by decide +kernel
theorem dX11_drawn_5 : decode cX11_drawn 5 = .ok (.iconst 1, 1) := by decide +kernel
theorem dX11_drawn_6 : decode cX11_drawn 6 = .ok (.if_icmp .le 6, 3) := by decide +kernel
theorem dX11_drawn_9 : decode cX11_drawn 9 = .ok (.bipush (-2), 2) := by decide +kernel
theorem dX11_drawn_11 : decode cX11_drawn 11 = .ok (.ireturn, 1) := by decide +kernel
theorem dX11_drawn_12 : decode cX11_drawn 12 = .ok (.aload_n 0, 1) := by decide +kernel
theorem dX11_drawn_13 : decode cX11_drawn 13 = .ok (.getfield 21, 3) := by decide +kernel
theorem dX11_drawn_16 : decode cX11_drawn 16 = .ok (.getfield 251, 3) := by decide +kernel
theorem dX11_drawn_19 : decode cX11_drawn 19 = .ok (.ifCond .ne 6, 3) := by decide +kernel
theorem dX11_drawn_22 : decode cX11_drawn 22 = .ok (.bipush (-3), 2) := by decide +kernel
theorem dX11_drawn_24 : decode cX11_drawn 24 = .ok (.ireturn, 1) := by decide +kernel
theorem dX11_drawn_25 : decode cX11_drawn 25 = .ok (.aload_n 0, 1) := by decide +kernel
theorem dX11_drawn_26 : decode cX11_drawn 26 = .ok (.iload_n 1, 1) := by decide +kernel
theorem dX11_drawn_27 : decode cX11_drawn 27 = .ok (.invokevirtual 254, 3) := by decide +kernel
theorem dX11_drawn_30 : decode cX11_drawn 30 = .ok (.ifCond .ne 5, 3) := by decide +kernel
theorem dX11_drawn_33 : decode cX11_drawn 33 = .ok (.iconst 0, 1) := by decide +kernel
theorem dX11_drawn_34 : decode cX11_drawn 34 = .ok (.ireturn, 1) := by decide +kernel
theorem dX11_drawn_35 : decode cX11_drawn 35 = .ok (.iload_n 2, 1) := by decide +kernel
theorem dX11_drawn_36 : decode cX11_drawn 36 = .ok (.iconst 1, 1) := by decide +kernel
theorem dX11_drawn_37 : decode cX11_drawn 37 = .ok (.if_icmp .ne 14, 3) := by decide +kernel
theorem dX11_drawn_40 : decode cX11_drawn 40 = .ok (.aload_n 0, 1) := by decide +kernel
theorem dX11_drawn_41 : decode cX11_drawn 41 = .ok (.getfield 41, 3) := by decide +kernel
theorem dX11_drawn_44 : decode cX11_drawn 44 = .ok (.getfield 208, 3) := by decide +kernel
theorem dX11_drawn_47 : decode cX11_drawn 47 = .ok (.getfield 77, 3) := by decide +kernel
theorem dX11_drawn_50 : decode cX11_drawn 50 = .ok (.ireturn, 1) := by decide +kernel
theorem dX11_drawn_51 : decode cX11_drawn 51 = .ok (.aload_n 0, 1) := by decide +kernel
theorem dX11_drawn_52 : decode cX11_drawn 52 = .ok (.getfield 55, 3) := by decide +kernel
theorem dX11_drawn_55 : decode cX11_drawn 55 = .ok (.aload_n 0, 1) := by decide +kernel
theorem dX11_drawn_56 : decode cX11_drawn 56 = .ok (.getfield 21, 3) := by decide +kernel
theorem dX11_drawn_59 : decode cX11_drawn 59 = .ok (.aload_n 0, 1) := by decide +kernel
theorem dX11_drawn_60 : decode cX11_drawn 60 = .ok (.getfield 41, 3) := by decide +kernel
theorem dX11_drawn_63 : decode cX11_drawn 63 = .ok (.getfield 208, 3) := by decide +kernel
theorem dX11_drawn_66 : decode cX11_drawn 66 = .ok (.invokevirtual 229, 3) := by decide +kernel
theorem dX11_drawn_69 : decode cX11_drawn 69 = .ok (.aload_n 0, 1) := by decide +kernel
theorem dX11_drawn_70 : decode cX11_drawn 70 = .ok (.getfield 55, 3) := by decide +kernel
theorem dX11_drawn_73 : decode cX11_drawn 73 = .ok (.getfield 233, 3) := by decide +kernel
theorem dX11_drawn_76 : decode cX11_drawn 76 = .ok (.ireturn, 1) := by decide +kernel
theorem dX11_chance_0 : decode cX11_chance 0 = .ok (.iload_n 2, 1) := by decide +kernel
theorem dX11_chance_1 : decode cX11_chance 1 = .ok (.iconst 1, 1) := by decide +kernel
theorem dX11_chance_2 : decode cX11_chance 2 = .ok (.if_icmp .lt 18, 3) := by decide +kernel
theorem dX11_chance_5 : decode cX11_chance 5 = .ok (.iload_n 2, 1) := by decide +kernel
theorem dX11_chance_6 : decode cX11_chance 6 = .ok (.bipush 8, 2) := by decide +kernel
theorem dX11_chance_8 : decode cX11_chance 8 = .ok (.if_icmp .gt 12, 3) := by decide +kernel
theorem dX11_chance_11 : decode cX11_chance 11 = .ok (.iload_n 3, 1) := by decide +kernel
theorem dX11_chance_12 : decode cX11_chance 12 = .ok (.ifCond .lt 8, 3) := by decide +kernel
theorem dX11_chance_15 : decode cX11_chance 15 = .ok (.iload_n 3, 1) := by decide +kernel
theorem dX11_chance_16 : decode cX11_chance 16 = .ok (.iconst 1, 1) := by decide +kernel
theorem dX11_chance_17 : decode cX11_chance 17 = .ok (.if_icmp .le 6, 3) := by decide +kernel
theorem dX11_chance_20 : decode cX11_chance 20 = .ok (.bipush (-2), 2) := by decide +kernel
theorem dX11_chance_22 : decode cX11_chance 22 = .ok (.ireturn, 1) := by decide +kernel
theorem dX11_chance_23 : decode cX11_chance 23 = .ok (.aload_n 0, 1) := by decide +kernel
theorem dX11_chance_24 : decode cX11_chance 24 = .ok (.getfield 21, 3) := by decide +kernel
theorem dX11_chance_27 : decode cX11_chance 27 = .ok (.getfield 251, 3) := by decide +kernel
theorem dX11_chance_30 : decode cX11_chance 30 = .ok (.ifCond .ne 6, 3) := by decide +kernel
theorem dX11_chance_33 : decode cX11_chance 33 = .ok (.bipush (-3), 2) := by decide +kernel
theorem dX11_chance_35 : decode cX11_chance 35 = .ok (.ireturn, 1) := by decide +kernel
theorem dX11_chance_36 : decode cX11_chance 36 = .ok (.iconst 0, 1) := by decide +kernel
theorem dX11_chance_37 : decode cX11_chance 37 = .ok (.istore 4, 2) := by decide +kernel
theorem dX11_chance_39 : decode cX11_chance 39 = .ok (.iconst 0, 1) := by decide +kernel
theorem dX11_chance_40 : decode cX11_chance 40 = .ok (.istore 5, 2) := by decide +kernel
theorem dX11_chance_42 : decode cX11_chance 42 = .ok (.iload 5, 2) := by decide +kernel
theorem dX11_chance_44 : decode cX11_chance 44 = .ok (.iload_n 2, 1) := by decide +kernel
theorem dX11_chance_45 : decode cX11_chance 45 = .ok (.if_icmp .ge 59, 3) := by decide +kernel
theorem dX11_chance_48 : decode cX11_chance 48 = .ok (.aload_n 0, 1) := by decide +kernel
theorem dX11_chance_49 : decode cX11_chance 49 = .ok (.iload_n 1, 1) := by decide +kernel
theorem dX11_chance_50 : decode cX11_chance 50 = .ok (.iload 5, 2) := by decide +kernel
theorem dX11_chance_52 : decode cX11_chance 52 = .ok (.iadd, 1) := by decide +kernel
theorem dX11_chance_53 : decode cX11_chance 53 = .ok (.invokevirtual 254, 3) := by decide +kernel
theorem dX11_chance_56 : decode cX11_chance 56 = .ok (.ifCond .eq 42, 3) := by decide +kernel
theorem dX11_chance_59 : decode cX11_chance 59 = .ok (.aload_n 0, 1) := by decide +kernel
theorem dX11_chance_60 : decode cX11_chance 60 = .ok (.getfield 55, 3) := by decide +kernel
theorem dX11_chance_63 : decode cX11_chance 63 = .ok (.aload_n 0, 1) := by decide +kernel
theorem dX11_chance_64 : decode cX11_chance 64 = .ok (.getfield 21, 3) := by decide +kernel
theorem dX11_chance_67 : decode cX11_chance 67 = .ok (.aload_n 0, 1) := by decide +kernel
theorem dX11_chance_68 : decode cX11_chance 68 = .ok (.getfield 41, 3) := by decide +kernel
theorem dX11_chance_71 : decode cX11_chance 71 = .ok (.getfield 208, 3) := by decide +kernel
theorem dX11_chance_74 : decode cX11_chance 74 = .ok (.invokevirtual 229, 3) := by decide +kernel
theorem dX11_chance_77 : decode cX11_chance 77 = .ok (.iload 4, 2) := by decide +kernel
theorem dX11_chance_79 : decode cX11_chance 79 = .ok (.aload_n 0, 1) := by decide +kernel
theorem dX11_chance_80 : decode cX11_chance 80 = .ok (.getfield 55, 3) := by decide +kernel
theorem dX11_chance_83 : decode cX11_chance 83 = .ok (.getfield 233, 3) := by decide +kernel
theorem dX11_chance_86 : decode cX11_chance 86 = .ok (.iconst 1, 1) := by decide +kernel
theorem dX11_chance_87 : decode cX11_chance 87 = .ok (.if_icmp .ne 7, 3) := by decide +kernel
theorem dX11_chance_90 : decode cX11_chance 90 = .ok (.iconst 1, 1) := by decide +kernel
theorem dX11_chance_91 : decode cX11_chance 91 = .ok (.goto 4, 3) := by decide +kernel
theorem dX11_chance_94 : decode cX11_chance 94 = .ok (.iconst 0, 1) := by decide +kernel
theorem dX11_chance_95 : decode cX11_chance 95 = .ok (.iadd, 1) := by decide +kernel
theorem dX11_chance_96 : decode cX11_chance 96 = .ok (.istore 4, 2) := by decide +kernel
theorem dX11_chance_98 : decode cX11_chance 98 = .ok (.iinc 5 1, 3) := by decide +kernel
theorem dX11_chance_101 : decode cX11_chance 101 = .ok (.goto (-59), 3) := by decide +kernel
theorem dX11_chance_104 : decode cX11_chance 104 = .ok (.iload 4, 2) := by decide +kernel
theorem dX11_chance_106 : decode cX11_chance 106 = .ok (.iload_n 2, 1) := by decide +kernel
theorem dX11_chance_107 : decode cX11_chance 107 = .ok (.invokestatic 257, 3) := by decide +kernel
theorem dX11_chance_110 : decode cX11_chance 110 = .ok (.istore 5, 2) := by decide +kernel
theorem dX11_chance_112 : decode cX11_chance 112 = .ok (.iload_n 3, 1) := by decide +kernel
theorem dX11_chance_113 : decode cX11_chance 113 = .ok (.ifCond .ne 8, 3) := by decide +kernel
theorem dX11_chance_116 : decode cX11_chance 116 = .ok (.iload 4, 2) := by decide +kernel
theorem dX11_chance_118 : decode cX11_chance 118 = .ok (.goto 4, 3) := by decide +kernel
theorem dX11_chance_121 : decode cX11_chance 121 = .ok (.iload_n 2, 1) := by decide +kernel
theorem dX11_chance_122 : decode cX11_chance 122 = .ok (.iload 5, 2) := by decide +kernel
theorem dX11_chance_124 : decode cX11_chance 124 = .ok (.idiv, 1) := by decide +kernel
theorem dX11_chance_125 : decode cX11_chance 125 = .ok (.ireturn, 1) := by decide +kernel
theorem dX11_tray_0 : decode cX11_tray 0 = .ok (.aload_n 0, 1) := by decide +kernel
theorem dX11_tray_1 : decode cX11_tray 1 = .ok (.iload_n 1, 1) := by decide +kernel
theorem dX11_tray_2 : decode cX11_tray 2 = .ok (.invokevirtual 261, 3) := by decide +kernel
theorem dX11_tray_5 : decode cX11_tray 5 = .ok (.astore 4, 2) := by decide +kernel
theorem dX11_tray_7 : decode cX11_tray 7 = .ok (.aload 4, 2) := by decide +kernel
theorem dX11_tray_9 : decode cX11_tray 9 = .ok (.ifnull 18, 3) := by decide +kernel
theorem dX11_tray_12 : decode cX11_tray 12 = .ok (.iload_n 2, 1) := by decide +kernel
theorem dX11_tray_13 : decode cX11_tray 13 = .ok (.bipush 6, 2) := by decide +kernel
theorem dX11_tray_15 : decode cX11_tray 15 = .ok (.invokestatic 84, 3) := by decide +kernel
theorem dX11_tray_18 : decode cX11_tray 18 = .ok (.ifCond .eq 9, 3) := by decide +kernel
theorem dX11_tray_21 : decode cX11_tray 21 = .ok (.iload_n 3, 1) := by decide +kernel
theorem dX11_tray_22 : decode cX11_tray 22 = .ok (.bipush 20, 2) := by decide +kernel
theorem dX11_tray_24 : decode cX11_tray 24 = .ok (.if_icmp .le 6, 3) := by decide +kernel
theorem dX11_tray_27 : decode cX11_tray 27 = .ok (.bipush (-2), 2) := by decide +kernel
theorem dX11_tray_29 : decode cX11_tray 29 = .ok (.ireturn, 1) := by decide +kernel
theorem dX11_tray_30 : decode cX11_tray 30 = .ok (.iload_n 3, 1) := by decide +kernel
theorem dX11_tray_31 : decode cX11_tray 31 = .ok (.ifCond .ge 6, 3) := by decide +kernel
theorem dX11_tray_34 : decode cX11_tray 34 = .ok (.bipush (-14), 2) := by decide +kernel
theorem dX11_tray_36 : decode cX11_tray 36 = .ok (.ireturn, 1) := by decide +kernel
theorem dX11_tray_37 : decode cX11_tray 37 = .ok (.aload 4, 2) := by decide +kernel
theorem dX11_tray_39 : decode cX11_tray 39 = .ok (.iload_n 2, 1) := by decide +kernel
theorem dX11_tray_40 : decode cX11_tray 40 = .ok (.iload_n 3, 1) := by decide +kernel
theorem dX11_tray_41 : decode cX11_tray 41 = .ok (.invokevirtual 265, 3) := by decide +kernel
theorem dX11_tray_44 : decode cX11_tray 44 = .ok (.iconst 1, 1) := by decide +kernel
theorem dX11_tray_45 : decode cX11_tray 45 = .ok (.ireturn, 1) := by decide +kernel
theorem dX11_lays_0 : decode cX11_lays 0 = .ok (.aload_n 0, 1) := by decide +kernel
theorem dX11_lays_1 : decode cX11_lays 1 = .ok (.iload_n 1, 1) := by decide +kernel
theorem dX11_lays_2 : decode cX11_lays 2 = .ok (.invokevirtual 261, 3) := by decide +kernel
theorem dX11_lays_5 : decode cX11_lays 5 = .ok (.astore 4, 2) := by decide +kernel
theorem dX11_lays_7 : decode cX11_lays 7 = .ok (.aload_n 0, 1) := by decide +kernel
theorem dX11_lays_8 : decode cX11_lays 8 = .ok (.getfield 21, 3) := by decide +kernel
theorem dX11_lays_11 : decode cX11_lays 11 = .ok (.iload_n 3, 1) := by decide +kernel
theorem dX11_lays_12 : decode cX11_lays 12 = .ok (.invokevirtual 119, 3) := by decide +kernel
theorem dX11_lays_15 : decode cX11_lays 15 = .ok (.astore 5, 2) := by decide +kernel
theorem dX11_lays_17 : decode cX11_lays 17 = .ok (.aload 4, 2) := by decide +kernel
theorem dX11_lays_19 : decode cX11_lays 19 = .ok (.ifnull 13, 3) := by decide +kernel
theorem dX11_lays_22 : decode cX11_lays 22 = .ok (.aload 5, 2) := by decide +kernel
theorem dX11_lays_24 : decode cX11_lays 24 = .ok (.ifnonnull 11, 3) := by decide +kernel
theorem dX11_lays_27 : decode cX11_lays 27 = .ok (.iload_n 3, 1) := by decide +kernel
theorem dX11_lays_28 : decode cX11_lays 28 = .ok (.iconst (-1), 1) := by decide +kernel
theorem dX11_lays_29 : decode cX11_lays 29 = .ok (.if_icmp .eq 6, 3) := by decide +kernel
theorem dX11_lays_32 : decode cX11_lays 32 = .ok (.bipush (-2), 2) := by decide +kernel
theorem dX11_lays_34 : decode cX11_lays 34 = .ok (.ireturn, 1) := by decide +kernel
theorem dX11_lays_35 : decode cX11_lays 35 = .ok (.aload 4, 2) := by decide +kernel
theorem dX11_lays_37 : decode cX11_lays 37 = .ok (.invokevirtual 266, 3) := by decide +kernel
theorem dX11_lays_40 : decode cX11_lays 40 = .ok (.ifCond .eq 6, 3) := by decide +kernel
theorem dX11_lays_43 : decode cX11_lays 43 = .ok (.bipush (-11), 2) := by decide +kernel
theorem dX11_lays_45 : decode cX11_lays 45 = .ok (.ireturn, 1) := by decide +kernel
theorem dX11_lays_46 : decode cX11_lays 46 = .ok (.aload 4, 2) := by decide +kernel
theorem dX11_lays_48 : decode cX11_lays 48 = .ok (.iload_n 2, 1) := by decide +kernel
theorem dX11_lays_49 : decode cX11_lays 49 = .ok (.invokevirtual 269, 3) := by decide +kernel
theorem dX11_lays_52 : decode cX11_lays 52 = .ok (.ifCond .ne 6, 3) := by decide +kernel
theorem dX11_lays_55 : decode cX11_lays 55 = .ok (.bipush (-12), 2) := by decide +kernel
theorem dX11_lays_57 : decode cX11_lays 57 = .ok (.ireturn, 1) := by decide +kernel
theorem dX11_lays_58 : decode cX11_lays 58 = .ok (.aload 5, 2) := by decide +kernel
theorem dX11_lays_60 : decode cX11_lays 60 = .ok (.ifnull 19, 3) := by decide +kernel
theorem dX11_lays_63 : decode cX11_lays 63 = .ok (.aload 5, 2) := by decide +kernel
theorem dX11_lays_65 : decode cX11_lays 65 = .ok (.aload 4, 2) := by decide +kernel
theorem dX11_lays_67 : decode cX11_lays 67 = .ok (.getfield 270, 3) := by decide +kernel
theorem dX11_lays_70 : decode cX11_lays 70 = .ok (.invokevirtual 137, 3) := by decide +kernel
theorem dX11_lays_73 : decode cX11_lays 73 = .ok (.ifCond .ne 6, 3) := by decide +kernel
theorem dX11_lays_76 : decode cX11_lays 76 = .ok (.bipush (-16), 2) := by decide +kernel
theorem dX11_lays_78 : decode cX11_lays 78 = .ok (.ireturn, 1) := by decide +kernel
theorem dX11_lays_79 : decode cX11_lays 79 = .ok (.aload 4, 2) := by decide +kernel
theorem dX11_lays_81 : decode cX11_lays 81 = .ok (.iload_n 2, 1) := by decide +kernel
theorem dX11_lays_82 : decode cX11_lays 82 = .ok (.iload_n 3, 1) := by decide +kernel
theorem dX11_lays_83 : decode cX11_lays 83 = .ok (.invokevirtual 271, 3) := by decide +kernel
theorem dX11_lays_86 : decode cX11_lays 86 = .ok (.iconst 1, 1) := by decide +kernel
theorem dX11_lays_87 : decode cX11_lays 87 = .ok (.ireturn, 1) := by decide +kernel
theorem dX11_laid_0 : decode cX11_laid 0 = .ok (.aload_n 0, 1) := by decide +kernel
theorem dX11_laid_1 : decode cX11_laid 1 = .ok (.iload_n 1, 1) := by decide +kernel
theorem dX11_laid_2 : decode cX11_laid 2 = .ok (.invokevirtual 261, 3) := by decide +kernel
theorem dX11_laid_5 : decode cX11_laid 5 = .ok (.astore_n 3, 1) := by decide +kernel
theorem dX11_laid_6 : decode cX11_laid 6 = .ok (.aload_n 3, 1) := by decide +kernel
theorem dX11_laid_7 : decode cX11_laid 7 = .ok (.ifnonnull 6, 3) := by decide +kernel
theorem dX11_laid_10 : decode cX11_laid 10 = .ok (.bipush (-2), 2) := by decide +kernel
theorem dX11_laid_12 : decode cX11_laid 12 = .ok (.ireturn, 1) := by decide +kernel
theorem dX11_laid_13 : decode cX11_laid 13 = .ok (.aload_n 3, 1) := by decide +kernel
theorem dX11_laid_14 : decode cX11_laid 14 = .ok (.invokevirtual 266, 3) := by decide +kernel
theorem dX11_laid_17 : decode cX11_laid 17 = .ok (.ifCond .eq 6, 3) := by decide +kernel
theorem dX11_laid_20 : decode cX11_laid 20 = .ok (.bipush (-11), 2) := by decide +kernel
theorem dX11_laid_22 : decode cX11_laid 22 = .ok (.ireturn, 1) := by decide +kernel
theorem dX11_laid_23 : decode cX11_laid 23 = .ok (.aload_n 3, 1) := by decide +kernel
theorem dX11_laid_24 : decode cX11_laid 24 = .ok (.iload_n 2, 1) := by decide +kernel
theorem dX11_laid_25 : decode cX11_laid 25 = .ok (.invokevirtual 269, 3) := by decide +kernel
theorem dX11_laid_28 : decode cX11_laid 28 = .ok (.ifCond .eq 11, 3) := by decide +kernel
theorem dX11_laid_31 : decode cX11_laid 31 = .ok (.aload_n 3, 1) := by decide +kernel
theorem dX11_laid_32 : decode cX11_laid 32 = .ok (.iload_n 2, 1) := by decide +kernel
theorem dX11_laid_33 : decode cX11_laid 33 = .ok (.invokevirtual 274, 3) := by decide +kernel
theorem dX11_laid_36 : decode cX11_laid 36 = .ok (.goto 5, 3) := by decide +kernel
theorem dX11_laid_39 : decode cX11_laid 39 = .ok (.bipush (-12), 2) := by decide +kernel
theorem dX11_laid_41 : decode cX11_laid 41 = .ok (.ireturn, 1) := by decide +kernel
theorem dX11_like_0 : decode cX11_like 0 = .ok (.aload_n 0, 1) := by decide +kernel
theorem dX11_like_1 : decode cX11_like 1 = .ok (.iload_n 1, 1) := by decide +kernel
theorem dX11_like_2 : decode cX11_like 2 = .ok (.invokevirtual 261, 3) := by decide +kernel
theorem dX11_like_5 : decode cX11_like 5 = .ok (.astore_n 3, 1) := by decide +kernel
theorem dX11_like_6 : decode cX11_like 6 = .ok (.aload_n 0, 1) := by decide +kernel
theorem dX11_like_7 : decode cX11_like 7 = .ok (.iload_n 2, 1) := by decide +kernel
theorem dX11_like_8 : decode cX11_like 8 = .ok (.invokevirtual 261, 3) := by decide +kernel
theorem dX11_like_11 : decode cX11_like 11 = .ok (.astore 4, 2) := by decide +kernel
theorem dX11_like_13 : decode cX11_like 13 = .ok (.aload_n 3, 1) := by decide +kernel
theorem dX11_like_14 : decode cX11_like 14 = .ok (.ifnull 8, 3) := by decide +kernel
theorem dX11_like_17 : decode cX11_like 17 = .ok (.aload 4, 2) := by decide +kernel
theorem dX11_like_19 : decode cX11_like 19 = .ok (.ifnonnull 6, 3) := by decide +kernel
theorem dX11_like_22 : decode cX11_like 22 = .ok (.bipush (-2), 2) := by decide +kernel
theorem dX11_like_24 : decode cX11_like 24 = .ok (.ireturn, 1) := by decide +kernel
theorem dX11_like_25 : decode cX11_like 25 = .ok (.aload 4, 2) := by decide +kernel
theorem dX11_like_27 : decode cX11_like 27 = .ok (.invokevirtual 266, 3) := by decide +kernel
theorem dX11_like_30 : decode cX11_like 30 = .ok (.ifCond .eq 6, 3) := by decide +kernel
theorem dX11_like_33 : decode cX11_like 33 = .ok (.bipush (-11), 2) := by decide +kernel
theorem dX11_like_35 : decode cX11_like 35 = .ok (.ireturn, 1) := by decide +kernel
theorem dX11_like_36 : decode cX11_like 36 = .ok (.aload_n 3, 1) := by decide +kernel
theorem dX11_like_37 : decode cX11_like 37 = .ok (.aload 4, 2) := by decide +kernel
theorem dX11_like_39 : decode cX11_like 39 = .ok (.invokevirtual 276, 3) := by decide +kernel
theorem dX11_like_42 : decode cX11_like 42 = .ok (.aload_n 3, 1) := by decide +kernel
theorem dX11_like_43 : decode cX11_like 43 = .ok (.getfield 279, 3) := by decide +kernel
theorem dX11_like_46 : decode cX11_like 46 = .ok (.ireturn, 1) := by decide +kernel
theorem dX11_tells_0 : decode cX11_tells 0 = .ok (.aload_n 0, 1) := by decide +kernel
theorem dX11_tells_1 : decode cX11_tells 1 = .ok (.iload_n 1, 1) := by decide +kernel
theorem dX11_tells_2 : decode cX11_tells 2 = .ok (.invokevirtual 280, 3) := by decide +kernel
theorem dX11_tells_5 : decode cX11_tells 5 = .ok (.astore_n 3, 1) := by decide +kernel
theorem dX11_tells_6 : decode cX11_tells 6 = .ok (.aload_n 3, 1) := by decide +kernel
theorem dX11_tells_7 : decode cX11_tells 7 = .ok (.ifnull 12, 3) := by decide +kernel
theorem dX11_tells_10 : decode cX11_tells 10 = .ok (.iload_n 2, 1) := by decide +kernel
theorem dX11_tells_11 : decode cX11_tells 11 = .ok (.ifCond .lt 8, 3) := by decide +kernel
theorem dX11_tells_14 : decode cX11_tells 14 = .ok (.iload_n 2, 1) := by decide +kernel
theorem dX11_tells_15 : decode cX11_tells 15 = .ok (.iconst 2, 1) := by decide +kernel
theorem dX11_tells_16 : decode cX11_tells 16 = .ok (.if_icmp .le 6, 3) := by decide +kernel
theorem dX11_tells_19 : decode cX11_tells 19 = .ok (.bipush (-2), 2) := by decide +kernel
theorem dX11_tells_21 : decode cX11_tells 21 = .ok (.ireturn, 1) := by decide +kernel
theorem dX11_tells_22 : decode cX11_tells 22 = .ok (.aload_n 3, 1) := by decide +kernel
theorem dX11_tells_23 : decode cX11_tells 23 = .ok (.invokevirtual 284, 3) := by decide +kernel
theorem dX11_tells_26 : decode cX11_tells 26 = .ok (.ifCond .eq 6, 3) := by decide +kernel
theorem dX11_tells_29 : decode cX11_tells 29 = .ok (.bipush (-11), 2) := by decide +kernel
theorem dX11_tells_31 : decode cX11_tells 31 = .ok (.ireturn, 1) := by decide +kernel
theorem dX11_tells_32 : decode cX11_tells 32 = .ok (.aload_n 3, 1) := by decide +kernel
theorem dX11_tells_33 : decode cX11_tells 33 = .ok (.getfield 285, 3) := by decide +kernel
theorem dX11_tells_36 : decode cX11_tells 36 = .ok (.bipush 6, 2) := by decide +kernel
theorem dX11_tells_38 : decode cX11_tells 38 = .ok (.if_icmp .le 6, 3) := by decide +kernel
theorem dX11_tells_41 : decode cX11_tells 41 = .ok (.bipush (-2), 2) := by decide +kernel
theorem dX11_tells_43 : decode cX11_tells 43 = .ok (.ireturn, 1) := by decide +kernel
theorem dX11_tells_44 : decode cX11_tells 44 = .ok (.aload_n 0, 1) := by decide +kernel
theorem dX11_tells_45 : decode cX11_tells 45 = .ok (.invokevirtual 205, 3) := by decide +kernel
theorem dX11_tells_48 : decode cX11_tells 48 = .ok (.ifCond .ne 6, 3) := by decide +kernel
theorem dX11_tells_51 : decode cX11_tells 51 = .ok (.bipush (-3), 2) := by decide +kernel
theorem dX11_tells_53 : decode cX11_tells 53 = .ok (.ireturn, 1) := by decide +kernel
theorem dX11_tells_54 : decode cX11_tells 54 = .ok (.iload_n 2, 1) := by decide +kernel
theorem dX11_tells_55 : decode cX11_tells 55 = .ok (.ifCond .ne 11, 3) := by decide +kernel
theorem dX11_tells_58 : decode cX11_tells 58 = .ok (.aload_n 0, 1) := by decide +kernel
theorem dX11_tells_59 : decode cX11_tells 59 = .ok (.aload_n 3, 1) := by decide +kernel
theorem dX11_tells_60 : decode cX11_tells 60 = .ok (.invokevirtual 286, 3) := by decide +kernel
theorem dX11_tells_63 : decode cX11_tells 63 = .ok (.goto 21, 3) := by decide +kernel
theorem dX11_tells_66 : decode cX11_tells 66 = .ok (.iload_n 2, 1) := by decide +kernel
theorem dX11_tells_67 : decode cX11_tells 67 = .ok (.iconst 1, 1) := by decide +kernel
theorem dX11_tells_68 : decode cX11_tells 68 = .ok (.if_icmp .ne 11, 3) := by decide +kernel
theorem dX11_tells_71 : decode cX11_tells 71 = .ok (.aload_n 0, 1) := by decide +kernel
theorem dX11_tells_72 : decode cX11_tells 72 = .ok (.aload_n 3, 1) := by decide +kernel
theorem dX11_tells_73 : decode cX11_tells 73 = .ok (.invokevirtual 290, 3) := by decide +kernel
theorem dX11_tells_76 : decode cX11_tells 76 = .ok (.goto 8, 3) := by decide +kernel
theorem dX11_tells_79 : decode cX11_tells 79 = .ok (.aload_n 0, 1) := by decide +kernel
theorem dX11_tells_80 : decode cX11_tells 80 = .ok (.aload_n 3, 1) := by decide +kernel
theorem dX11_tells_81 : decode cX11_tells 81 = .ok (.invokevirtual 293, 3) := by decide +kernel
theorem dX11_tells_84 : decode cX11_tells 84 = .ok (.ireturn, 1) := by decide +kernel
theorem dX11_image_0 : decode cX11_image 0 = .ok (.aload_n 0, 1) := by decide +kernel
theorem dX11_image_1 : decode cX11_image 1 = .ok (.getfield 25, 3) := by decide +kernel
theorem dX11_image_4 : decode cX11_image 4 = .ok (.aload_n 0, 1) := by decide +kernel
theorem dX11_image_5 : decode cX11_image 5 = .ok (.getfield 21, 3) := by decide +kernel
theorem dX11_image_8 : decode cX11_image 8 = .ok (.invokevirtual 296, 3) := by decide +kernel
theorem dX11_image_11 : decode cX11_image 11 = .ok (.aload_n 0, 1) := by decide +kernel
theorem dX11_image_12 : decode cX11_image 12 = .ok (.iconst 1, 1) := by decide +kernel
theorem dX11_image_13 : decode cX11_image 13 = .ok (.putfield 299, 3) := by decide +kernel
theorem dX11_image_16 : decode cX11_image 16 = .ok (.aload_n 0, 1) := by decide +kernel
theorem dX11_image_17 : decode cX11_image 17 = .ok (.getfield 25, 3) := by decide +kernel
theorem dX11_image_20 : decode cX11_image 20 = .ok (.getfield 303, 3) := by decide +kernel
theorem dX11_image_23 : decode cX11_image 23 = .ok (.ireturn, 1) := by decide +kernel
theorem dX11_back_0 : decode cX11_back 0 = .ok (.aload_n 0, 1) := by decide +kernel
theorem dX11_back_1 : decode cX11_back 1 = .ok (.getfield 299, 3) := by decide +kernel
theorem dX11_back_4 : decode cX11_back 4 = .ok (.ifCond .ne 6, 3) := by decide +kernel
theorem dX11_back_7 : decode cX11_back 7 = .ok (.bipush (-3), 2) := by decide +kernel
theorem dX11_back_9 : decode cX11_back 9 = .ok (.ireturn, 1) := by decide +kernel
theorem dX11_back_10 : decode cX11_back 10 = .ok (.aload_n 0, 1) := by decide +kernel
theorem dX11_back_11 : decode cX11_back 11 = .ok (.getfield 21, 3) := by decide +kernel
theorem dX11_back_14 : decode cX11_back 14 = .ok (.aload_n 0, 1) := by decide +kernel
theorem dX11_back_15 : decode cX11_back 15 = .ok (.getfield 25, 3) := by decide +kernel
theorem dX11_back_18 : decode cX11_back 18 = .ok (.invokevirtual 296, 3) := by decide +kernel
theorem dX11_back_21 : decode cX11_back 21 = .ok (.aload_n 0, 1) := by decide +kernel
theorem dX11_back_22 : decode cX11_back 22 = .ok (.getfield 21, 3) := by decide +kernel
theorem dX11_back_25 : decode cX11_back 25 = .ok (.getfield 303, 3) := by decide +kernel
theorem dX11_back_28 : decode cX11_back 28 = .ok (.ireturn, 1) := by decide +kernel
theorem dX11_count_0 : decode cX11_count 0 = .ok (.iload_n 1, 1) := by decide +kernel
theorem dX11_count_1 : decode cX11_count 1 = .ok (.tableswitch 86 0 4 #[35, 43, 51, 62, 78], 35) := by decide +kernel
theorem dX11_count_36 : decode cX11_count 36 = .ok (.aload_n 0, 1) := by decide +kernel
theorem dX11_count_37 : decode cX11_count 37 = .ok (.getfield 21, 3) := by decide +kernel
theorem dX11_count_40 : decode cX11_count 40 = .ok (.getfield 303, 3) := by decide +kernel
theorem dX11_count_43 : decode cX11_count 43 = .ok (.ireturn, 1) := by decide +kernel
theorem dX11_count_44 : decode cX11_count 44 = .ok (.aload_n 0, 1) := by decide +kernel
theorem dX11_count_45 : decode cX11_count 45 = .ok (.getfield 21, 3) := by decide +kernel
theorem dX11_count_48 : decode cX11_count 48 = .ok (.getfield 251, 3) := by decide +kernel
theorem dX11_count_51 : decode cX11_count 51 = .ok (.ireturn, 1) := by decide +kernel
theorem dX11_count_52 : decode cX11_count 52 = .ok (.aload_n 0, 1) := by decide +kernel
theorem dX11_count_53 : decode cX11_count 53 = .ok (.getfield 21, 3) := by decide +kernel
theorem dX11_count_56 : decode cX11_count 56 = .ok (.getfield 222, 3) := by decide +kernel
theorem dX11_count_59 : decode cX11_count 59 = .ok (.invokevirtual 225, 3) := by decide +kernel
theorem dX11_count_62 : decode cX11_count 62 = .ok (.ireturn, 1) := by decide +kernel
theorem dX11_count_63 : decode cX11_count 63 = .ok (.aload_n 0, 1) := by decide +kernel
theorem dX11_count_64 : decode cX11_count 64 = .ok (.invokevirtual 205, 3) := by decide +kernel
theorem dX11_count_67 : decode cX11_count 67 = .ok (.pop, 1) := by decide +kernel
theorem dX11_count_68 : decode cX11_count 68 = .ok (.aload_n 0, 1) := by decide +kernel
theorem dX11_count_69 : decode cX11_count 69 = .ok (.getfield 41, 3) := by decide +kernel
theorem dX11_count_72 : decode cX11_count 72 = .ok (.getfield 208, 3) := by decide +kernel
theorem dX11_count_75 : decode cX11_count 75 = .ok (.getfield 77, 3) := by decide +kernel
theorem dX11_count_78 : decode cX11_count 78 = .ok (.ireturn, 1) := by decide +kernel
theorem dX11_count_79 : decode cX11_count 79 = .ok (.aload_n 0, 1) := by decide +kernel
theorem dX11_count_80 : decode cX11_count 80 = .ok (.getfield 14, 3) := by decide +kernel
theorem dX11_count_83 : decode cX11_count 83 = .ok (.getfield 77, 3) := by decide +kernel
theorem dX11_count_86 : decode cX11_count 86 = .ok (.ireturn, 1) := by decide +kernel
theorem dX11_count_87 : decode cX11_count 87 = .ok (.bipush (-2), 2) := by decide +kernel
theorem dX11_count_89 : decode cX11_count 89 = .ok (.ireturn, 1) := by decide +kernel
theorem dX11_sheet_0 : decode cX11_sheet 0 = .ok (.aload_n 0, 1) := by decide +kernel
theorem dX11_sheet_1 : decode cX11_sheet 1 = .ok (.iload_n 1, 1) := by decide +kernel
theorem dX11_sheet_2 : decode cX11_sheet 2 = .ok (.invokevirtual 280, 3) := by decide +kernel
theorem dX11_sheet_5 : decode cX11_sheet 5 = .ok (.astore 4, 2) := by decide +kernel
theorem dX11_sheet_7 : decode cX11_sheet 7 = .ok (.aload 4, 2) := by decide +kernel
theorem dX11_sheet_9 : decode cX11_sheet 9 = .ok (.ifnull 13, 3) := by decide +kernel
theorem dX11_sheet_12 : decode cX11_sheet 12 = .ok (.iload_n 2, 1) := by decide +kernel
theorem dX11_sheet_13 : decode cX11_sheet 13 = .ok (.iconst (-1), 1) := by decide +kernel
theorem dX11_sheet_14 : decode cX11_sheet 14 = .ok (.if_icmp .lt 8, 3) := by decide +kernel
theorem dX11_sheet_17 : decode cX11_sheet 17 = .ok (.iload_n 2, 1) := by decide +kernel
theorem dX11_sheet_18 : decode cX11_sheet 18 = .ok (.iconst 1, 1) := by decide +kernel
theorem dX11_sheet_19 : decode cX11_sheet 19 = .ok (.if_icmp .le 6, 3) := by decide +kernel
theorem dX11_sheet_22 : decode cX11_sheet 22 = .ok (.bipush (-2), 2) := by decide +kernel
theorem dX11_sheet_24 : decode cX11_sheet 24 = .ok (.ireturn, 1) := by decide +kernel
theorem dX11_sheet_25 : decode cX11_sheet 25 = .ok (.iload_n 2, 1) := by decide +kernel
theorem dX11_sheet_26 : decode cX11_sheet 26 = .ok (.iconst (-1), 1) := by decide +kernel
theorem dX11_sheet_27 : decode cX11_sheet 27 = .ok (.if_icmp .ne 12, 3) := by decide +kernel
theorem dX11_sheet_30 : decode cX11_sheet 30 = .ok (.aload 4, 2) := by decide +kernel
theorem dX11_sheet_32 : decode cX11_sheet 32 = .ok (.iconst (-1), 1) := by decide +kernel
theorem dX11_sheet_33 : decode cX11_sheet 33 = .ok (.iconst 0, 1) := by decide +kernel
theorem dX11_sheet_34 : decode cX11_sheet 34 = .ok (.invokevirtual 306, 3) := by decide +kernel
theorem dX11_sheet_37 : decode cX11_sheet 37 = .ok (.iconst 1, 1) := by decide +kernel
theorem dX11_sheet_38 : decode cX11_sheet 38 = .ok (.ireturn, 1) := by decide +kernel
theorem dX11_sheet_39 : decode cX11_sheet 39 = .ok (.iload_n 3, 1) := by decide +kernel
theorem dX11_sheet_40 : decode cX11_sheet 40 = .ok (.bipush 40, 2) := by decide +kernel
theorem dX11_sheet_42 : decode cX11_sheet 42 = .ok (.if_icmp .le 6, 3) := by decide +kernel
theorem dX11_sheet_45 : decode cX11_sheet 45 = .ok (.bipush (-2), 2) := by decide +kernel
theorem dX11_sheet_47 : decode cX11_sheet 47 = .ok (.ireturn, 1) := by decide +kernel
theorem dX11_sheet_48 : decode cX11_sheet 48 = .ok (.iload_n 3, 1) := by decide +kernel
theorem dX11_sheet_49 : decode cX11_sheet 49 = .ok (.ifCond .ge 6, 3) := by decide +kernel
theorem dX11_sheet_52 : decode cX11_sheet 52 = .ok (.bipush (-14), 2) := by decide +kernel
theorem dX11_sheet_54 : decode cX11_sheet 54 = .ok (.ireturn, 1) := by decide +kernel
theorem dX11_sheet_55 : decode cX11_sheet 55 = .ok (.aload 4, 2) := by decide +kernel
theorem dX11_sheet_57 : decode cX11_sheet 57 = .ok (.iload_n 2, 1) := by decide +kernel
theorem dX11_sheet_58 : decode cX11_sheet 58 = .ok (.iload_n 3, 1) := by decide +kernel
theorem dX11_sheet_59 : decode cX11_sheet 59 = .ok (.invokevirtual 306, 3) := by decide +kernel
theorem dX11_sheet_62 : decode cX11_sheet 62 = .ok (.iconst 1, 1) := by decide +kernel
theorem dX11_sheet_63 : decode cX11_sheet 63 = .ok (.ireturn, 1) := by decide +kernel
theorem dX11_put_0 : decode cX11_put 0 = .ok (.aload_n 0, 1) := by decide +kernel
theorem dX11_put_1 : decode cX11_put 1 = .ok (.iload_n 1, 1) := by decide +kernel
theorem dX11_put_2 : decode cX11_put 2 = .ok (.invokevirtual 280, 3) := by decide +kernel
theorem dX11_put_5 : decode cX11_put 5 = .ok (.astore 4, 2) := by decide +kernel
theorem dX11_put_7 : decode cX11_put 7 = .ok (.aload 4, 2) := by decide +kernel
theorem dX11_put_9 : decode cX11_put 9 = .ok (.ifnonnull 6, 3) := by decide +kernel
theorem dX11_put_12 : decode cX11_put 12 = .ok (.bipush (-2), 2) := by decide +kernel
theorem dX11_put_14 : decode cX11_put 14 = .ok (.ireturn, 1) := by decide +kernel
theorem dX11_put_15 : decode cX11_put 15 = .ok (.aload 4, 2) := by decide +kernel
theorem dX11_put_17 : decode cX11_put 17 = .ok (.invokevirtual 284, 3) := by decide +kernel
theorem dX11_put_20 : decode cX11_put 20 = .ok (.ifCond .eq 6, 3) := by decide +kernel
theorem dX11_put_23 : decode cX11_put 23 = .ok (.bipush (-11), 2) := by decide +kernel
theorem dX11_put_25 : decode cX11_put 25 = .ok (.ireturn, 1) := by decide +kernel
theorem dX11_put_26 : decode cX11_put 26 = .ok (.aload 4, 2) := by decide +kernel
theorem dX11_put_28 : decode cX11_put 28 = .ok (.iload_n 2, 1) := by decide +kernel
theorem dX11_put_29 : decode cX11_put 29 = .ok (.iconst 1, 1) := by decide +kernel
theorem dX11_put_30 : decode cX11_put 30 = .ok (.invokevirtual 307, 3) := by decide +kernel
theorem dX11_put_33 : decode cX11_put 33 = .ok (.ifCond .ne 6, 3) := by decide +kernel
theorem dX11_put_36 : decode cX11_put 36 = .ok (.bipush (-12), 2) := by decide +kernel
theorem dX11_put_38 : decode cX11_put 38 = .ok (.ireturn, 1) := by decide +kernel
theorem dX11_put_39 : decode cX11_put 39 = .ok (.aload 4, 2) := by decide +kernel
theorem dX11_put_41 : decode cX11_put 41 = .ok (.iload_n 2, 1) := by decide +kernel
theorem dX11_put_42 : decode cX11_put 42 = .ok (.iload_n 3, 1) := by decide +kernel
theorem dX11_put_43 : decode cX11_put 43 = .ok (.invokevirtual 310, 3) := by decide +kernel
theorem dX11_put_46 : decode cX11_put 46 = .ok (.iconst 1, 1) := by decide +kernel
theorem dX11_put_47 : decode cX11_put 47 = .ok (.ireturn, 1) := by decide +kernel
theorem dX11_copy_0 : decode cX11_copy 0 = .ok (.aload_n 0, 1) := by decide +kernel
theorem dX11_copy_1 : decode cX11_copy 1 = .ok (.iload_n 1, 1) := by decide +kernel
theorem dX11_copy_2 : decode cX11_copy 2 = .ok (.invokevirtual 280, 3) := by decide +kernel
theorem dX11_copy_5 : decode cX11_copy 5 = .ok (.astore 6, 2) := by decide +kernel
theorem dX11_copy_7 : decode cX11_copy 7 = .ok (.aload_n 0, 1) := by decide +kernel
theorem dX11_copy_8 : decode cX11_copy 8 = .ok (.iload_n 3, 1) := by decide +kernel
theorem dX11_copy_9 : decode cX11_copy 9 = .ok (.invokevirtual 280, 3) := by decide +kernel
theorem dX11_copy_12 : decode cX11_copy 12 = .ok (.astore 7, 2) := by decide +kernel
theorem dX11_copy_14 : decode cX11_copy 14 = .ok (.aload 6, 2) := by decide +kernel
theorem dX11_copy_16 : decode cX11_copy 16 = .ok (.ifnull 8, 3) := by decide +kernel
theorem dX11_copy_19 : decode cX11_copy 19 = .ok (.aload 7, 2) := by decide +kernel
theorem dX11_copy_21 : decode cX11_copy 21 = .ok (.ifnonnull 6, 3) := by decide +kernel
theorem dX11_copy_24 : decode cX11_copy 24 = .ok (.bipush (-2), 2) := by decide +kernel
theorem dX11_copy_26 : decode cX11_copy 26 = .ok (.ireturn, 1) := by decide +kernel
theorem dX11_copy_27 : decode cX11_copy 27 = .ok (.aload 6, 2) := by decide +kernel
theorem dX11_copy_29 : decode cX11_copy 29 = .ok (.invokevirtual 284, 3) := by decide +kernel
theorem dX11_copy_32 : decode cX11_copy 32 = .ok (.ifCond .ne 11, 3) := by decide +kernel
theorem dX11_copy_35 : decode cX11_copy 35 = .ok (.aload 7, 2) := by decide +kernel
theorem dX11_copy_37 : decode cX11_copy 37 = .ok (.invokevirtual 284, 3) := by decide +kernel
theorem dX11_copy_40 : decode cX11_copy 40 = .ok (.ifCond .eq 6, 3) := by decide +kernel
theorem dX11_copy_43 : decode cX11_copy 43 = .ok (.bipush (-11), 2) := by decide +kernel
theorem dX11_copy_45 : decode cX11_copy 45 = .ok (.ireturn, 1) := by decide +kernel
theorem dX11_copy_46 : decode cX11_copy 46 = .ok (.aload 6, 2) := by decide +kernel
theorem dX11_copy_48 : decode cX11_copy 48 = .ok (.getfield 313, 3) := by decide +kernel
theorem dX11_copy_51 : decode cX11_copy 51 = .ok (.aload 7, 2) := by decide +kernel
theorem dX11_copy_53 : decode cX11_copy 53 = .ok (.getfield 313, 3) := by decide +kernel
theorem dX11_copy_56 : decode cX11_copy 56 = .ok (.if_icmp .eq 6, 3) := by decide +kernel
theorem dX11_copy_59 : decode cX11_copy 59 = .ok (.bipush (-13), 2) := by decide +kernel
theorem dX11_copy_61 : decode cX11_copy 61 = .ok (.ireturn, 1) := by decide +kernel
theorem dX11_copy_62 : decode cX11_copy 62 = .ok (.aload 6, 2) := by decide +kernel
theorem dX11_copy_64 : decode cX11_copy 64 = .ok (.iload_n 2, 1) := by decide +kernel
theorem dX11_copy_65 : decode cX11_copy 65 = .ok (.iload 5, 2) := by decide +kernel
theorem dX11_copy_67 : decode cX11_copy 67 = .ok (.invokevirtual 307, 3) := by decide +kernel
theorem dX11_copy_70 : decode cX11_copy 70 = .ok (.ifCond .eq 15, 3) := by decide +kernel
theorem dX11_copy_73 : decode cX11_copy 73 = .ok (.aload 7, 2) := by decide +kernel
theorem dX11_copy_75 : decode cX11_copy 75 = .ok (.iload 4, 2) := by decide +kernel
theorem dX11_copy_77 : decode cX11_copy 77 = .ok (.iload 5, 2) := by decide +kernel
theorem dX11_copy_79 : decode cX11_copy 79 = .ok (.invokevirtual 307, 3) := by decide +kernel
theorem dX11_copy_82 : decode cX11_copy 82 = .ok (.ifCond .ne 6, 3) := by decide +kernel
theorem dX11_copy_85 : decode cX11_copy 85 = .ok (.bipush (-12), 2) := by decide +kernel
theorem dX11_copy_87 : decode cX11_copy 87 = .ok (.ireturn, 1) := by decide +kernel
theorem dX11_copy_88 : decode cX11_copy 88 = .ok (.aload 7, 2) := by decide +kernel
theorem dX11_copy_90 : decode cX11_copy 90 = .ok (.iload 4, 2) := by decide +kernel
theorem dX11_copy_92 : decode cX11_copy 92 = .ok (.aload 6, 2) := by decide +kernel
theorem dX11_copy_94 : decode cX11_copy 94 = .ok (.iload_n 2, 1) := by decide +kernel
theorem dX11_copy_95 : decode cX11_copy 95 = .ok (.iload 5, 2) := by decide +kernel
theorem dX11_copy_97 : decode cX11_copy 97 = .ok (.invokevirtual 316, 3) := by decide +kernel
theorem dX11_copy_100 : decode cX11_copy 100 = .ok (.iload 5, 2) := by decide +kernel
theorem dX11_copy_102 : decode cX11_copy 102 = .ok (.ireturn, 1) := by decide +kernel
theorem dX11_isBelow_0 : decode cX11_isBelow 0 = .ok (.iload_n 0, 1) := by decide +kernel
theorem dX11_isBelow_1 : decode cX11_isBelow 1 = .ok (.ifCond .lt 12, 3) := by decide +kernel
theorem dX11_isBelow_4 : decode cX11_isBelow 4 = .ok (.iload_n 0, 1) := by decide +kernel
theorem dX11_isBelow_5 : decode cX11_isBelow 5 = .ok (.iload_n 1, 1) := by decide +kernel
theorem dX11_isBelow_6 : decode cX11_isBelow 6 = .ok (.if_icmp .ge 7, 3) := by decide +kernel
theorem dX11_isBelow_9 : decode cX11_isBelow 9 = .ok (.iconst 1, 1) := by decide +kernel
theorem dX11_isBelow_10 : decode cX11_isBelow 10 = .ok (.goto 4, 3) := by decide +kernel
theorem dX11_isBelow_13 : decode cX11_isBelow 13 = .ok (.iconst 0, 1) := by decide +kernel
theorem dX11_isBelow_14 : decode cX11_isBelow 14 = .ok (.ireturn, 1) := by decide +kernel
theorem dX11_areBytes_0 : decode cX11_areBytes 0 = .ok (.iload_n 0, 1) := by decide +kernel
theorem dX11_areBytes_1 : decode cX11_areBytes 1 = .ok (.iload_n 1, 1) := by decide +kernel
theorem dX11_areBytes_2 : decode cX11_areBytes 2 = .ok (.ior, 1) := by decide +kernel
theorem dX11_areBytes_3 : decode cX11_areBytes 3 = .ok (.iload_n 2, 1) := by decide +kernel
theorem dX11_areBytes_4 : decode cX11_areBytes 4 = .ok (.ior, 1) := by decide +kernel
theorem dX11_areBytes_5 : decode cX11_areBytes 5 = .ok (.iload_n 3, 1) := by decide +kernel
theorem dX11_areBytes_6 : decode cX11_areBytes 6 = .ok (.ior, 1) := by decide +kernel
theorem dX11_areBytes_7 : decode cX11_areBytes 7 = .ok (.iload 4, 2) := by decide +kernel
theorem dX11_areBytes_9 : decode cX11_areBytes 9 = .ok (.ior, 1) := by decide +kernel
theorem dX11_areBytes_10 : decode cX11_areBytes 10 = .ok (.sipush (-256), 3) := by decide +kernel
theorem dX11_areBytes_13 : decode cX11_areBytes 13 = .ok (.iand, 1) := by decide +kernel
theorem dX11_areBytes_14 : decode cX11_areBytes 14 = .ok (.ifCond .ne 7, 3) := by decide +kernel
theorem dX11_areBytes_17 : decode cX11_areBytes 17 = .ok (.iconst 1, 1) := by decide +kernel
theorem dX11_areBytes_18 : decode cX11_areBytes 18 = .ok (.goto 4, 3) := by decide +kernel
end
section
theorem dX11_areBytes_21 : decode cX11_areBytes 21 = .ok (.iconst 0, 1) := by decide +kernel
theorem dX11_areBytes_22 : decode cX11_areBytes 22 = .ok (.ireturn, 1) := by decide +kernel
theorem dX11_sizeOrLetter_0 : decode cX11_sizeOrLetter 0 = .ok (.iload_n 1, 1) := by decide +kernel
theorem dX11_sizeOrLetter_1 : decode cX11_sizeOrLetter 1 = .ok (.iconst (-1), 1) := by decide +kernel
theorem dX11_sizeOrLetter_2 : decode cX11_sizeOrLetter 2 = .ok (.if_icmp .ne 8, 3) := by decide +kernel
theorem dX11_sizeOrLetter_5 : decode cX11_sizeOrLetter 5 = .ok (.aload_n 0, 1) := by decide +kernel
theorem dX11_sizeOrLetter_6 : decode cX11_sizeOrLetter 6 = .ok (.getfield 77, 3) := by decide +kernel
theorem dX11_sizeOrLetter_9 : decode cX11_sizeOrLetter 9 = .ok (.ireturn, 1) := by decide +kernel
theorem dX11_sizeOrLetter_10 : decode cX11_sizeOrLetter 10 = .ok (.aload_n 0, 1) := by decide +kernel
theorem dX11_sizeOrLetter_11 : decode cX11_sizeOrLetter 11 = .ok (.iload_n 1, 1) := by decide +kernel
theorem dX11_sizeOrLetter_12 : decode cX11_sizeOrLetter 12 = .ok (.invokevirtual 320, 3) := by decide +kernel
theorem dX11_sizeOrLetter_15 : decode cX11_sizeOrLetter 15 = .ok (.istore_n 2, 1) := by decide +kernel
theorem dX11_sizeOrLetter_16 : decode cX11_sizeOrLetter 16 = .ok (.iload_n 2, 1) := by decide +kernel
theorem dX11_sizeOrLetter_17 : decode cX11_sizeOrLetter 17 = .ok (.iconst (-1), 1) := by decide +kernel
theorem dX11_sizeOrLetter_18 : decode cX11_sizeOrLetter 18 = .ok (.if_icmp .ne 8, 3) := by decide +kernel
theorem dX11_sizeOrLetter_21 : decode cX11_sizeOrLetter 21 = .ok (.bipush (-12), 2) := by decide +kernel
theorem dX11_sizeOrLetter_23 : decode cX11_sizeOrLetter 23 = .ok (.goto 4, 3) := by decide +kernel
theorem dX11_sizeOrLetter_26 : decode cX11_sizeOrLetter 26 = .ok (.iload_n 2, 1) := by decide +kernel
theorem dX11_sizeOrLetter_27 : decode cX11_sizeOrLetter 27 = .ok (.ireturn, 1) := by decide +kernel
theorem dX11_bitsOf_0 : decode cX11_bitsOf 0 = .ok (.fload_n 0, 1) := by decide +kernel
theorem dX11_bitsOf_1 : decode cX11_bitsOf 1 = .ok (.fconst 0, 1) := by decide +kernel
theorem dX11_bitsOf_2 : decode cX11_bitsOf 2 = .ok (.fcmp .l, 1) := by decide +kernel
theorem dX11_bitsOf_3 : decode cX11_bitsOf 3 = .ok (.ifCond .gt 5, 3) := by decide +kernel
theorem dX11_bitsOf_6 : decode cX11_bitsOf 6 = .ok (.iconst 0, 1) := by decide +kernel
theorem dX11_bitsOf_7 : decode cX11_bitsOf 7 = .ok (.ireturn, 1) := by decide +kernel
theorem dX11_bitsOf_8 : decode cX11_bitsOf 8 = .ok (.fload_n 0, 1) := by decide +kernel
theorem dX11_bitsOf_9 : decode cX11_bitsOf 9 = .ok (.fstore_n 1, 1) := by decide +kernel
theorem dX11_bitsOf_10 : decode cX11_bitsOf 10 = .ok (.sipush 150, 3) := by decide +kernel
theorem dX11_bitsOf_13 : decode cX11_bitsOf 13 = .ok (.istore_n 2, 1) := by decide +kernel
theorem dX11_bitsOf_14 : decode cX11_bitsOf 14 = .ok (.iconst 0, 1) := by decide +kernel
theorem dX11_bitsOf_15 : decode cX11_bitsOf 15 = .ok (.istore_n 3, 1) := by decide +kernel
theorem dX11_bitsOf_16 : decode cX11_bitsOf 16 = .ok (.iload_n 3, 1) := by decide +kernel
theorem dX11_bitsOf_17 : decode cX11_bitsOf 17 = .ok (.sipush 150, 3) := by decide +kernel
theorem dX11_bitsOf_20 : decode cX11_bitsOf 20 = .ok (.if_icmp .ge 24, 3) := by decide +kernel
theorem dX11_bitsOf_23 : decode cX11_bitsOf 23 = .ok (.fload_n 1, 1) := by decide +kernel
theorem dX11_bitsOf_24 : decode cX11_bitsOf 24 = .ok (.ldc_w 323, 3) := by decide +kernel
theorem dX11_bitsOf_27 : decode cX11_bitsOf 27 = .ok (.fcmp .g, 1) := by decide +kernel
theorem dX11_bitsOf_28 : decode cX11_bitsOf 28 = .ok (.ifCond .ge 16, 3) := by decide +kernel
theorem dX11_bitsOf_31 : decode cX11_bitsOf 31 = .ok (.fload_n 1, 1) := by decide +kernel
theorem dX11_bitsOf_32 : decode cX11_bitsOf 32 = .ok (.fconst 2, 1) := by decide +kernel
theorem dX11_bitsOf_33 : decode cX11_bitsOf 33 = .ok (.fmul, 1) := by decide +kernel
theorem dX11_bitsOf_34 : decode cX11_bitsOf 34 = .ok (.fstore_n 1, 1) := by decide +kernel
theorem dX11_bitsOf_35 : decode cX11_bitsOf 35 = .ok (.iinc 2 (-1), 3) := by decide +kernel
theorem dX11_bitsOf_38 : decode cX11_bitsOf 38 = .ok (.iinc 3 1, 3) := by decide +kernel
theorem dX11_bitsOf_41 : decode cX11_bitsOf 41 = .ok (.goto (-25), 3) := by decide +kernel
theorem dX11_bitsOf_44 : decode cX11_bitsOf 44 = .ok (.iload_n 2, 1) := by decide +kernel
theorem dX11_bitsOf_45 : decode cX11_bitsOf 45 = .ok (.bipush 23, 2) := by decide +kernel
theorem dX11_bitsOf_47 : decode cX11_bitsOf 47 = .ok (.ishl, 1) := by decide +kernel
theorem dX11_bitsOf_48 : decode cX11_bitsOf 48 = .ok (.fload_n 1, 1) := by decide +kernel
theorem dX11_bitsOf_49 : decode cX11_bitsOf 49 = .ok (.f2i, 1) := by decide +kernel
theorem dX11_bitsOf_50 : decode cX11_bitsOf 50 = .ok (.ldc_w 324, 3) := by decide +kernel
theorem dX11_bitsOf_53 : decode cX11_bitsOf 53 = .ok (.iand, 1) := by decide +kernel
theorem dX11_bitsOf_54 : decode cX11_bitsOf 54 = .ok (.ior, 1) := by decide +kernel
theorem dX11_bitsOf_55 : decode cX11_bitsOf 55 = .ok (.ireturn, 1) := by decide +kernel
theorem dX11_commonDivisor_0 : decode cX11_commonDivisor 0 = .ok (.iconst 1, 1) := by decide +kernel
theorem dX11_commonDivisor_1 : decode cX11_commonDivisor 1 = .ok (.istore_n 2, 1) := by decide +kernel
theorem dX11_commonDivisor_2 : decode cX11_commonDivisor 2 = .ok (.iconst 2, 1) := by decide +kernel
theorem dX11_commonDivisor_3 : decode cX11_commonDivisor 3 = .ok (.istore_n 3, 1) := by decide +kernel
theorem dX11_commonDivisor_4 : decode cX11_commonDivisor 4 = .ok (.iload_n 3, 1) := by decide +kernel
theorem dX11_commonDivisor_5 : decode cX11_commonDivisor 5 = .ok (.bipush 8, 2) := by decide +kernel
theorem dX11_commonDivisor_7 : decode cX11_commonDivisor 7 = .ok (.if_icmp .gt 23, 3) := by decide +kernel
theorem dX11_commonDivisor_10 : decode cX11_commonDivisor 10 = .ok (.iload_n 0, 1) := by decide +kernel
theorem dX11_commonDivisor_11 : decode cX11_commonDivisor 11 = .ok (.iload_n 3, 1) := by decide +kernel
theorem dX11_commonDivisor_12 : decode cX11_commonDivisor 12 = .ok (.irem, 1) := by decide +kernel
theorem dX11_commonDivisor_13 : decode cX11_commonDivisor 13 = .ok (.ifCond .ne 11, 3) := by decide +kernel
theorem dX11_commonDivisor_16 : decode cX11_commonDivisor 16 = .ok (.iload_n 1, 1) := by decide +kernel
theorem dX11_commonDivisor_17 : decode cX11_commonDivisor 17 = .ok (.iload_n 3, 1) := by decide +kernel
theorem dX11_commonDivisor_18 : decode cX11_commonDivisor 18 = .ok (.irem, 1) := by decide +kernel
theorem dX11_commonDivisor_19 : decode cX11_commonDivisor 19 = .ok (.ifCond .ne 5, 3) := by decide +kernel
theorem dX11_commonDivisor_22 : decode cX11_commonDivisor 22 = .ok (.iload_n 3, 1) := by decide +kernel
theorem dX11_commonDivisor_23 : decode cX11_commonDivisor 23 = .ok (.istore_n 2, 1) := by decide +kernel
theorem dX11_commonDivisor_24 : decode cX11_commonDivisor 24 = .ok (.iinc 3 1, 3) := by decide +kernel
theorem dX11_commonDivisor_27 : decode cX11_commonDivisor 27 = .ok (.goto (-23), 3) := by decide +kernel
theorem dX11_commonDivisor_30 : decode cX11_commonDivisor 30 = .ok (.iload_n 2, 1) := by decide +kernel
theorem dX11_commonDivisor_31 : decode cX11_commonDivisor 31 = .ok (.ireturn, 1) := by decide +kernel
theorem dX11_sayDesk_0 : decode cX11_sayDesk 0 = .ok (.aload_n 0, 1) := by decide +kernel
theorem dX11_sayDesk_1 : decode cX11_sayDesk 1 = .ok (.getfield 41, 3) := by decide +kernel
theorem dX11_sayDesk_4 : decode cX11_sayDesk 4 = .ok (.aload_n 0, 1) := by decide +kernel
theorem dX11_sayDesk_5 : decode cX11_sayDesk 5 = .ok (.getfield 21, 3) := by decide +kernel
theorem dX11_sayDesk_8 : decode cX11_sayDesk 8 = .ok (.aload_n 0, 1) := by decide +kernel
theorem dX11_sayDesk_9 : decode cX11_sayDesk 9 = .ok (.getfield 21, 3) := by decide +kernel
theorem dX11_sayDesk_12 : decode cX11_sayDesk 12 = .ok (.getfield 175, 3) := by decide +kernel
theorem dX11_sayDesk_15 : decode cX11_sayDesk 15 = .ok (.aload_n 0, 1) := by decide +kernel
theorem dX11_sayDesk_16 : decode cX11_sayDesk 16 = .ok (.getfield 21, 3) := by decide +kernel
theorem dX11_sayDesk_19 : decode cX11_sayDesk 19 = .ok (.getfield 175, 3) := by decide +kernel
theorem dX11_sayDesk_22 : decode cX11_sayDesk 22 = .ok (.getfield 325, 3) := by decide +kernel
theorem dX11_sayDesk_25 : decode cX11_sayDesk 25 = .ok (.aload_n 0, 1) := by decide +kernel
theorem dX11_sayDesk_26 : decode cX11_sayDesk 26 = .ok (.getfield 21, 3) := by decide +kernel
theorem dX11_sayDesk_29 : decode cX11_sayDesk 29 = .ok (.getfield 175, 3) := by decide +kernel
theorem dX11_sayDesk_32 : decode cX11_sayDesk 32 = .ok (.getfield 202, 3) := by decide +kernel
theorem dX11_sayDesk_35 : decode cX11_sayDesk 35 = .ok (.invokevirtual 328, 3) := by decide +kernel
theorem dX11_sayDesk_38 : decode cX11_sayDesk 38 = .ok (.ireturn, 1) := by decide +kernel
theorem dX11_sayDrawn_0 : decode cX11_sayDrawn 0 = .ok (.aload_n 0, 1) := by decide +kernel
theorem dX11_sayDrawn_1 : decode cX11_sayDrawn 1 = .ok (.getfield 48, 3) := by decide +kernel
theorem dX11_sayDrawn_4 : decode cX11_sayDrawn 4 = .ok (.getfield 332, 3) := by decide +kernel
theorem dX11_sayDrawn_7 : decode cX11_sayDrawn 7 = .ok (.astore_n 2, 1) := by decide +kernel
theorem dX11_sayDrawn_8 : decode cX11_sayDrawn 8 = .ok (.aload_n 0, 1) := by decide +kernel
theorem dX11_sayDrawn_9 : decode cX11_sayDrawn 9 = .ok (.getfield 48, 3) := by decide +kernel
theorem dX11_sayDrawn_12 : decode cX11_sayDrawn 12 = .ok (.aload_n 0, 1) := by decide +kernel
theorem dX11_sayDrawn_13 : decode cX11_sayDrawn 13 = .ok (.getfield 21, 3) := by decide +kernel
theorem dX11_sayDrawn_16 : decode cX11_sayDrawn 16 = .ok (.iload_n 1, 1) := by decide +kernel
theorem dX11_sayDrawn_17 : decode cX11_sayDrawn 17 = .ok (.invokevirtual 335, 3) := by decide +kernel
theorem dX11_sayDrawn_20 : decode cX11_sayDrawn 20 = .ok (.ifCond .eq 30, 3) := by decide +kernel
theorem dX11_sayDrawn_23 : decode cX11_sayDrawn 23 = .ok (.aload_n 0, 1) := by decide +kernel
theorem dX11_sayDrawn_24 : decode cX11_sayDrawn 24 = .ok (.getfield 41, 3) := by decide +kernel
theorem dX11_sayDrawn_27 : decode cX11_sayDrawn 27 = .ok (.aload_n 0, 1) := by decide +kernel
theorem dX11_sayDrawn_28 : decode cX11_sayDrawn 28 = .ok (.getfield 21, 3) := by decide +kernel
theorem dX11_sayDrawn_31 : decode cX11_sayDrawn 31 = .ok (.aload_n 2, 1) := by decide +kernel
theorem dX11_sayDrawn_32 : decode cX11_sayDrawn 32 = .ok (.aload_n 2, 1) := by decide +kernel
theorem dX11_sayDrawn_33 : decode cX11_sayDrawn 33 = .ok (.getfield 325, 3) := by decide +kernel
theorem dX11_sayDrawn_36 : decode cX11_sayDrawn 36 = .ok (.aload_n 2, 1) := by decide +kernel
theorem dX11_sayDrawn_37 : decode cX11_sayDrawn 37 = .ok (.getfield 202, 3) := by decide +kernel
theorem dX11_sayDrawn_40 : decode cX11_sayDrawn 40 = .ok (.invokevirtual 328, 3) := by decide +kernel
theorem dX11_sayDrawn_43 : decode cX11_sayDrawn 43 = .ok (.ifCond .eq 7, 3) := by decide +kernel
theorem dX11_sayDrawn_46 : decode cX11_sayDrawn 46 = .ok (.iconst 1, 1) := by decide +kernel
theorem dX11_sayDrawn_47 : decode cX11_sayDrawn 47 = .ok (.goto 4, 3) := by decide +kernel
theorem dX11_sayDrawn_50 : decode cX11_sayDrawn 50 = .ok (.iconst 0, 1) := by decide +kernel
theorem dX11_sayDrawn_51 : decode cX11_sayDrawn 51 = .ok (.ireturn, 1) := by decide +kernel
theorem dX11_sheetAt_0 : decode cX11_sheetAt 0 = .ok (.iload_n 1, 1) := by decide +kernel
theorem dX11_sheetAt_1 : decode cX11_sheetAt 1 = .ok (.ifCond .lt 21, 3) := by decide +kernel
theorem dX11_sheetAt_4 : decode cX11_sheetAt 4 = .ok (.iload_n 1, 1) := by decide +kernel
theorem dX11_sheetAt_5 : decode cX11_sheetAt 5 = .ok (.aload_n 0, 1) := by decide +kernel
theorem dX11_sheetAt_6 : decode cX11_sheetAt 6 = .ok (.getfield 61, 3) := by decide +kernel
theorem dX11_sheetAt_9 : decode cX11_sheetAt 9 = .ok (.arraylength, 1) := by decide +kernel
theorem dX11_sheetAt_10 : decode cX11_sheetAt 10 = .ok (.if_icmp .ge 12, 3) := by decide +kernel
theorem dX11_sheetAt_13 : decode cX11_sheetAt 13 = .ok (.aload_n 0, 1) := by decide +kernel
theorem dX11_sheetAt_14 : decode cX11_sheetAt 14 = .ok (.getfield 61, 3) := by decide +kernel
theorem dX11_sheetAt_17 : decode cX11_sheetAt 17 = .ok (.iload_n 1, 1) := by decide +kernel
theorem dX11_sheetAt_18 : decode cX11_sheetAt 18 = .ok (.aaload, 1) := by decide +kernel
theorem dX11_sheetAt_19 : decode cX11_sheetAt 19 = .ok (.goto 4, 3) := by decide +kernel
theorem dX11_sheetAt_22 : decode cX11_sheetAt 22 = .ok (.aconst_null, 1) := by decide +kernel
theorem dX11_sheetAt_23 : decode cX11_sheetAt 23 = .ok (.areturn, 1) := by decide +kernel
theorem dX11_trayAt_0 : decode cX11_trayAt 0 = .ok (.iload_n 1, 1) := by decide +kernel
theorem dX11_trayAt_1 : decode cX11_trayAt 1 = .ok (.ifCond .lt 21, 3) := by decide +kernel
theorem dX11_trayAt_4 : decode cX11_trayAt 4 = .ok (.iload_n 1, 1) := by decide +kernel
theorem dX11_trayAt_5 : decode cX11_trayAt 5 = .ok (.aload_n 0, 1) := by decide +kernel
theorem dX11_trayAt_6 : decode cX11_trayAt 6 = .ok (.getfield 67, 3) := by decide +kernel
theorem dX11_trayAt_9 : decode cX11_trayAt 9 = .ok (.arraylength, 1) := by decide +kernel
theorem dX11_trayAt_10 : decode cX11_trayAt 10 = .ok (.if_icmp .ge 12, 3) := by decide +kernel
theorem dX11_trayAt_13 : decode cX11_trayAt 13 = .ok (.aload_n 0, 1) := by decide +kernel
theorem dX11_trayAt_14 : decode cX11_trayAt 14 = .ok (.getfield 67, 3) := by decide +kernel
theorem dX11_trayAt_17 : decode cX11_trayAt 17 = .ok (.iload_n 1, 1) := by decide +kernel
theorem dX11_trayAt_18 : decode cX11_trayAt 18 = .ok (.aaload, 1) := by decide +kernel
theorem dX11_trayAt_19 : decode cX11_trayAt 19 = .ok (.goto 4, 3) := by decide +kernel
theorem dX11_trayAt_22 : decode cX11_trayAt 22 = .ok (.aconst_null, 1) := by decide +kernel
theorem dX11_trayAt_23 : decode cX11_trayAt 23 = .ok (.areturn, 1) := by decide +kernel
theorem dX11_firstOtherwise_0 : decode cX11_firstOtherwise 0 = .ok (.aload_n 1, 1) := by decide +kernel
theorem dX11_firstOtherwise_1 : decode cX11_firstOtherwise 1 = .ok (.getfield 285, 3) := by decide +kernel
theorem dX11_firstOtherwise_4 : decode cX11_firstOtherwise 4 = .ok (.aload_n 0, 1) := by decide +kernel
theorem dX11_firstOtherwise_5 : decode cX11_firstOtherwise 5 = .ok (.getfield 41, 3) := by decide +kernel
theorem dX11_firstOtherwise_8 : decode cX11_firstOtherwise 8 = .ok (.getfield 339, 3) := by decide +kernel
theorem dX11_firstOtherwise_11 : decode cX11_firstOtherwise 11 = .ok (.invokestatic 341, 3) := by decide +kernel
theorem dX11_firstOtherwise_14 : decode cX11_firstOtherwise 14 = .ok (.istore_n 2, 1) := by decide +kernel
theorem dX11_firstOtherwise_15 : decode cX11_firstOtherwise 15 = .ok (.iconst 0, 1) := by decide +kernel
theorem dX11_firstOtherwise_16 : decode cX11_firstOtherwise 16 = .ok (.istore_n 3, 1) := by decide +kernel
theorem dX11_firstOtherwise_17 : decode cX11_firstOtherwise 17 = .ok (.iload_n 3, 1) := by decide +kernel
theorem dX11_firstOtherwise_18 : decode cX11_firstOtherwise 18 = .ok (.iload_n 2, 1) := by decide +kernel
theorem dX11_firstOtherwise_19 : decode cX11_firstOtherwise 19 = .ok (.if_icmp .ge 27, 3) := by decide +kernel
theorem dX11_firstOtherwise_22 : decode cX11_firstOtherwise 22 = .ok (.aload_n 1, 1) := by decide +kernel
theorem dX11_firstOtherwise_23 : decode cX11_firstOtherwise 23 = .ok (.iload_n 3, 1) := by decide +kernel
theorem dX11_firstOtherwise_24 : decode cX11_firstOtherwise 24 = .ok (.invokevirtual 346, 3) := by decide +kernel
theorem dX11_firstOtherwise_27 : decode cX11_firstOtherwise 27 = .ok (.aload_n 0, 1) := by decide +kernel
theorem dX11_firstOtherwise_28 : decode cX11_firstOtherwise 28 = .ok (.getfield 41, 3) := by decide +kernel
theorem dX11_firstOtherwise_31 : decode cX11_firstOtherwise 31 = .ok (.iload_n 3, 1) := by decide +kernel
theorem dX11_firstOtherwise_32 : decode cX11_firstOtherwise 32 = .ok (.invokevirtual 347, 3) := by decide +kernel
theorem dX11_firstOtherwise_35 : decode cX11_firstOtherwise 35 = .ok (.if_icmp .eq 5, 3) := by decide +kernel
theorem dX11_firstOtherwise_38 : decode cX11_firstOtherwise 38 = .ok (.iload_n 3, 1) := by decide +kernel
theorem dX11_firstOtherwise_39 : decode cX11_firstOtherwise 39 = .ok (.ireturn, 1) := by decide +kernel
theorem dX11_firstOtherwise_40 : decode cX11_firstOtherwise 40 = .ok (.iinc 3 1, 3) := by decide +kernel
theorem dX11_firstOtherwise_43 : decode cX11_firstOtherwise 43 = .ok (.goto (-26), 3) := by decide +kernel
theorem dX11_firstOtherwise_46 : decode cX11_firstOtherwise 46 = .ok (.aload_n 1, 1) := by decide +kernel
theorem dX11_firstOtherwise_47 : decode cX11_firstOtherwise 47 = .ok (.getfield 285, 3) := by decide +kernel
theorem dX11_firstOtherwise_50 : decode cX11_firstOtherwise 50 = .ok (.aload_n 0, 1) := by decide +kernel
theorem dX11_firstOtherwise_51 : decode cX11_firstOtherwise 51 = .ok (.getfield 41, 3) := by decide +kernel
theorem dX11_firstOtherwise_54 : decode cX11_firstOtherwise 54 = .ok (.getfield 339, 3) := by decide +kernel
theorem dX11_firstOtherwise_57 : decode cX11_firstOtherwise 57 = .ok (.if_icmp .ne 7, 3) := by decide +kernel
theorem dX11_firstOtherwise_60 : decode cX11_firstOtherwise 60 = .ok (.iconst (-1), 1) := by decide +kernel
theorem dX11_firstOtherwise_61 : decode cX11_firstOtherwise 61 = .ok (.goto 4, 3) := by decide +kernel
theorem dX11_firstOtherwise_64 : decode cX11_firstOtherwise 64 = .ok (.iload_n 2, 1) := by decide +kernel
theorem dX11_firstOtherwise_65 : decode cX11_firstOtherwise 65 = .ok (.ireturn, 1) := by decide +kernel
theorem dX11_moodsTold_0 : decode cX11_moodsTold 0 = .ok (.iconst 0, 1) := by decide +kernel
theorem dX11_moodsTold_1 : decode cX11_moodsTold 1 = .ok (.istore_n 2, 1) := by decide +kernel
theorem dX11_moodsTold_2 : decode cX11_moodsTold 2 = .ok (.iconst 0, 1) := by decide +kernel
theorem dX11_moodsTold_3 : decode cX11_moodsTold 3 = .ok (.istore_n 3, 1) := by decide +kernel
theorem dX11_moodsTold_4 : decode cX11_moodsTold 4 = .ok (.iload_n 3, 1) := by decide +kernel
theorem dX11_moodsTold_5 : decode cX11_moodsTold 5 = .ok (.iconst 4, 1) := by decide +kernel
theorem dX11_moodsTold_6 : decode cX11_moodsTold 6 = .ok (.if_icmp .ge 58, 3) := by decide +kernel
theorem dX11_moodsTold_9 : decode cX11_moodsTold 9 = .ok (.aload_n 0, 1) := by decide +kernel
theorem dX11_moodsTold_10 : decode cX11_moodsTold 10 = .ok (.getfield 41, 3) := by decide +kernel
theorem dX11_moodsTold_13 : decode cX11_moodsTold 13 = .ok (.aload_n 0, 1) := by decide +kernel
theorem dX11_moodsTold_14 : decode cX11_moodsTold 14 = .ok (.getfield 21, 3) := by decide +kernel
theorem dX11_moodsTold_17 : decode cX11_moodsTold 17 = .ok (.aload_n 0, 1) := by decide +kernel
theorem dX11_moodsTold_18 : decode cX11_moodsTold 18 = .ok (.getfield 21, 3) := by decide +kernel
theorem dX11_moodsTold_21 : decode cX11_moodsTold 21 = .ok (.getfield 175, 3) := by decide +kernel
theorem dX11_moodsTold_24 : decode cX11_moodsTold 24 = .ok (.iload_n 3, 1) := by decide +kernel
theorem dX11_moodsTold_25 : decode cX11_moodsTold 25 = .ok (.aload_n 0, 1) := by decide +kernel
theorem dX11_moodsTold_26 : decode cX11_moodsTold 26 = .ok (.getfield 21, 3) := by decide +kernel
theorem dX11_moodsTold_29 : decode cX11_moodsTold 29 = .ok (.getfield 175, 3) := by decide +kernel
theorem dX11_moodsTold_32 : decode cX11_moodsTold 32 = .ok (.getfield 202, 3) := by decide +kernel
theorem dX11_moodsTold_35 : decode cX11_moodsTold 35 = .ok (.invokevirtual 328, 3) := by decide +kernel
theorem dX11_moodsTold_38 : decode cX11_moodsTold 38 = .ok (.pop, 1) := by decide +kernel
theorem dX11_moodsTold_39 : decode cX11_moodsTold 39 = .ok (.iload_n 2, 1) := by decide +kernel
theorem dX11_moodsTold_40 : decode cX11_moodsTold 40 = .ok (.aload_n 0, 1) := by decide +kernel
theorem dX11_moodsTold_41 : decode cX11_moodsTold 41 = .ok (.aload_n 1, 1) := by decide +kernel
theorem dX11_moodsTold_42 : decode cX11_moodsTold 42 = .ok (.invokevirtual 286, 3) := by decide +kernel
theorem dX11_moodsTold_45 : decode cX11_moodsTold 45 = .ok (.iconst (-1), 1) := by decide +kernel
theorem dX11_moodsTold_46 : decode cX11_moodsTold 46 = .ok (.if_icmp .ne 9, 3) := by decide +kernel
theorem dX11_moodsTold_49 : decode cX11_moodsTold 49 = .ok (.iconst 1, 1) := by decide +kernel
theorem dX11_moodsTold_50 : decode cX11_moodsTold 50 = .ok (.iload_n 3, 1) := by decide +kernel
theorem dX11_moodsTold_51 : decode cX11_moodsTold 51 = .ok (.ishl, 1) := by decide +kernel
theorem dX11_moodsTold_52 : decode cX11_moodsTold 52 = .ok (.goto 4, 3) := by decide +kernel
theorem dX11_moodsTold_55 : decode cX11_moodsTold 55 = .ok (.iconst 0, 1) := by decide +kernel
theorem dX11_moodsTold_56 : decode cX11_moodsTold 56 = .ok (.ior, 1) := by decide +kernel
theorem dX11_moodsTold_57 : decode cX11_moodsTold 57 = .ok (.istore_n 2, 1) := by decide +kernel
theorem dX11_moodsTold_58 : decode cX11_moodsTold 58 = .ok (.iinc 3 1, 3) := by decide +kernel
theorem dX11_moodsTold_61 : decode cX11_moodsTold 61 = .ok (.goto (-57), 3) := by decide +kernel
theorem dX11_moodsTold_64 : decode cX11_moodsTold 64 = .ok (.iload_n 2, 1) := by decide +kernel
theorem dX11_moodsTold_65 : decode cX11_moodsTold 65 = .ok (.ireturn, 1) := by decide +kernel
theorem dX11_numbersTold_0 : decode cX11_numbersTold 0 = .ok (.iconst 0, 1) := by decide +kernel
theorem dX11_numbersTold_1 : decode cX11_numbersTold 1 = .ok (.istore_n 2, 1) := by decide +kernel
theorem dX11_numbersTold_2 : decode cX11_numbersTold 2 = .ok (.iconst 0, 1) := by decide +kernel
theorem dX11_numbersTold_3 : decode cX11_numbersTold 3 = .ok (.istore_n 3, 1) := by decide +kernel
theorem dX11_numbersTold_4 : decode cX11_numbersTold 4 = .ok (.iload_n 3, 1) := by decide +kernel
theorem dX11_numbersTold_5 : decode cX11_numbersTold 5 = .ok (.bipush 8, 2) := by decide +kernel
theorem dX11_numbersTold_7 : decode cX11_numbersTold 7 = .ok (.if_icmp .ge 58, 3) := by decide +kernel
theorem dX11_numbersTold_10 : decode cX11_numbersTold 10 = .ok (.aload_n 0, 1) := by decide +kernel
theorem dX11_numbersTold_11 : decode cX11_numbersTold 11 = .ok (.getfield 41, 3) := by decide +kernel
theorem dX11_numbersTold_14 : decode cX11_numbersTold 14 = .ok (.aload_n 0, 1) := by decide +kernel
theorem dX11_numbersTold_15 : decode cX11_numbersTold 15 = .ok (.getfield 21, 3) := by decide +kernel
theorem dX11_numbersTold_18 : decode cX11_numbersTold 18 = .ok (.aload_n 0, 1) := by decide +kernel
theorem dX11_numbersTold_19 : decode cX11_numbersTold 19 = .ok (.getfield 21, 3) := by decide +kernel
theorem dX11_numbersTold_22 : decode cX11_numbersTold 22 = .ok (.getfield 175, 3) := by decide +kernel
theorem dX11_numbersTold_25 : decode cX11_numbersTold 25 = .ok (.aload_n 0, 1) := by decide +kernel
theorem dX11_numbersTold_26 : decode cX11_numbersTold 26 = .ok (.getfield 21, 3) := by decide +kernel
theorem dX11_numbersTold_29 : decode cX11_numbersTold 29 = .ok (.getfield 175, 3) := by decide +kernel
theorem dX11_numbersTold_32 : decode cX11_numbersTold 32 = .ok (.getfield 325, 3) := by decide +kernel
theorem dX11_numbersTold_35 : decode cX11_numbersTold 35 = .ok (.iload_n 3, 1) := by decide +kernel
theorem dX11_numbersTold_36 : decode cX11_numbersTold 36 = .ok (.invokevirtual 328, 3) := by decide +kernel
theorem dX11_numbersTold_39 : decode cX11_numbersTold 39 = .ok (.pop, 1) := by decide +kernel
theorem dX11_numbersTold_40 : decode cX11_numbersTold 40 = .ok (.iload_n 2, 1) := by decide +kernel
theorem dX11_numbersTold_41 : decode cX11_numbersTold 41 = .ok (.aload_n 0, 1) := by decide +kernel
theorem dX11_numbersTold_42 : decode cX11_numbersTold 42 = .ok (.aload_n 1, 1) := by decide +kernel
theorem dX11_numbersTold_43 : decode cX11_numbersTold 43 = .ok (.invokevirtual 286, 3) := by decide +kernel
theorem dX11_numbersTold_46 : decode cX11_numbersTold 46 = .ok (.iconst (-1), 1) := by decide +kernel
theorem dX11_numbersTold_47 : decode cX11_numbersTold 47 = .ok (.if_icmp .ne 9, 3) := by decide +kernel
theorem dX11_numbersTold_50 : decode cX11_numbersTold 50 = .ok (.iconst 1, 1) := by decide +kernel
theorem dX11_numbersTold_51 : decode cX11_numbersTold 51 = .ok (.iload_n 3, 1) := by decide +kernel
theorem dX11_numbersTold_52 : decode cX11_numbersTold 52 = .ok (.ishl, 1) := by decide +kernel
theorem dX11_numbersTold_53 : decode cX11_numbersTold 53 = .ok (.goto 4, 3) := by decide +kernel
theorem dX11_numbersTold_56 : decode cX11_numbersTold 56 = .ok (.iconst 0, 1) := by decide +kernel
theorem dX11_numbersTold_57 : decode cX11_numbersTold 57 = .ok (.ior, 1) := by decide +kernel
theorem dX11_numbersTold_58 : decode cX11_numbersTold 58 = .ok (.istore_n 2, 1) := by decide +kernel
theorem dX11_numbersTold_59 : decode cX11_numbersTold 59 = .ok (.iinc 3 1, 3) := by decide +kernel
theorem dX11_numbersTold_62 : decode cX11_numbersTold 62 = .ok (.goto (-58), 3) := by decide +kernel
theorem dX11_numbersTold_65 : decode cX11_numbersTold 65 = .ok (.iload_n 2, 1) := by decide +kernel
theorem dX11_numbersTold_66 : decode cX11_numbersTold 66 = .ok (.ireturn, 1) := by decide +kernel
theorem dX12_init_0 : decode cX12_init 0 = .ok (.aload_n 0, 1) := by decide +kernel
theorem dX12_init_1 : decode cX12_init 1 = .ok (.invokespecial 3, 3) := by decide +kernel
theorem dX12_init_4 : decode cX12_init 4 = .ok (.aload_n 0, 1) := by decide +kernel
theorem dX12_init_5 : decode cX12_init 5 = .ok (.sipush 517, 3) := by decide +kernel
theorem dX12_init_8 : decode cX12_init 8 = .ok (.newarray .int, 2) := by decide +kernel
theorem dX12_init_10 : decode cX12_init 10 = .ok (.putfield 9, 3) := by decide +kernel
theorem dX12_init_13 : decode cX12_init 13 = .ok (.aload_n 0, 1) := by decide +kernel
theorem dX12_init_14 : decode cX12_init 14 = .ok (.sipush 517, 3) := by decide +kernel
theorem dX12_init_17 : decode cX12_init 17 = .ok (.newarray .int, 2) := by decide +kernel
theorem dX12_init_19 : decode cX12_init 19 = .ok (.putfield 13, 3) := by decide +kernel
theorem dX12_init_22 : decode cX12_init 22 = .ok (.aload_n 0, 1) := by decide +kernel
theorem dX12_init_23 : decode cX12_init 23 = .ok (.bipush 50, 2) := by decide +kernel
theorem dX12_init_25 : decode cX12_init 25 = .ok (.newarray .int, 2) := by decide +kernel
theorem dX12_init_27 : decode cX12_init 27 = .ok (.putfield 16, 3) := by decide +kernel
theorem dX12_init_30 : decode cX12_init 30 = .ok (.aload_n 0, 1) := by decide +kernel
theorem dX12_init_31 : decode cX12_init 31 = .ok (.bipush 80, 2) := by decide +kernel
theorem dX12_init_33 : decode cX12_init 33 = .ok (.newarray .int, 2) := by decide +kernel
theorem dX12_init_35 : decode cX12_init 35 = .ok (.putfield 19, 3) := by decide +kernel
theorem dX12_init_38 : decode cX12_init 38 = .ok (.aload_n 0, 1) := by decide +kernel
theorem dX12_init_39 : decode cX12_init 39 = .ok (.bipush 25, 2) := by decide +kernel
theorem dX12_init_41 : decode cX12_init 41 = .ok (.newarray .int, 2) := by decide +kernel
theorem dX12_init_43 : decode cX12_init 43 = .ok (.putfield 22, 3) := by decide +kernel
theorem dX12_init_46 : decode cX12_init 46 = .ok (.aload_n 0, 1) := by decide +kernel
theorem dX12_init_47 : decode cX12_init 47 = .ok (.bipush 80, 2) := by decide +kernel
theorem dX12_init_49 : decode cX12_init 49 = .ok (.newarray .int, 2) := by decide +kernel
theorem dX12_init_51 : decode cX12_init 51 = .ok (.putfield 25, 3) := by decide +kernel
theorem dX12_init_54 : decode cX12_init 54 = .ok (.aload_n 0, 1) := by decide +kernel
theorem dX12_init_55 : decode cX12_init 55 = .ok (.bipush 80, 2) := by decide +kernel
theorem dX12_init_57 : decode cX12_init 57 = .ok (.newarray .int, 2) := by decide +kernel
theorem dX12_init_59 : decode cX12_init 59 = .ok (.putfield 28, 3) := by decide +kernel
theorem dX12_init_62 : decode cX12_init 62 = .ok (.aload_n 0, 1) := by decide +kernel
theorem dX12_init_63 : decode cX12_init 63 = .ok (.bipush 80, 2) := by decide +kernel
theorem dX12_init_65 : decode cX12_init 65 = .ok (.newarray .int, 2) := by decide +kernel
theorem dX12_init_67 : decode cX12_init 67 = .ok (.putfield 31, 3) := by decide +kernel
theorem dX12_init_70 : decode cX12_init 70 = .ok (.aload_n 0, 1) := by decide +kernel
theorem dX12_init_71 : decode cX12_init 71 = .ok (.bipush 80, 2) := by decide +kernel
theorem dX12_init_73 : decode cX12_init 73 = .ok (.newarray .int, 2) := by decide +kernel
theorem dX12_init_75 : decode cX12_init 75 = .ok (.putfield 34, 3) := by decide +kernel
theorem dX12_init_78 : decode cX12_init 78 = .ok (.aload_n 0, 1) := by decide +kernel
theorem dX12_init_79 : decode cX12_init 79 = .ok (.bipush 80, 2) := by decide +kernel
theorem dX12_init_81 : decode cX12_init 81 = .ok (.newarray .int, 2) := by decide +kernel
theorem dX12_init_83 : decode cX12_init 83 = .ok (.putfield 37, 3) := by decide +kernel
theorem dX12_init_86 : decode cX12_init 86 = .ok (.aload_n 0, 1) := by decide +kernel
theorem dX12_init_87 : decode cX12_init 87 = .ok (.bipush 6, 2) := by decide +kernel
theorem dX12_init_89 : decode cX12_init 89 = .ok (.newarray .int, 2) := by decide +kernel
theorem dX12_init_91 : decode cX12_init 91 = .ok (.putfield 40, 3) := by decide +kernel
theorem dX12_init_94 : decode cX12_init 94 = .ok (.aload_n 0, 1) := by decide +kernel
theorem dX12_init_95 : decode cX12_init 95 = .ok (.iconst 4, 1) := by decide +kernel
theorem dX12_init_96 : decode cX12_init 96 = .ok (.newarray .int, 2) := by decide +kernel
theorem dX12_init_98 : decode cX12_init 98 = .ok (.putfield 43, 3) := by decide +kernel
theorem dX12_init_101 : decode cX12_init 101 = .ok (.aload_n 0, 1) := by decide +kernel
theorem dX12_init_102 : decode cX12_init 102 = .ok (.iconst 4, 1) := by decide +kernel
theorem dX12_init_103 : decode cX12_init 103 = .ok (.newarray .int, 2) := by decide +kernel
theorem dX12_init_105 : decode cX12_init 105 = .ok (.putfield 46, 3) := by decide +kernel
theorem dX12_init_108 : decode cX12_init 108 = .ok (.aload_n 0, 1) := by decide +kernel
theorem dX12_init_109 : decode cX12_init 109 = .ok (.bipush 80, 2) := by decide +kernel
theorem dX12_init_111 : decode cX12_init 111 = .ok (.newarray .int, 2) := by decide +kernel
theorem dX12_init_113 : decode cX12_init 113 = .ok (.putfield 49, 3) := by decide +kernel
theorem dX12_init_116 : decode cX12_init 116 = .ok (.aload_n 0, 1) := by decide +kernel
theorem dX12_init_117 : decode cX12_init 117 = .ok (.iconst 4, 1) := by decide +kernel
theorem dX12_init_118 : decode cX12_init 118 = .ok (.newarray .int, 2) := by decide +kernel
theorem dX12_init_120 : decode cX12_init 120 = .ok (.putfield 52, 3) := by decide +kernel
theorem dX12_init_123 : decode cX12_init 123 = .ok (.aload_n 0, 1) := by decide +kernel
theorem dX12_init_124 : decode cX12_init 124 = .ok (.iconst 4, 1) := by decide +kernel
theorem dX12_init_125 : decode cX12_init 125 = .ok (.newarray .int, 2) := by decide +kernel
theorem dX12_init_127 : decode cX12_init 127 = .ok (.putfield 55, 3) := by decide +kernel
theorem dX12_init_130 : decode cX12_init 130 = .ok (.aload_n 0, 1) := by decide +kernel
theorem dX12_init_131 : decode cX12_init 131 = .ok (.sipush 160, 3) := by decide +kernel
theorem dX12_init_134 : decode cX12_init 134 = .ok (.newarray .int, 2) := by decide +kernel
theorem dX12_init_136 : decode cX12_init 136 = .ok (.putfield 58, 3) := by decide +kernel
theorem dX12_init_139 : decode cX12_init 139 = .ok (.aload_n 0, 1) := by decide +kernel
theorem dX12_init_140 : decode cX12_init 140 = .ok (.bipush 40, 2) := by decide +kernel
theorem dX12_init_142 : decode cX12_init 142 = .ok (.newarray .int, 2) := by decide +kernel
theorem dX12_init_144 : decode cX12_init 144 = .ok (.putfield 61, 3) := by decide +kernel
theorem dX12_init_147 : decode cX12_init 147 = .ok (.aload_n 0, 1) := by decide +kernel
theorem dX12_init_148 : decode cX12_init 148 = .ok (.getfield 9, 3) := by decide +kernel
theorem dX12_init_151 : decode cX12_init 151 = .ok (.iconst 2, 1) := by decide +kernel
theorem dX12_init_152 : decode cX12_init 152 = .ok (.iconst (-1), 1) := by decide +kernel
theorem dX12_init_153 : decode cX12_init 153 = .ok (.iastore, 1) := by decide +kernel
theorem dX12_init_154 : decode cX12_init 154 = .ok (.iconst 0, 1) := by decide +kernel
theorem dX12_init_155 : decode cX12_init 155 = .ok (.istore_n 1, 1) := by decide +kernel
theorem dX12_init_156 : decode cX12_init 156 = .ok (.iload_n 1, 1) := by decide +kernel
theorem dX12_init_157 : decode cX12_init 157 = .ok (.iconst 4, 1) := by decide +kernel
theorem dX12_init_158 : decode cX12_init 158 = .ok (.if_icmp .ge 16, 3) := by decide +kernel
theorem dX12_init_161 : decode cX12_init 161 = .ok (.aload_n 0, 1) := by decide +kernel
theorem dX12_init_162 : decode cX12_init 162 = .ok (.getfield 52, 3) := by decide +kernel
theorem dX12_init_165 : decode cX12_init 165 = .ok (.iload_n 1, 1) := by decide +kernel
theorem dX12_init_166 : decode cX12_init 166 = .ok (.iconst (-1), 1) := by decide +kernel
theorem dX12_init_167 : decode cX12_init 167 = .ok (.iastore, 1) := by decide +kernel
theorem dX12_init_168 : decode cX12_init 168 = .ok (.iinc 1 1, 3) := by decide +kernel
theorem dX12_init_171 : decode cX12_init 171 = .ok (.goto (-15), 3) := by decide +kernel
theorem dX12_init_174 : decode cX12_init 174 = .ok (.iconst 0, 1) := by decide +kernel
theorem dX12_init_175 : decode cX12_init 175 = .ok (.istore_n 1, 1) := by decide +kernel
theorem dX12_init_176 : decode cX12_init 176 = .ok (.iload_n 1, 1) := by decide +kernel
theorem dX12_init_177 : decode cX12_init 177 = .ok (.iconst 4, 1) := by decide +kernel
theorem dX12_init_178 : decode cX12_init 178 = .ok (.if_icmp .ge 16, 3) := by decide +kernel
theorem dX12_init_181 : decode cX12_init 181 = .ok (.aload_n 0, 1) := by decide +kernel
theorem dX12_init_182 : decode cX12_init 182 = .ok (.getfield 43, 3) := by decide +kernel
theorem dX12_init_185 : decode cX12_init 185 = .ok (.iload_n 1, 1) := by decide +kernel
theorem dX12_init_186 : decode cX12_init 186 = .ok (.iconst (-1), 1) := by decide +kernel
theorem dX12_init_187 : decode cX12_init 187 = .ok (.iastore, 1) := by decide +kernel
theorem dX12_init_188 : decode cX12_init 188 = .ok (.iinc 1 1, 3) := by decide +kernel
theorem dX12_init_191 : decode cX12_init 191 = .ok (.goto (-15), 3) := by decide +kernel
theorem dX12_init_194 : decode cX12_init 194 = .ok (.return_, 1) := by decide +kernel
theorem dX12_isIn_0 : decode cX12_isIn 0 = .ok (.iload_n 0, 1) := by decide +kernel
theorem dX12_isIn_1 : decode cX12_isIn 1 = .ok (.iload_n 1, 1) := by decide +kernel
theorem dX12_isIn_2 : decode cX12_isIn 2 = .ok (.if_icmp .lt 12, 3) := by decide +kernel
theorem dX12_isIn_5 : decode cX12_isIn 5 = .ok (.iload_n 0, 1) := by decide +kernel
theorem dX12_isIn_6 : decode cX12_isIn 6 = .ok (.iload_n 2, 1) := by decide +kernel
theorem dX12_isIn_7 : decode cX12_isIn 7 = .ok (.if_icmp .gt 7, 3) := by decide +kernel
theorem dX12_isIn_10 : decode cX12_isIn 10 = .ok (.iconst 1, 1) := by decide +kernel
theorem dX12_isIn_11 : decode cX12_isIn 11 = .ok (.goto 4, 3) := by decide +kernel
theorem dX12_isIn_14 : decode cX12_isIn 14 = .ok (.iconst 0, 1) := by decide +kernel
theorem dX12_isIn_15 : decode cX12_isIn 15 = .ok (.ireturn, 1) := by decide +kernel
theorem dX12_isWord_0 : decode cX12_isWord 0 = .ok (.iload_n 1, 1) := by decide +kernel
theorem dX12_isWord_1 : decode cX12_isWord 1 = .ok (.iconst 0, 1) := by decide +kernel
theorem dX12_isWord_2 : decode cX12_isWord 2 = .ok (.aload_n 0, 1) := by decide +kernel
theorem dX12_isWord_3 : decode cX12_isWord 3 = .ok (.getfield 9, 3) := by decide +kernel
theorem dX12_isWord_6 : decode cX12_isWord 6 = .ok (.iconst 0, 1) := by decide +kernel
theorem dX12_isWord_7 : decode cX12_isWord 7 = .ok (.iaload, 1) := by decide +kernel
theorem dX12_isWord_8 : decode cX12_isWord 8 = .ok (.iconst 1, 1) := by decide +kernel
theorem dX12_isWord_9 : decode cX12_isWord 9 = .ok (.isub, 1) := by decide +kernel
theorem dX12_isWord_10 : decode cX12_isWord 10 = .ok (.invokestatic 64, 3) := by decide +kernel
theorem dX12_isWord_13 : decode cX12_isWord 13 = .ok (.ireturn, 1) := by decide +kernel
theorem dX12_isVowel_0 : decode cX12_isVowel 0 = .ok (.iload_n 0, 1) := by decide +kernel
theorem dX12_isVowel_1 : decode cX12_isVowel 1 = .ok (.bipush 97, 2) := by decide +kernel
theorem dX12_isVowel_3 : decode cX12_isVowel 3 = .ok (.if_icmp .eq 27, 3) := by decide +kernel
theorem dX12_isVowel_6 : decode cX12_isVowel 6 = .ok (.iload_n 0, 1) := by decide +kernel
theorem dX12_isVowel_7 : decode cX12_isVowel 7 = .ok (.bipush 101, 2) := by decide +kernel
theorem dX12_isVowel_9 : decode cX12_isVowel 9 = .ok (.if_icmp .eq 21, 3) := by decide +kernel
theorem dX12_isVowel_12 : decode cX12_isVowel 12 = .ok (.iload_n 0, 1) := by decide +kernel
theorem dX12_isVowel_13 : decode cX12_isVowel 13 = .ok (.bipush 105, 2) := by decide +kernel
theorem dX12_isVowel_15 : decode cX12_isVowel 15 = .ok (.if_icmp .eq 15, 3) := by decide +kernel
theorem dX12_isVowel_18 : decode cX12_isVowel 18 = .ok (.iload_n 0, 1) := by decide +kernel
theorem dX12_isVowel_19 : decode cX12_isVowel 19 = .ok (.bipush 111, 2) := by decide +kernel
theorem dX12_isVowel_21 : decode cX12_isVowel 21 = .ok (.if_icmp .eq 9, 3) := by decide +kernel
theorem dX12_isVowel_24 : decode cX12_isVowel 24 = .ok (.iload_n 0, 1) := by decide +kernel
theorem dX12_isVowel_25 : decode cX12_isVowel 25 = .ok (.bipush 117, 2) := by decide +kernel
theorem dX12_isVowel_27 : decode cX12_isVowel 27 = .ok (.if_icmp .ne 7, 3) := by decide +kernel
theorem dX12_isVowel_30 : decode cX12_isVowel 30 = .ok (.iconst 1, 1) := by decide +kernel
theorem dX12_isVowel_31 : decode cX12_isVowel 31 = .ok (.goto 4, 3) := by decide +kernel
theorem dX12_isVowel_34 : decode cX12_isVowel 34 = .ok (.iconst 0, 1) := by decide +kernel
theorem dX12_isVowel_35 : decode cX12_isVowel 35 = .ok (.ireturn, 1) := by decide +kernel
theorem dX12_kind_0 : decode cX12_kind 0 = .ok (.aload_n 0, 1) := by decide +kernel
theorem dX12_kind_1 : decode cX12_kind 1 = .ok (.getfield 9, 3) := by decide +kernel
theorem dX12_kind_4 : decode cX12_kind 4 = .ok (.bipush 14, 2) := by decide +kernel
theorem dX12_kind_6 : decode cX12_kind 6 = .ok (.bipush 10, 2) := by decide +kernel
theorem dX12_kind_8 : decode cX12_kind 8 = .ok (.iload_n 1, 1) := by decide +kernel
theorem dX12_kind_9 : decode cX12_kind 9 = .ok (.imul, 1) := by decide +kernel
theorem dX12_kind_10 : decode cX12_kind 10 = .ok (.iadd, 1) := by decide +kernel
theorem dX12_kind_11 : decode cX12_kind 11 = .ok (.iaload, 1) := by decide +kernel
theorem dX12_kind_12 : decode cX12_kind 12 = .ok (.ireturn, 1) := by decide +kernel
theorem dX12_gender_0 : decode cX12_gender 0 = .ok (.aload_n 0, 1) := by decide +kernel
theorem dX12_gender_1 : decode cX12_gender 1 = .ok (.getfield 9, 3) := by decide +kernel
theorem dX12_gender_4 : decode cX12_gender 4 = .ok (.bipush 14, 2) := by decide +kernel
theorem dX12_gender_6 : decode cX12_gender 6 = .ok (.bipush 10, 2) := by decide +kernel
theorem dX12_gender_8 : decode cX12_gender 8 = .ok (.iload_n 1, 1) := by decide +kernel
theorem dX12_gender_9 : decode cX12_gender 9 = .ok (.imul, 1) := by decide +kernel
theorem dX12_gender_10 : decode cX12_gender 10 = .ok (.iadd, 1) := by decide +kernel
theorem dX12_gender_11 : decode cX12_gender 11 = .ok (.iconst 2, 1) := by decide +kernel
theorem dX12_gender_12 : decode cX12_gender 12 = .ok (.iadd, 1) := by decide +kernel
theorem dX12_gender_13 : decode cX12_gender 13 = .ok (.iaload, 1) := by decide +kernel
theorem dX12_gender_14 : decode cX12_gender 14 = .ok (.ireturn, 1) := by decide +kernel
theorem dX12_above_0 : decode cX12_above 0 = .ok (.iload_n 0, 1) := by decide +kernel
theorem dX12_above_1 : decode cX12_above 1 = .ok (.ifCond .ne 7, 3) := by decide +kernel
theorem dX12_above_4 : decode cX12_above 4 = .ok (.iconst (-1), 1) := by decide +kernel
theorem dX12_above_5 : decode cX12_above 5 = .ok (.goto 22, 3) := by decide +kernel
theorem dX12_above_8 : decode cX12_above 8 = .ok (.iload_n 0, 1) := by decide +kernel
theorem dX12_above_9 : decode cX12_above 9 = .ok (.iconst 3, 1) := by decide +kernel
theorem dX12_above_10 : decode cX12_above 10 = .ok (.if_icmp .ge 7, 3) := by decide +kernel
theorem dX12_above_13 : decode cX12_above 13 = .ok (.iconst 0, 1) := by decide +kernel
theorem dX12_above_14 : decode cX12_above 14 = .ok (.goto 13, 3) := by decide +kernel
theorem dX12_above_17 : decode cX12_above 17 = .ok (.iload_n 0, 1) := by decide +kernel
theorem dX12_above_18 : decode cX12_above 18 = .ok (.iconst 5, 1) := by decide +kernel
theorem dX12_above_19 : decode cX12_above 19 = .ok (.if_icmp .ge 7, 3) := by decide +kernel
theorem dX12_above_22 : decode cX12_above 22 = .ok (.iconst 1, 1) := by decide +kernel
theorem dX12_above_23 : decode cX12_above 23 = .ok (.goto 4, 3) := by decide +kernel
theorem dX12_above_26 : decode cX12_above 26 = .ok (.iconst 2, 1) := by decide +kernel
theorem dX12_above_27 : decode cX12_above 27 = .ok (.ireturn, 1) := by decide +kernel
theorem dX12_isUnder_0 : decode cX12_isUnder 0 = .ok (.iload_n 0, 1) := by decide +kernel
theorem dX12_isUnder_1 : decode cX12_isUnder 1 = .ok (.istore_n 2, 1) := by decide +kernel
theorem dX12_isUnder_2 : decode cX12_isUnder 2 = .ok (.iload_n 2, 1) := by decide +kernel
theorem dX12_isUnder_3 : decode cX12_isUnder 3 = .ok (.ifCond .lt 16, 3) := by decide +kernel
theorem dX12_isUnder_6 : decode cX12_isUnder 6 = .ok (.iload_n 2, 1) := by decide +kernel
theorem dX12_isUnder_7 : decode cX12_isUnder 7 = .ok (.iload_n 1, 1) := by decide +kernel
theorem dX12_isUnder_8 : decode cX12_isUnder 8 = .ok (.if_icmp .eq 11, 3) := by decide +kernel
theorem dX12_isUnder_11 : decode cX12_isUnder 11 = .ok (.iload_n 2, 1) := by decide +kernel
theorem dX12_isUnder_12 : decode cX12_isUnder 12 = .ok (.invokestatic 68, 3) := by decide +kernel
theorem dX12_isUnder_15 : decode cX12_isUnder 15 = .ok (.istore_n 2, 1) := by decide +kernel
theorem dX12_isUnder_16 : decode cX12_isUnder 16 = .ok (.goto (-14), 3) := by decide +kernel
theorem dX12_isUnder_19 : decode cX12_isUnder 19 = .ok (.iload_n 2, 1) := by decide +kernel
theorem dX12_isUnder_20 : decode cX12_isUnder 20 = .ok (.iload_n 1, 1) := by decide +kernel
theorem dX12_isUnder_21 : decode cX12_isUnder 21 = .ok (.if_icmp .ne 7, 3) := by decide +kernel
theorem dX12_isUnder_24 : decode cX12_isUnder 24 = .ok (.iconst 1, 1) := by decide +kernel
theorem dX12_isUnder_25 : decode cX12_isUnder 25 = .ok (.goto 4, 3) := by decide +kernel
theorem dX12_isUnder_28 : decode cX12_isUnder 28 = .ok (.iconst 0, 1) := by decide +kernel
theorem dX12_isUnder_29 : decode cX12_isUnder 29 = .ok (.ireturn, 1) := by decide +kernel
theorem dX12_feed_0 : decode cX12_feed 0 = .ok (.iload_n 1, 1) := by decide +kernel
theorem dX12_feed_1 : decode cX12_feed 1 = .ok (.iconst 1, 1) := by decide +kernel
theorem dX12_feed_2 : decode cX12_feed 2 = .ok (.iconst 5, 1) := by decide +kernel
theorem dX12_feed_3 : decode cX12_feed 3 = .ok (.invokestatic 64, 3) := by decide +kernel
theorem dX12_feed_6 : decode cX12_feed 6 = .ok (.ifCond .eq 61, 3) := by decide +kernel
theorem dX12_feed_9 : decode cX12_feed 9 = .ok (.iload_n 2, 1) := by decide +kernel
theorem dX12_feed_10 : decode cX12_feed 10 = .ok (.iconst 0, 1) := by decide +kernel
theorem dX12_feed_11 : decode cX12_feed 11 = .ok (.sipush 255, 3) := by decide +kernel
theorem dX12_feed_14 : decode cX12_feed 14 = .ok (.invokestatic 64, 3) := by decide +kernel
theorem dX12_feed_17 : decode cX12_feed 17 = .ok (.ifCond .eq 50, 3) := by decide +kernel
theorem dX12_feed_20 : decode cX12_feed 20 = .ok (.iload_n 3, 1) := by decide +kernel
theorem dX12_feed_21 : decode cX12_feed 21 = .ok (.iconst 0, 1) := by decide +kernel
theorem dX12_feed_22 : decode cX12_feed 22 = .ok (.sipush 255, 3) := by decide +kernel
theorem dX12_feed_25 : decode cX12_feed 25 = .ok (.invokestatic 64, 3) := by decide +kernel
theorem dX12_feed_28 : decode cX12_feed 28 = .ok (.ifCond .eq 39, 3) := by decide +kernel
theorem dX12_feed_31 : decode cX12_feed 31 = .ok (.iload 4, 2) := by decide +kernel
theorem dX12_feed_33 : decode cX12_feed 33 = .ok (.iconst 0, 1) := by decide +kernel
theorem dX12_feed_34 : decode cX12_feed 34 = .ok (.sipush 255, 3) := by decide +kernel
theorem dX12_feed_37 : decode cX12_feed 37 = .ok (.invokestatic 64, 3) := by decide +kernel
theorem dX12_feed_40 : decode cX12_feed 40 = .ok (.ifCond .eq 27, 3) := by decide +kernel
theorem dX12_feed_43 : decode cX12_feed 43 = .ok (.iload 5, 2) := by decide +kernel
theorem dX12_feed_45 : decode cX12_feed 45 = .ok (.iconst 0, 1) := by decide +kernel
theorem dX12_feed_46 : decode cX12_feed 46 = .ok (.sipush 255, 3) := by decide +kernel
theorem dX12_feed_49 : decode cX12_feed 49 = .ok (.invokestatic 64, 3) := by decide +kernel
theorem dX12_feed_52 : decode cX12_feed 52 = .ok (.ifCond .eq 15, 3) := by decide +kernel
theorem dX12_feed_55 : decode cX12_feed 55 = .ok (.iload 6, 2) := by decide +kernel
theorem dX12_feed_57 : decode cX12_feed 57 = .ok (.iconst 0, 1) := by decide +kernel
theorem dX12_feed_58 : decode cX12_feed 58 = .ok (.sipush 255, 3) := by decide +kernel
theorem dX12_feed_61 : decode cX12_feed 61 = .ok (.invokestatic 64, 3) := by decide +kernel
theorem dX12_feed_64 : decode cX12_feed 64 = .ok (.ifCond .ne 6, 3) := by decide +kernel
theorem dX12_feed_67 : decode cX12_feed 67 = .ok (.bipush (-2), 2) := by decide +kernel
theorem dX12_feed_69 : decode cX12_feed 69 = .ok (.ireturn, 1) := by decide +kernel
theorem dX12_feed_70 : decode cX12_feed 70 = .ok (.aload_n 0, 1) := by decide +kernel
theorem dX12_feed_71 : decode cX12_feed 71 = .ok (.getfield 72, 3) := by decide +kernel
theorem dX12_feed_74 : decode cX12_feed 74 = .ok (.iload_n 1, 1) := by decide +kernel
theorem dX12_feed_75 : decode cX12_feed 75 = .ok (.iadd, 1) := by decide +kernel
theorem dX12_feed_76 : decode cX12_feed 76 = .ok (.bipush 50, 2) := by decide +kernel
theorem dX12_feed_78 : decode cX12_feed 78 = .ok (.if_icmp .le 6, 3) := by decide +kernel
theorem dX12_feed_81 : decode cX12_feed 81 = .ok (.bipush (-4), 2) := by decide +kernel
theorem dX12_feed_83 : decode cX12_feed 83 = .ok (.ireturn, 1) := by decide +kernel
theorem dX12_feed_84 : decode cX12_feed 84 = .ok (.iconst 0, 1) := by decide +kernel
theorem dX12_feed_85 : decode cX12_feed 85 = .ok (.istore 7, 2) := by decide +kernel
theorem dX12_feed_87 : decode cX12_feed 87 = .ok (.iload 7, 2) := by decide +kernel
theorem dX12_feed_89 : decode cX12_feed 89 = .ok (.iload_n 1, 1) := by decide +kernel
theorem dX12_feed_90 : decode cX12_feed 90 = .ok (.if_icmp .ge 64, 3) := by decide +kernel
theorem dX12_feed_93 : decode cX12_feed 93 = .ok (.aload_n 0, 1) := by decide +kernel
theorem dX12_feed_94 : decode cX12_feed 94 = .ok (.getfield 16, 3) := by decide +kernel
theorem dX12_feed_97 : decode cX12_feed 97 = .ok (.aload_n 0, 1) := by decide +kernel
theorem dX12_feed_98 : decode cX12_feed 98 = .ok (.getfield 72, 3) := by decide +kernel
theorem dX12_feed_101 : decode cX12_feed 101 = .ok (.iload 7, 2) := by decide +kernel
theorem dX12_feed_103 : decode cX12_feed 103 = .ok (.iadd, 1) := by decide +kernel
theorem dX12_feed_104 : decode cX12_feed 104 = .ok (.iload 7, 2) := by decide +kernel
theorem dX12_feed_106 : decode cX12_feed 106 = .ok (.ifCond .ne 7, 3) := by decide +kernel
theorem dX12_feed_109 : decode cX12_feed 109 = .ok (.iload_n 2, 1) := by decide +kernel
theorem dX12_feed_110 : decode cX12_feed 110 = .ok (.goto 37, 3) := by decide +kernel
theorem dX12_feed_113 : decode cX12_feed 113 = .ok (.iload 7, 2) := by decide +kernel
theorem dX12_feed_115 : decode cX12_feed 115 = .ok (.iconst 1, 1) := by decide +kernel
theorem dX12_feed_116 : decode cX12_feed 116 = .ok (.if_icmp .ne 7, 3) := by decide +kernel
theorem dX12_feed_119 : decode cX12_feed 119 = .ok (.iload_n 3, 1) := by decide +kernel
theorem dX12_feed_120 : decode cX12_feed 120 = .ok (.goto 27, 3) := by decide +kernel
theorem dX12_feed_123 : decode cX12_feed 123 = .ok (.iload 7, 2) := by decide +kernel
theorem dX12_feed_125 : decode cX12_feed 125 = .ok (.iconst 2, 1) := by decide +kernel
theorem dX12_feed_126 : decode cX12_feed 126 = .ok (.if_icmp .ne 8, 3) := by decide +kernel
theorem dX12_feed_129 : decode cX12_feed 129 = .ok (.iload 4, 2) := by decide +kernel
theorem dX12_feed_131 : decode cX12_feed 131 = .ok (.goto 16, 3) := by decide +kernel
theorem dX12_feed_134 : decode cX12_feed 134 = .ok (.iload 7, 2) := by decide +kernel
theorem dX12_feed_136 : decode cX12_feed 136 = .ok (.iconst 3, 1) := by decide +kernel
theorem dX12_feed_137 : decode cX12_feed 137 = .ok (.if_icmp .ne 8, 3) := by decide +kernel
theorem dX12_feed_140 : decode cX12_feed 140 = .ok (.iload 5, 2) := by decide +kernel
theorem dX12_feed_142 : decode cX12_feed 142 = .ok (.goto 5, 3) := by decide +kernel
theorem dX12_feed_145 : decode cX12_feed 145 = .ok (.iload 6, 2) := by decide +kernel
theorem dX12_feed_147 : decode cX12_feed 147 = .ok (.iastore, 1) := by decide +kernel
theorem dX12_feed_148 : decode cX12_feed 148 = .ok (.iinc 7 1, 3) := by decide +kernel
theorem dX12_feed_151 : decode cX12_feed 151 = .ok (.goto (-64), 3) := by decide +kernel
theorem dX12_feed_154 : decode cX12_feed 154 = .ok (.aload_n 0, 1) := by decide +kernel
theorem dX12_feed_155 : decode cX12_feed 155 = .ok (.dup, 1) := by decide +kernel
theorem dX12_feed_156 : decode cX12_feed 156 = .ok (.getfield 72, 3) := by decide +kernel
theorem dX12_feed_159 : decode cX12_feed 159 = .ok (.iload_n 1, 1) := by decide +kernel
theorem dX12_feed_160 : decode cX12_feed 160 = .ok (.iadd, 1) := by decide +kernel
theorem dX12_feed_161 : decode cX12_feed 161 = .ok (.putfield 72, 3) := by decide +kernel
theorem dX12_feed_164 : decode cX12_feed 164 = .ok (.aload_n 0, 1) := by decide +kernel
theorem dX12_feed_165 : decode cX12_feed 165 = .ok (.getfield 72, 3) := by decide +kernel
theorem dX12_feed_168 : decode cX12_feed 168 = .ok (.ireturn, 1) := by decide +kernel
theorem dX12_letters_0 : decode cX12_letters 0 = .ok (.aload_n 0, 1) := by decide +kernel
theorem dX12_letters_1 : decode cX12_letters 1 = .ok (.getfield 72, 3) := by decide +kernel
theorem dX12_letters_4 : decode cX12_letters 4 = .ok (.istore_n 3, 1) := by decide +kernel
theorem dX12_letters_5 : decode cX12_letters 5 = .ok (.aload_n 0, 1) := by decide +kernel
theorem dX12_letters_6 : decode cX12_letters 6 = .ok (.iconst 0, 1) := by decide +kernel
theorem dX12_letters_7 : decode cX12_letters 7 = .ok (.putfield 72, 3) := by decide +kernel
theorem dX12_letters_10 : decode cX12_letters 10 = .ok (.iload_n 3, 1) := by decide +kernel
theorem dX12_letters_11 : decode cX12_letters 11 = .ok (.iload_n 1, 1) := by decide +kernel
theorem dX12_letters_12 : decode cX12_letters 12 = .ok (.iload_n 2, 1) := by decide +kernel
theorem dX12_letters_13 : decode cX12_letters 13 = .ok (.invokestatic 64, 3) := by decide +kernel
theorem dX12_letters_16 : decode cX12_letters 16 = .ok (.ifCond .ne 5, 3) := by decide +kernel
theorem dX12_letters_19 : decode cX12_letters 19 = .ok (.iconst (-1), 1) := by decide +kernel
theorem dX12_letters_20 : decode cX12_letters 20 = .ok (.ireturn, 1) := by decide +kernel
theorem dX12_letters_21 : decode cX12_letters 21 = .ok (.iconst 0, 1) := by decide +kernel
theorem dX12_letters_22 : decode cX12_letters 22 = .ok (.istore 4, 2) := by decide +kernel
theorem dX12_letters_24 : decode cX12_letters 24 = .ok (.iload 4, 2) := by decide +kernel
theorem dX12_letters_26 : decode cX12_letters 26 = .ok (.iload_n 3, 1) := by decide +kernel
theorem dX12_letters_27 : decode cX12_letters 27 = .ok (.if_icmp .ge 28, 3) := by decide +kernel
theorem dX12_letters_30 : decode cX12_letters 30 = .ok (.aload_n 0, 1) := by decide +kernel
theorem dX12_letters_31 : decode cX12_letters 31 = .ok (.getfield 16, 3) := by decide +kernel
theorem dX12_letters_34 : decode cX12_letters 34 = .ok (.iload 4, 2) := by decide +kernel
theorem dX12_letters_36 : decode cX12_letters 36 = .ok (.iaload, 1) := by decide +kernel
theorem dX12_letters_37 : decode cX12_letters 37 = .ok (.bipush 97, 2) := by decide +kernel
theorem dX12_letters_39 : decode cX12_letters 39 = .ok (.bipush 122, 2) := by decide +kernel
theorem dX12_letters_41 : decode cX12_letters 41 = .ok (.invokestatic 64, 3) := by decide +kernel
theorem dX12_letters_44 : decode cX12_letters 44 = .ok (.ifCond .ne 5, 3) := by decide +kernel
theorem dX12_letters_47 : decode cX12_letters 47 = .ok (.iconst (-1), 1) := by decide +kernel
theorem dX12_letters_48 : decode cX12_letters 48 = .ok (.ireturn, 1) := by decide +kernel
theorem dX12_letters_49 : decode cX12_letters 49 = .ok (.iinc 4 1, 3) := by decide +kernel
theorem dX12_letters_52 : decode cX12_letters 52 = .ok (.goto (-28), 3) := by decide +kernel
theorem dX12_letters_55 : decode cX12_letters 55 = .ok (.iload_n 3, 1) := by decide +kernel
theorem dX12_letters_56 : decode cX12_letters 56 = .ok (.ireturn, 1) := by decide +kernel
theorem dX12_word_0 : decode cX12_word 0 = .ok (.iload_n 1, 1) := by decide +kernel
theorem dX12_word_1 : decode cX12_word 1 = .ok (.iconst 0, 1) := by decide +kernel
theorem dX12_word_2 : decode cX12_word 2 = .ok (.iconst 5, 1) := by decide +kernel
theorem dX12_word_3 : decode cX12_word 3 = .ok (.invokestatic 64, 3) := by decide +kernel
theorem dX12_word_6 : decode cX12_word 6 = .ok (.ifCond .eq 21, 3) := by decide +kernel
theorem dX12_word_9 : decode cX12_word 9 = .ok (.iload_n 2, 1) := by decide +kernel
theorem dX12_word_10 : decode cX12_word 10 = .ok (.iconst 0, 1) := by decide +kernel
theorem dX12_word_11 : decode cX12_word 11 = .ok (.iconst 3, 1) := by decide +kernel
theorem dX12_word_12 : decode cX12_word 12 = .ok (.invokestatic 64, 3) := by decide +kernel
theorem dX12_word_15 : decode cX12_word 15 = .ok (.ifCond .eq 12, 3) := by decide +kernel
theorem dX12_word_18 : decode cX12_word 18 = .ok (.iload_n 3, 1) := by decide +kernel
theorem dX12_word_19 : decode cX12_word 19 = .ok (.iconst 0, 1) := by decide +kernel
theorem dX12_word_20 : decode cX12_word 20 = .ok (.iconst 2, 1) := by decide +kernel
theorem dX12_word_21 : decode cX12_word 21 = .ok (.invokestatic 64, 3) := by decide +kernel
theorem dX12_word_24 : decode cX12_word 24 = .ok (.ifCond .ne 6, 3) := by decide +kernel
theorem dX12_word_27 : decode cX12_word 27 = .ok (.bipush (-2), 2) := by decide +kernel
theorem dX12_word_29 : decode cX12_word 29 = .ok (.ireturn, 1) := by decide +kernel
theorem dX12_word_30 : decode cX12_word 30 = .ok (.aload_n 0, 1) := by decide +kernel
theorem dX12_word_31 : decode cX12_word 31 = .ok (.iconst 1, 1) := by decide +kernel
theorem dX12_word_32 : decode cX12_word 32 = .ok (.bipush 6, 2) := by decide +kernel
theorem dX12_word_34 : decode cX12_word 34 = .ok (.invokevirtual 76, 3) := by decide +kernel
theorem dX12_word_37 : decode cX12_word 37 = .ok (.istore 4, 2) := by decide +kernel
theorem dX12_word_39 : decode cX12_word 39 = .ok (.iload 4, 2) := by decide +kernel
theorem dX12_word_41 : decode cX12_word 41 = .ok (.ifCond .ge 6, 3) := by decide +kernel
theorem dX12_word_44 : decode cX12_word 44 = .ok (.bipush (-3), 2) := by decide +kernel
theorem dX12_word_46 : decode cX12_word 46 = .ok (.ireturn, 1) := by decide +kernel
theorem dX12_word_47 : decode cX12_word 47 = .ok (.aload_n 0, 1) := by decide +kernel
theorem dX12_word_48 : decode cX12_word 48 = .ok (.getfield 9, 3) := by decide +kernel
theorem dX12_word_51 : decode cX12_word 51 = .ok (.iconst 0, 1) := by decide +kernel
theorem dX12_word_52 : decode cX12_word 52 = .ok (.iaload, 1) := by decide +kernel
theorem dX12_word_53 : decode cX12_word 53 = .ok (.bipush 20, 2) := by decide +kernel
theorem dX12_word_55 : decode cX12_word 55 = .ok (.if_icmp .ne 6, 3) := by decide +kernel
theorem dX12_word_58 : decode cX12_word 58 = .ok (.bipush (-4), 2) := by decide +kernel
theorem dX12_word_60 : decode cX12_word 60 = .ok (.ireturn, 1) := by decide +kernel
theorem dX12_word_61 : decode cX12_word 61 = .ok (.bipush 14, 2) := by decide +kernel
theorem dX12_word_63 : decode cX12_word 63 = .ok (.bipush 10, 2) := by decide +kernel
theorem dX12_word_65 : decode cX12_word 65 = .ok (.aload_n 0, 1) := by decide +kernel
theorem dX12_word_66 : decode cX12_word 66 = .ok (.getfield 9, 3) := by decide +kernel
theorem dX12_word_69 : decode cX12_word 69 = .ok (.iconst 0, 1) := by decide +kernel
theorem dX12_word_70 : decode cX12_word 70 = .ok (.iaload, 1) := by decide +kernel
theorem dX12_word_71 : decode cX12_word 71 = .ok (.imul, 1) := by decide +kernel
theorem dX12_word_72 : decode cX12_word 72 = .ok (.iadd, 1) := by decide +kernel
theorem dX12_word_73 : decode cX12_word 73 = .ok (.istore 5, 2) := by decide +kernel
theorem dX12_word_75 : decode cX12_word 75 = .ok (.aload_n 0, 1) := by decide +kernel
theorem dX12_word_76 : decode cX12_word 76 = .ok (.getfield 9, 3) := by decide +kernel
theorem dX12_word_79 : decode cX12_word 79 = .ok (.iload 5, 2) := by decide +kernel
theorem dX12_word_81 : decode cX12_word 81 = .ok (.iload_n 1, 1) := by decide +kernel
theorem dX12_word_82 : decode cX12_word 82 = .ok (.iastore, 1) := by decide +kernel
theorem dX12_word_83 : decode cX12_word 83 = .ok (.aload_n 0, 1) := by decide +kernel
theorem dX12_word_84 : decode cX12_word 84 = .ok (.getfield 9, 3) := by decide +kernel
theorem dX12_word_87 : decode cX12_word 87 = .ok (.iload 5, 2) := by decide +kernel
theorem dX12_word_89 : decode cX12_word 89 = .ok (.iconst 1, 1) := by decide +kernel
theorem dX12_word_90 : decode cX12_word 90 = .ok (.iadd, 1) := by decide +kernel
theorem dX12_word_91 : decode cX12_word 91 = .ok (.iload_n 2, 1) := by decide +kernel
theorem dX12_word_92 : decode cX12_word 92 = .ok (.iastore, 1) := by decide +kernel
theorem dX12_word_93 : decode cX12_word 93 = .ok (.aload_n 0, 1) := by decide +kernel
theorem dX12_word_94 : decode cX12_word 94 = .ok (.getfield 9, 3) := by decide +kernel
theorem dX12_word_97 : decode cX12_word 97 = .ok (.iload 5, 2) := by decide +kernel
theorem dX12_word_99 : decode cX12_word 99 = .ok (.iconst 2, 1) := by decide +kernel
theorem dX12_word_100 : decode cX12_word 100 = .ok (.iadd, 1) := by decide +kernel
theorem dX12_word_101 : decode cX12_word 101 = .ok (.iload_n 3, 1) := by decide +kernel
theorem dX12_word_102 : decode cX12_word 102 = .ok (.iastore, 1) := by decide +kernel
theorem dX12_word_103 : decode cX12_word 103 = .ok (.aload_n 0, 1) := by decide +kernel
theorem dX12_word_104 : decode cX12_word 104 = .ok (.getfield 9, 3) := by decide +kernel
theorem dX12_word_107 : decode cX12_word 107 = .ok (.iload 5, 2) := by decide +kernel
theorem dX12_word_109 : decode cX12_word 109 = .ok (.iconst 3, 1) := by decide +kernel
theorem dX12_word_110 : decode cX12_word 110 = .ok (.iadd, 1) := by decide +kernel
theorem dX12_word_111 : decode cX12_word 111 = .ok (.iload 4, 2) := by decide +kernel
theorem dX12_word_113 : decode cX12_word 113 = .ok (.iastore, 1) := by decide +kernel
theorem dX12_word_114 : decode cX12_word 114 = .ok (.iconst 0, 1) := by decide +kernel
theorem dX12_word_115 : decode cX12_word 115 = .ok (.istore 6, 2) := by decide +kernel
theorem dX12_word_117 : decode cX12_word 117 = .ok (.iload 6, 2) := by decide +kernel
theorem dX12_word_119 : decode cX12_word 119 = .ok (.iload 4, 2) := by decide +kernel
theorem dX12_word_121 : decode cX12_word 121 = .ok (.if_icmp .ge 28, 3) := by decide +kernel
theorem dX12_word_124 : decode cX12_word 124 = .ok (.aload_n 0, 1) := by decide +kernel
theorem dX12_word_125 : decode cX12_word 125 = .ok (.getfield 9, 3) := by decide +kernel
theorem dX12_word_128 : decode cX12_word 128 = .ok (.iload 5, 2) := by decide +kernel
theorem dX12_word_130 : decode cX12_word 130 = .ok (.iconst 4, 1) := by decide +kernel
theorem dX12_word_131 : decode cX12_word 131 = .ok (.iadd, 1) := by decide +kernel
theorem dX12_word_132 : decode cX12_word 132 = .ok (.iload 6, 2) := by decide +kernel
theorem dX12_word_134 : decode cX12_word 134 = .ok (.iadd, 1) := by decide +kernel
theorem dX12_word_135 : decode cX12_word 135 = .ok (.aload_n 0, 1) := by decide +kernel
theorem dX12_word_136 : decode cX12_word 136 = .ok (.getfield 16, 3) := by decide +kernel
theorem dX12_word_139 : decode cX12_word 139 = .ok (.iload 6, 2) := by decide +kernel
theorem dX12_word_141 : decode cX12_word 141 = .ok (.iaload, 1) := by decide +kernel
theorem dX12_word_142 : decode cX12_word 142 = .ok (.iastore, 1) := by decide +kernel
theorem dX12_word_143 : decode cX12_word 143 = .ok (.iinc 6 1, 3) := by decide +kernel
theorem dX12_word_146 : decode cX12_word 146 = .ok (.goto (-29), 3) := by decide +kernel
theorem dX12_word_149 : decode cX12_word 149 = .ok (.aload_n 0, 1) := by decide +kernel
theorem dX12_word_150 : decode cX12_word 150 = .ok (.getfield 9, 3) := by decide +kernel
theorem dX12_word_153 : decode cX12_word 153 = .ok (.iconst 0, 1) := by decide +kernel
theorem dX12_word_154 : decode cX12_word 154 = .ok (.dup2, 1) := by decide +kernel
theorem dX12_word_155 : decode cX12_word 155 = .ok (.iaload, 1) := by decide +kernel
theorem dX12_word_156 : decode cX12_word 156 = .ok (.iconst 1, 1) := by decide +kernel
theorem dX12_word_157 : decode cX12_word 157 = .ok (.iadd, 1) := by decide +kernel
theorem dX12_word_158 : decode cX12_word 158 = .ok (.iastore, 1) := by decide +kernel
theorem dX12_word_159 : decode cX12_word 159 = .ok (.aload_n 0, 1) := by decide +kernel
theorem dX12_word_160 : decode cX12_word 160 = .ok (.getfield 9, 3) := by decide +kernel
theorem dX12_word_163 : decode cX12_word 163 = .ok (.iconst 0, 1) := by decide +kernel
theorem dX12_word_164 : decode cX12_word 164 = .ok (.iaload, 1) := by decide +kernel
theorem dX12_word_165 : decode cX12_word 165 = .ok (.iconst 1, 1) := by decide +kernel
theorem dX12_word_166 : decode cX12_word 166 = .ok (.isub, 1) := by decide +kernel
theorem dX12_word_167 : decode cX12_word 167 = .ok (.ireturn, 1) := by decide +kernel
theorem dX12_endAt_0 : decode cX12_endAt 0 = .ok (.sipush 214, 3) := by decide +kernel
theorem dX12_endAt_3 : decode cX12_endAt 3 = .ok (.iconst 4, 1) := by decide +kernel
theorem dX12_endAt_4 : decode cX12_endAt 4 = .ok (.iconst 2, 1) := by decide +kernel
theorem dX12_endAt_5 : decode cX12_endAt 5 = .ok (.iconst 4, 1) := by decide +kernel
theorem dX12_endAt_6 : decode cX12_endAt 6 = .ok (.iload_n 0, 1) := by decide +kernel
theorem dX12_endAt_7 : decode cX12_endAt 7 = .ok (.imul, 1) := by decide +kernel
theorem dX12_endAt_8 : decode cX12_endAt 8 = .ok (.iload_n 1, 1) := by decide +kernel
theorem dX12_endAt_9 : decode cX12_endAt 9 = .ok (.iadd, 1) := by decide +kernel
theorem dX12_endAt_10 : decode cX12_endAt 10 = .ok (.imul, 1) := by decide +kernel
theorem dX12_endAt_11 : decode cX12_endAt 11 = .ok (.iload_n 2, 1) := by decide +kernel
theorem dX12_endAt_12 : decode cX12_endAt 12 = .ok (.iadd, 1) := by decide +kernel
theorem dX12_endAt_13 : decode cX12_endAt 13 = .ok (.imul, 1) := by decide +kernel
theorem dX12_endAt_14 : decode cX12_endAt 14 = .ok (.iadd, 1) := by decide +kernel
theorem dX12_endAt_15 : decode cX12_endAt 15 = .ok (.ireturn, 1) := by decide +kernel
theorem dX12_ending_0 : decode cX12_ending 0 = .ok (.iload_n 1, 1) := by decide +kernel
theorem dX12_ending_1 : decode cX12_ending 1 = .ok (.iconst 0, 1) := by decide +kernel
theorem dX12_ending_2 : decode cX12_ending 2 = .ok (.iconst 3, 1) := by decide +kernel
theorem dX12_ending_3 : decode cX12_ending 3 = .ok (.invokestatic 64, 3) := by decide +kernel
theorem dX12_ending_6 : decode cX12_ending 6 = .ok (.ifCond .eq 21, 3) := by decide +kernel
theorem dX12_ending_9 : decode cX12_ending 9 = .ok (.iload_n 2, 1) := by decide +kernel
theorem dX12_ending_10 : decode cX12_ending 10 = .ok (.iconst 0, 1) := by decide +kernel
theorem dX12_ending_11 : decode cX12_ending 11 = .ok (.iconst 3, 1) := by decide +kernel
theorem dX12_ending_12 : decode cX12_ending 12 = .ok (.invokestatic 64, 3) := by decide +kernel
theorem dX12_ending_15 : decode cX12_ending 15 = .ok (.ifCond .eq 12, 3) := by decide +kernel
theorem dX12_ending_18 : decode cX12_ending 18 = .ok (.iload_n 3, 1) := by decide +kernel
theorem dX12_ending_19 : decode cX12_ending 19 = .ok (.iconst 0, 1) := by decide +kernel
theorem dX12_ending_20 : decode cX12_ending 20 = .ok (.iconst 1, 1) := by decide +kernel
theorem dX12_ending_21 : decode cX12_ending 21 = .ok (.invokestatic 64, 3) := by decide +kernel
theorem dX12_ending_24 : decode cX12_ending 24 = .ok (.ifCond .ne 6, 3) := by decide +kernel
theorem dX12_ending_27 : decode cX12_ending 27 = .ok (.bipush (-2), 2) := by decide +kernel
theorem dX12_ending_29 : decode cX12_ending 29 = .ok (.ireturn, 1) := by decide +kernel
theorem dX12_ending_30 : decode cX12_ending 30 = .ok (.aload_n 0, 1) := by decide +kernel
theorem dX12_ending_31 : decode cX12_ending 31 = .ok (.iconst 0, 1) := by decide +kernel
theorem dX12_ending_32 : decode cX12_ending 32 = .ok (.iconst 3, 1) := by decide +kernel
theorem dX12_ending_33 : decode cX12_ending 33 = .ok (.invokevirtual 76, 3) := by decide +kernel
theorem dX12_ending_36 : decode cX12_ending 36 = .ok (.istore 4, 2) := by decide +kernel
theorem dX12_ending_38 : decode cX12_ending 38 = .ok (.iload 4, 2) := by decide +kernel
theorem dX12_ending_40 : decode cX12_ending 40 = .ok (.ifCond .ge 6, 3) := by decide +kernel
theorem dX12_ending_43 : decode cX12_ending 43 = .ok (.bipush (-3), 2) := by decide +kernel
theorem dX12_ending_45 : decode cX12_ending 45 = .ok (.ireturn, 1) := by decide +kernel
theorem dX12_ending_46 : decode cX12_ending 46 = .ok (.iload_n 1, 1) := by decide +kernel
theorem dX12_ending_47 : decode cX12_ending 47 = .ok (.iload_n 2, 1) := by decide +kernel
theorem dX12_ending_48 : decode cX12_ending 48 = .ok (.iload_n 3, 1) := by decide +kernel
theorem dX12_ending_49 : decode cX12_ending 49 = .ok (.invokestatic 80, 3) := by decide +kernel
theorem dX12_ending_52 : decode cX12_ending 52 = .ok (.istore 5, 2) := by decide +kernel
theorem dX12_ending_54 : decode cX12_ending 54 = .ok (.aload_n 0, 1) := by decide +kernel
theorem dX12_ending_55 : decode cX12_ending 55 = .ok (.getfield 9, 3) := by decide +kernel
theorem dX12_ending_58 : decode cX12_ending 58 = .ok (.iload 5, 2) := by decide +kernel
theorem dX12_ending_60 : decode cX12_ending 60 = .ok (.iaload, 1) := by decide +kernel
theorem dX12_ending_61 : decode cX12_ending 61 = .ok (.istore 6, 2) := by decide +kernel
theorem dX12_ending_63 : decode cX12_ending 63 = .ok (.aload_n 0, 1) := by decide +kernel
theorem dX12_ending_64 : decode cX12_ending 64 = .ok (.getfield 9, 3) := by decide +kernel
theorem dX12_ending_67 : decode cX12_ending 67 = .ok (.iload 5, 2) := by decide +kernel
theorem dX12_ending_69 : decode cX12_ending 69 = .ok (.iload 4, 2) := by decide +kernel
theorem dX12_ending_71 : decode cX12_ending 71 = .ok (.iastore, 1) := by decide +kernel
theorem dX12_ending_72 : decode cX12_ending 72 = .ok (.iconst 0, 1) := by decide +kernel
theorem dX12_ending_73 : decode cX12_ending 73 = .ok (.istore 7, 2) := by decide +kernel
theorem dX12_ending_75 : decode cX12_ending 75 = .ok (.iload 7, 2) := by decide +kernel
theorem dX12_ending_77 : decode cX12_ending 77 = .ok (.iload 4, 2) := by decide +kernel
theorem dX12_ending_79 : decode cX12_ending 79 = .ok (.if_icmp .ge 28, 3) := by decide +kernel
theorem dX12_ending_82 : decode cX12_ending 82 = .ok (.aload_n 0, 1) := by decide +kernel
theorem dX12_ending_83 : decode cX12_ending 83 = .ok (.getfield 9, 3) := by decide +kernel
theorem dX12_ending_86 : decode cX12_ending 86 = .ok (.iload 5, 2) := by decide +kernel
theorem dX12_ending_88 : decode cX12_ending 88 = .ok (.iconst 1, 1) := by decide +kernel
theorem dX12_ending_89 : decode cX12_ending 89 = .ok (.iadd, 1) := by decide +kernel
theorem dX12_ending_90 : decode cX12_ending 90 = .ok (.iload 7, 2) := by decide +kernel
theorem dX12_ending_92 : decode cX12_ending 92 = .ok (.iadd, 1) := by decide +kernel
theorem dX12_ending_93 : decode cX12_ending 93 = .ok (.aload_n 0, 1) := by decide +kernel
theorem dX12_ending_94 : decode cX12_ending 94 = .ok (.getfield 16, 3) := by decide +kernel
theorem dX12_ending_97 : decode cX12_ending 97 = .ok (.iload 7, 2) := by decide +kernel
theorem dX12_ending_99 : decode cX12_ending 99 = .ok (.iaload, 1) := by decide +kernel
theorem dX12_ending_100 : decode cX12_ending 100 = .ok (.iastore, 1) := by decide +kernel
theorem dX12_ending_101 : decode cX12_ending 101 = .ok (.iinc 7 1, 3) := by decide +kernel
theorem dX12_ending_104 : decode cX12_ending 104 = .ok (.goto (-29), 3) := by decide +kernel
theorem dX12_ending_107 : decode cX12_ending 107 = .ok (.iload 6, 2) := by decide +kernel
theorem dX12_ending_109 : decode cX12_ending 109 = .ok (.ireturn, 1) := by decide +kernel
theorem dX12_joins_0 : decode cX12_joins 0 = .ok (.iload_n 2, 1) := by decide +kernel
theorem dX12_joins_1 : decode cX12_joins 1 = .ok (.ifCond .eq 44, 3) := by decide +kernel
theorem dX12_joins_4 : decode cX12_joins 4 = .ok (.aload_n 0, 1) := by decide +kernel
theorem dX12_joins_5 : decode cX12_joins 5 = .ok (.getfield 84, 3) := by decide +kernel
theorem dX12_joins_8 : decode cX12_joins 8 = .ok (.ifCond .le 37, 3) := by decide +kernel
theorem dX12_joins_11 : decode cX12_joins 11 = .ok (.iload_n 1, 1) := by decide +kernel
theorem dX12_joins_12 : decode cX12_joins 12 = .ok (.invokestatic 87, 3) := by decide +kernel
theorem dX12_joins_15 : decode cX12_joins 15 = .ok (.ifCond .eq 30, 3) := by decide +kernel
theorem dX12_joins_18 : decode cX12_joins 18 = .ok (.aload_n 0, 1) := by decide +kernel
theorem dX12_joins_19 : decode cX12_joins 19 = .ok (.getfield 19, 3) := by decide +kernel
theorem dX12_joins_22 : decode cX12_joins 22 = .ok (.aload_n 0, 1) := by decide +kernel
theorem dX12_joins_23 : decode cX12_joins 23 = .ok (.getfield 84, 3) := by decide +kernel
theorem dX12_joins_26 : decode cX12_joins 26 = .ok (.iconst 1, 1) := by decide +kernel
theorem dX12_joins_27 : decode cX12_joins 27 = .ok (.isub, 1) := by decide +kernel
theorem dX12_joins_28 : decode cX12_joins 28 = .ok (.iaload, 1) := by decide +kernel
theorem dX12_joins_29 : decode cX12_joins 29 = .ok (.invokestatic 87, 3) := by decide +kernel
theorem dX12_joins_32 : decode cX12_joins 32 = .ok (.ifCond .eq 13, 3) := by decide +kernel
theorem dX12_joins_35 : decode cX12_joins 35 = .ok (.aload_n 0, 1) := by decide +kernel
theorem dX12_joins_36 : decode cX12_joins 36 = .ok (.dup, 1) := by decide +kernel
theorem dX12_joins_37 : decode cX12_joins 37 = .ok (.getfield 84, 3) := by decide +kernel
theorem dX12_joins_40 : decode cX12_joins 40 = .ok (.iconst 1, 1) := by decide +kernel
theorem dX12_joins_41 : decode cX12_joins 41 = .ok (.isub, 1) := by decide +kernel
theorem dX12_joins_42 : decode cX12_joins 42 = .ok (.putfield 84, 3) := by decide +kernel
theorem dX12_joins_45 : decode cX12_joins 45 = .ok (.aload_n 0, 1) := by decide +kernel
theorem dX12_joins_46 : decode cX12_joins 46 = .ok (.getfield 19, 3) := by decide +kernel
theorem dX12_joins_49 : decode cX12_joins 49 = .ok (.aload_n 0, 1) := by decide +kernel
theorem dX12_joins_50 : decode cX12_joins 50 = .ok (.getfield 84, 3) := by decide +kernel
theorem dX12_joins_53 : decode cX12_joins 53 = .ok (.iload_n 1, 1) := by decide +kernel
theorem dX12_joins_54 : decode cX12_joins 54 = .ok (.iastore, 1) := by decide +kernel
theorem dX12_joins_55 : decode cX12_joins 55 = .ok (.aload_n 0, 1) := by decide +kernel
theorem dX12_joins_56 : decode cX12_joins 56 = .ok (.dup, 1) := by decide +kernel
theorem dX12_joins_57 : decode cX12_joins 57 = .ok (.getfield 84, 3) := by decide +kernel
theorem dX12_joins_60 : decode cX12_joins 60 = .ok (.iconst 1, 1) := by decide +kernel
theorem dX12_joins_61 : decode cX12_joins 61 = .ok (.iadd, 1) := by decide +kernel
theorem dX12_joins_62 : decode cX12_joins 62 = .ok (.putfield 84, 3) := by decide +kernel
theorem dX12_joins_65 : decode cX12_joins 65 = .ok (.return_, 1) := by decide +kernel
theorem dX12_ends_0 : decode cX12_ends 0 = .ok (.iconst 0, 1) := by decide +kernel
theorem dX12_ends_1 : decode cX12_ends 1 = .ok (.istore_n 2, 1) := by decide +kernel
theorem dX12_ends_2 : decode cX12_ends 2 = .ok (.iload_n 2, 1) := by decide +kernel
theorem dX12_ends_3 : decode cX12_ends 3 = .ok (.aload_n 0, 1) := by decide +kernel
theorem dX12_ends_4 : decode cX12_ends 4 = .ok (.getfield 9, 3) := by decide +kernel
theorem dX12_ends_7 : decode cX12_ends 7 = .ok (.iload_n 1, 1) := by decide +kernel
theorem dX12_ends_8 : decode cX12_ends 8 = .ok (.iaload, 1) := by decide +kernel
theorem dX12_ends_9 : decode cX12_ends 9 = .ok (.if_icmp .ge 32, 3) := by decide +kernel
theorem dX12_ends_12 : decode cX12_ends 12 = .ok (.aload_n 0, 1) := by decide +kernel
theorem dX12_ends_13 : decode cX12_ends 13 = .ok (.aload_n 0, 1) := by decide +kernel
theorem dX12_ends_14 : decode cX12_ends 14 = .ok (.getfield 9, 3) := by decide +kernel
theorem dX12_ends_17 : decode cX12_ends 17 = .ok (.iload_n 1, 1) := by decide +kernel
theorem dX12_ends_18 : decode cX12_ends 18 = .ok (.iconst 1, 1) := by decide +kernel
theorem dX12_ends_19 : decode cX12_ends 19 = .ok (.iadd, 1) := by decide +kernel
theorem dX12_ends_20 : decode cX12_ends 20 = .ok (.iload_n 2, 1) := by decide +kernel
theorem dX12_ends_21 : decode cX12_ends 21 = .ok (.iadd, 1) := by decide +kernel
theorem dX12_ends_22 : decode cX12_ends 22 = .ok (.iaload, 1) := by decide +kernel
theorem dX12_ends_23 : decode cX12_ends 23 = .ok (.iload_n 2, 1) := by decide +kernel
theorem dX12_ends_24 : decode cX12_ends 24 = .ok (.ifCond .ne 7, 3) := by decide +kernel
theorem dX12_ends_27 : decode cX12_ends 27 = .ok (.iconst 1, 1) := by decide +kernel
theorem dX12_ends_28 : decode cX12_ends 28 = .ok (.goto 4, 3) := by decide +kernel
theorem dX12_ends_31 : decode cX12_ends 31 = .ok (.iconst 0, 1) := by decide +kernel
theorem dX12_ends_32 : decode cX12_ends 32 = .ok (.invokevirtual 91, 3) := by decide +kernel
theorem dX12_ends_35 : decode cX12_ends 35 = .ok (.iinc 2 1, 3) := by decide +kernel
theorem dX12_ends_38 : decode cX12_ends 38 = .ok (.goto (-36), 3) := by decide +kernel
theorem dX12_ends_41 : decode cX12_ends 41 = .ok (.return_, 1) := by decide +kernel
theorem dX12_forms_0 : decode cX12_forms 0 = .ok (.bipush 14, 2) := by decide +kernel
theorem dX12_forms_2 : decode cX12_forms 2 = .ok (.bipush 10, 2) := by decide +kernel
theorem dX12_forms_4 : decode cX12_forms 4 = .ok (.iload_n 1, 1) := by decide +kernel
theorem dX12_forms_5 : decode cX12_forms 5 = .ok (.imul, 1) := by decide +kernel
theorem dX12_forms_6 : decode cX12_forms 6 = .ok (.iadd, 1) := by decide +kernel
theorem dX12_forms_7 : decode cX12_forms 7 = .ok (.istore 6, 2) := by decide +kernel
theorem dX12_forms_9 : decode cX12_forms 9 = .ok (.aload_n 0, 1) := by decide +kernel
theorem dX12_forms_10 : decode cX12_forms 10 = .ok (.getfield 9, 3) := by decide +kernel
theorem dX12_forms_13 : decode cX12_forms 13 = .ok (.iload 6, 2) := by decide +kernel
theorem dX12_forms_15 : decode cX12_forms 15 = .ok (.iaload, 1) := by decide +kernel
theorem dX12_forms_16 : decode cX12_forms 16 = .ok (.istore 7, 2) := by decide +kernel
theorem dX12_forms_18 : decode cX12_forms 18 = .ok (.aload_n 0, 1) := by decide +kernel
theorem dX12_forms_19 : decode cX12_forms 19 = .ok (.iconst 0, 1) := by decide +kernel
theorem dX12_forms_20 : decode cX12_forms 20 = .ok (.putfield 84, 3) := by decide +kernel
theorem dX12_forms_23 : decode cX12_forms 23 = .ok (.iconst 0, 1) := by decide +kernel
theorem dX12_forms_24 : decode cX12_forms 24 = .ok (.istore 8, 2) := by decide +kernel
theorem dX12_forms_26 : decode cX12_forms 26 = .ok (.iload 8, 2) := by decide +kernel
theorem dX12_forms_28 : decode cX12_forms 28 = .ok (.aload_n 0, 1) := by decide +kernel
theorem dX12_forms_29 : decode cX12_forms 29 = .ok (.getfield 9, 3) := by decide +kernel
theorem dX12_forms_32 : decode cX12_forms 32 = .ok (.iload 6, 2) := by decide +kernel
theorem dX12_forms_34 : decode cX12_forms 34 = .ok (.iconst 3, 1) := by decide +kernel
theorem dX12_forms_35 : decode cX12_forms 35 = .ok (.iadd, 1) := by decide +kernel
theorem dX12_forms_36 : decode cX12_forms 36 = .ok (.iaload, 1) := by decide +kernel
theorem dX12_forms_37 : decode cX12_forms 37 = .ok (.if_icmp .ge 26, 3) := by decide +kernel
theorem dX12_forms_40 : decode cX12_forms 40 = .ok (.aload_n 0, 1) := by decide +kernel
theorem dX12_forms_41 : decode cX12_forms 41 = .ok (.aload_n 0, 1) := by decide +kernel
theorem dX12_forms_42 : decode cX12_forms 42 = .ok (.getfield 9, 3) := by decide +kernel
theorem dX12_forms_45 : decode cX12_forms 45 = .ok (.iload 6, 2) := by decide +kernel
theorem dX12_forms_47 : decode cX12_forms 47 = .ok (.iconst 4, 1) := by decide +kernel
theorem dX12_forms_48 : decode cX12_forms 48 = .ok (.iadd, 1) := by decide +kernel
theorem dX12_forms_49 : decode cX12_forms 49 = .ok (.iload 8, 2) := by decide +kernel
theorem dX12_forms_51 : decode cX12_forms 51 = .ok (.iadd, 1) := by decide +kernel
theorem dX12_forms_52 : decode cX12_forms 52 = .ok (.iaload, 1) := by decide +kernel
theorem dX12_forms_53 : decode cX12_forms 53 = .ok (.iconst 0, 1) := by decide +kernel
theorem dX12_forms_54 : decode cX12_forms 54 = .ok (.invokevirtual 91, 3) := by decide +kernel
theorem dX12_forms_57 : decode cX12_forms 57 = .ok (.iinc 8 1, 3) := by decide +kernel
theorem dX12_forms_60 : decode cX12_forms 60 = .ok (.goto (-34), 3) := by decide +kernel
theorem dX12_forms_63 : decode cX12_forms 63 = .ok (.iload 7, 2) := by decide +kernel
theorem dX12_forms_65 : decode cX12_forms 65 = .ok (.iconst 1, 1) := by decide +kernel
theorem dX12_forms_66 : decode cX12_forms 66 = .ok (.if_icmp .eq 9, 3) := by decide +kernel
theorem dX12_forms_69 : decode cX12_forms 69 = .ok (.iload 7, 2) := by decide +kernel
theorem dX12_forms_71 : decode cX12_forms 71 = .ok (.iconst 4, 1) := by decide +kernel
theorem dX12_forms_72 : decode cX12_forms 72 = .ok (.if_icmp .ne 21, 3) := by decide +kernel
theorem dX12_forms_75 : decode cX12_forms 75 = .ok (.aload_n 0, 1) := by decide +kernel
theorem dX12_forms_76 : decode cX12_forms 76 = .ok (.aload_n 0, 1) := by decide +kernel
theorem dX12_forms_77 : decode cX12_forms 77 = .ok (.getfield 9, 3) := by decide +kernel
theorem dX12_forms_80 : decode cX12_forms 80 = .ok (.iload 6, 2) := by decide +kernel
theorem dX12_forms_82 : decode cX12_forms 82 = .ok (.iconst 1, 1) := by decide +kernel
theorem dX12_forms_83 : decode cX12_forms 83 = .ok (.iadd, 1) := by decide +kernel
theorem dX12_forms_84 : decode cX12_forms 84 = .ok (.iaload, 1) := by decide +kernel
theorem dX12_forms_85 : decode cX12_forms 85 = .ok (.iload_n 2, 1) := by decide +kernel
theorem dX12_forms_86 : decode cX12_forms 86 = .ok (.iload_n 3, 1) := by decide +kernel
theorem dX12_forms_87 : decode cX12_forms 87 = .ok (.invokestatic 80, 3) := by decide +kernel
theorem dX12_forms_90 : decode cX12_forms 90 = .ok (.invokevirtual 95, 3) := by decide +kernel
theorem dX12_forms_93 : decode cX12_forms 93 = .ok (.iload 7, 2) := by decide +kernel
theorem dX12_forms_95 : decode cX12_forms 95 = .ok (.iconst 3, 1) := by decide +kernel
theorem dX12_forms_96 : decode cX12_forms 96 = .ok (.if_icmp .ne 21, 3) := by decide +kernel
theorem dX12_forms_99 : decode cX12_forms 99 = .ok (.aload_n 0, 1) := by decide +kernel
theorem dX12_forms_100 : decode cX12_forms 100 = .ok (.aload_n 0, 1) := by decide +kernel
theorem dX12_forms_101 : decode cX12_forms 101 = .ok (.getfield 9, 3) := by decide +kernel
theorem dX12_forms_104 : decode cX12_forms 104 = .ok (.iload 6, 2) := by decide +kernel
theorem dX12_forms_106 : decode cX12_forms 106 = .ok (.iconst 1, 1) := by decide +kernel
theorem dX12_forms_107 : decode cX12_forms 107 = .ok (.iadd, 1) := by decide +kernel
theorem dX12_forms_108 : decode cX12_forms 108 = .ok (.iaload, 1) := by decide +kernel
theorem dX12_forms_109 : decode cX12_forms 109 = .ok (.iload_n 2, 1) := by decide +kernel
theorem dX12_forms_110 : decode cX12_forms 110 = .ok (.iconst 0, 1) := by decide +kernel
theorem dX12_forms_111 : decode cX12_forms 111 = .ok (.invokestatic 80, 3) := by decide +kernel
theorem dX12_forms_114 : decode cX12_forms 114 = .ok (.invokevirtual 95, 3) := by decide +kernel
theorem dX12_forms_117 : decode cX12_forms 117 = .ok (.iload 7, 2) := by decide +kernel
theorem dX12_forms_119 : decode cX12_forms 119 = .ok (.iconst 2, 1) := by decide +kernel
theorem dX12_forms_120 : decode cX12_forms 120 = .ok (.if_icmp .eq 9, 3) := by decide +kernel
theorem dX12_forms_123 : decode cX12_forms 123 = .ok (.iload 7, 2) := by decide +kernel
theorem dX12_forms_125 : decode cX12_forms 125 = .ok (.iconst 5, 1) := by decide +kernel
theorem dX12_forms_126 : decode cX12_forms 126 = .ok (.if_icmp .ne 22, 3) := by decide +kernel
theorem dX12_forms_129 : decode cX12_forms 129 = .ok (.aload_n 0, 1) := by decide +kernel
theorem dX12_forms_130 : decode cX12_forms 130 = .ok (.aload_n 0, 1) := by decide +kernel
theorem dX12_forms_131 : decode cX12_forms 131 = .ok (.getfield 9, 3) := by decide +kernel
theorem dX12_forms_134 : decode cX12_forms 134 = .ok (.iload 6, 2) := by decide +kernel
theorem dX12_forms_136 : decode cX12_forms 136 = .ok (.iconst 1, 1) := by decide +kernel
theorem dX12_forms_137 : decode cX12_forms 137 = .ok (.iadd, 1) := by decide +kernel
theorem dX12_forms_138 : decode cX12_forms 138 = .ok (.iaload, 1) := by decide +kernel
theorem dX12_forms_139 : decode cX12_forms 139 = .ok (.iload 5, 2) := by decide +kernel
theorem dX12_forms_141 : decode cX12_forms 141 = .ok (.iload_n 3, 1) := by decide +kernel
theorem dX12_forms_142 : decode cX12_forms 142 = .ok (.invokestatic 80, 3) := by decide +kernel
theorem dX12_forms_145 : decode cX12_forms 145 = .ok (.invokevirtual 95, 3) := by decide +kernel
theorem dX12_forms_148 : decode cX12_forms 148 = .ok (.iload 7, 2) := by decide +kernel
theorem dX12_forms_150 : decode cX12_forms 150 = .ok (.iconst 4, 1) := by decide +kernel
theorem dX12_forms_151 : decode cX12_forms 151 = .ok (.if_icmp .ne 31, 3) := by decide +kernel
theorem dX12_forms_154 : decode cX12_forms 154 = .ok (.aload_n 0, 1) := by decide +kernel
theorem dX12_forms_155 : decode cX12_forms 155 = .ok (.iload 4, 2) := by decide +kernel
theorem dX12_forms_157 : decode cX12_forms 157 = .ok (.ifCond .ne 8, 3) := by decide +kernel
theorem dX12_forms_160 : decode cX12_forms 160 = .ok (.bipush 111, 2) := by decide +kernel
theorem dX12_forms_162 : decode cX12_forms 162 = .ok (.goto 16, 3) := by decide +kernel
theorem dX12_forms_165 : decode cX12_forms 165 = .ok (.iload 4, 2) := by decide +kernel
theorem dX12_forms_167 : decode cX12_forms 167 = .ok (.iconst 1, 1) := by decide +kernel
theorem dX12_forms_168 : decode cX12_forms 168 = .ok (.if_icmp .ne 8, 3) := by decide +kernel
theorem dX12_forms_171 : decode cX12_forms 171 = .ok (.bipush 97, 2) := by decide +kernel
theorem dX12_forms_173 : decode cX12_forms 173 = .ok (.goto 5, 3) := by decide +kernel
theorem dX12_forms_176 : decode cX12_forms 176 = .ok (.bipush 101, 2) := by decide +kernel
theorem dX12_forms_178 : decode cX12_forms 178 = .ok (.iconst 1, 1) := by decide +kernel
theorem dX12_forms_179 : decode cX12_forms 179 = .ok (.invokevirtual 91, 3) := by decide +kernel
theorem dX12_forms_182 : decode cX12_forms 182 = .ok (.iload 7, 2) := by decide +kernel
theorem dX12_forms_184 : decode cX12_forms 184 = .ok (.iconst 5, 1) := by decide +kernel
theorem dX12_forms_185 : decode cX12_forms 185 = .ok (.if_icmp .ne 24, 3) := by decide +kernel
theorem dX12_forms_188 : decode cX12_forms 188 = .ok (.iload 5, 2) := by decide +kernel
theorem dX12_forms_190 : decode cX12_forms 190 = .ok (.ifCond .eq 19, 3) := by decide +kernel
theorem dX12_forms_193 : decode cX12_forms 193 = .ok (.aload_n 0, 1) := by decide +kernel
theorem dX12_forms_194 : decode cX12_forms 194 = .ok (.aload_n 0, 1) := by decide +kernel
theorem dX12_forms_195 : decode cX12_forms 195 = .ok (.getfield 19, 3) := by decide +kernel
theorem dX12_forms_198 : decode cX12_forms 198 = .ok (.aload_n 0, 1) := by decide +kernel
theorem dX12_forms_199 : decode cX12_forms 199 = .ok (.getfield 84, 3) := by decide +kernel
theorem dX12_forms_202 : decode cX12_forms 202 = .ok (.iconst 1, 1) := by decide +kernel
theorem dX12_forms_203 : decode cX12_forms 203 = .ok (.isub, 1) := by decide +kernel
theorem dX12_forms_204 : decode cX12_forms 204 = .ok (.iaload, 1) := by decide +kernel
theorem dX12_forms_205 : decode cX12_forms 205 = .ok (.iconst 0, 1) := by decide +kernel
theorem dX12_forms_206 : decode cX12_forms 206 = .ok (.invokevirtual 91, 3) := by decide +kernel
theorem dX12_forms_209 : decode cX12_forms 209 = .ok (.return_, 1) := by decide +kernel
theorem dX12_told_0 : decode cX12_told 0 = .ok (.aload_n 0, 1) := by decide +kernel
theorem dX12_told_1 : decode cX12_told 1 = .ok (.iload_n 1, 1) := by decide +kernel
theorem dX12_told_2 : decode cX12_told 2 = .ok (.invokevirtual 98, 3) := by decide +kernel
theorem dX12_told_5 : decode cX12_told 5 = .ok (.ifCond .eq 29, 3) := by decide +kernel
theorem dX12_told_8 : decode cX12_told 8 = .ok (.iload_n 2, 1) := by decide +kernel
theorem dX12_told_9 : decode cX12_told 9 = .ok (.iconst 0, 1) := by decide +kernel
theorem dX12_told_10 : decode cX12_told 10 = .ok (.iconst 3, 1) := by decide +kernel
theorem dX12_told_11 : decode cX12_told 11 = .ok (.invokestatic 64, 3) := by decide +kernel
theorem dX12_told_14 : decode cX12_told 14 = .ok (.ifCond .eq 20, 3) := by decide +kernel
theorem dX12_told_17 : decode cX12_told 17 = .ok (.aload_n 0, 1) := by decide +kernel
theorem dX12_told_18 : decode cX12_told 18 = .ok (.getfield 9, 3) := by decide +kernel
theorem dX12_told_21 : decode cX12_told 21 = .ok (.bipush 14, 2) := by decide +kernel
theorem dX12_told_23 : decode cX12_told 23 = .ok (.bipush 10, 2) := by decide +kernel
theorem dX12_told_25 : decode cX12_told 25 = .ok (.iload_n 1, 1) := by decide +kernel
theorem dX12_told_26 : decode cX12_told 26 = .ok (.imul, 1) := by decide +kernel
theorem dX12_told_27 : decode cX12_told 27 = .ok (.iadd, 1) := by decide +kernel
theorem dX12_told_28 : decode cX12_told 28 = .ok (.iload_n 2, 1) := by decide +kernel
theorem dX12_told_29 : decode cX12_told 29 = .ok (.iadd, 1) := by decide +kernel
theorem dX12_told_30 : decode cX12_told 30 = .ok (.iaload, 1) := by decide +kernel
theorem dX12_told_31 : decode cX12_told 31 = .ok (.goto 5, 3) := by decide +kernel
theorem dX12_told_34 : decode cX12_told 34 = .ok (.bipush (-2), 2) := by decide +kernel
theorem dX12_told_36 : decode cX12_told 36 = .ok (.ireturn, 1) := by decide +kernel
theorem dX12_taken_0 : decode cX12_taken 0 = .ok (.aload_n 0, 1) := by decide +kernel
theorem dX12_taken_1 : decode cX12_taken 1 = .ok (.iload_n 1, 1) := by decide +kernel
theorem dX12_taken_2 : decode cX12_taken 2 = .ok (.invokevirtual 98, 3) := by decide +kernel
theorem dX12_taken_5 : decode cX12_taken 5 = .ok (.ifCond .eq 12, 3) := by decide +kernel
theorem dX12_taken_8 : decode cX12_taken 8 = .ok (.iload_n 2, 1) := by decide +kernel
theorem dX12_taken_9 : decode cX12_taken 9 = .ok (.iconst 0, 1) := by decide +kernel
theorem dX12_taken_10 : decode cX12_taken 10 = .ok (.iconst 5, 1) := by decide +kernel
theorem dX12_taken_11 : decode cX12_taken 11 = .ok (.invokestatic 64, 3) := by decide +kernel
theorem dX12_taken_14 : decode cX12_taken 14 = .ok (.ifCond .ne 6, 3) := by decide +kernel
theorem dX12_taken_17 : decode cX12_taken 17 = .ok (.bipush (-2), 2) := by decide +kernel
theorem dX12_taken_19 : decode cX12_taken 19 = .ok (.ireturn, 1) := by decide +kernel
theorem dX12_taken_20 : decode cX12_taken 20 = .ok (.aload_n 0, 1) := by decide +kernel
theorem dX12_taken_21 : decode cX12_taken 21 = .ok (.iload_n 1, 1) := by decide +kernel
theorem dX12_taken_22 : decode cX12_taken 22 = .ok (.invokevirtual 101, 3) := by decide +kernel
theorem dX12_taken_25 : decode cX12_taken 25 = .ok (.iload_n 2, 1) := by decide +kernel
theorem dX12_taken_26 : decode cX12_taken 26 = .ok (.invokestatic 104, 3) := by decide +kernel
theorem dX12_taken_29 : decode cX12_taken 29 = .ok (.ifCond .ne 6, 3) := by decide +kernel
theorem dX12_taken_32 : decode cX12_taken 32 = .ok (.bipush (-13), 2) := by decide +kernel
theorem dX12_taken_34 : decode cX12_taken 34 = .ok (.ireturn, 1) := by decide +kernel
theorem dX12_taken_35 : decode cX12_taken 35 = .ok (.aload_n 0, 1) := by decide +kernel
theorem dX12_taken_36 : decode cX12_taken 36 = .ok (.iload_n 1, 1) := by decide +kernel
theorem dX12_taken_37 : decode cX12_taken 37 = .ok (.iconst 1, 1) := by decide +kernel
theorem dX12_taken_38 : decode cX12_taken 38 = .ok (.iconst 1, 1) := by decide +kernel
theorem dX12_taken_39 : decode cX12_taken 39 = .ok (.aload_n 0, 1) := by decide +kernel
theorem dX12_taken_40 : decode cX12_taken 40 = .ok (.iload_n 1, 1) := by decide +kernel
theorem dX12_taken_41 : decode cX12_taken 41 = .ok (.invokevirtual 108, 3) := by decide +kernel
theorem dX12_taken_44 : decode cX12_taken 44 = .ok (.iconst 1, 1) := by decide +kernel
theorem dX12_taken_45 : decode cX12_taken 45 = .ok (.invokevirtual 111, 3) := by decide +kernel
theorem dX12_taken_48 : decode cX12_taken 48 = .ok (.aload_n 0, 1) := by decide +kernel
theorem dX12_taken_49 : decode cX12_taken 49 = .ok (.getfield 84, 3) := by decide +kernel
theorem dX12_taken_52 : decode cX12_taken 52 = .ok (.ireturn, 1) := by decide +kernel
theorem dX12_form_0 : decode cX12_form 0 = .ok (.aload_n 0, 1) := by decide +kernel
theorem dX12_form_1 : decode cX12_form 1 = .ok (.iload_n 1, 1) := by decide +kernel
theorem dX12_form_2 : decode cX12_form 2 = .ok (.invokevirtual 98, 3) := by decide +kernel
theorem dX12_form_5 : decode cX12_form 5 = .ok (.ifCond .eq 13, 3) := by decide +kernel
theorem dX12_form_8 : decode cX12_form 8 = .ok (.iload_n 2, 1) := by decide +kernel
theorem dX12_form_9 : decode cX12_form 9 = .ok (.iconst 0, 1) := by decide +kernel
theorem dX12_form_10 : decode cX12_form 10 = .ok (.bipush 95, 2) := by decide +kernel
theorem dX12_form_12 : decode cX12_form 12 = .ok (.invokestatic 64, 3) := by decide +kernel
theorem dX12_form_15 : decode cX12_form 15 = .ok (.ifCond .ne 6, 3) := by decide +kernel
theorem dX12_form_18 : decode cX12_form 18 = .ok (.bipush (-2), 2) := by decide +kernel
theorem dX12_form_20 : decode cX12_form 20 = .ok (.ireturn, 1) := by decide +kernel
theorem dX12_form_21 : decode cX12_form 21 = .ok (.aload_n 0, 1) := by decide +kernel
theorem dX12_form_22 : decode cX12_form 22 = .ok (.iload_n 1, 1) := by decide +kernel
theorem dX12_form_23 : decode cX12_form 23 = .ok (.iload_n 2, 1) := by decide +kernel
theorem dX12_form_24 : decode cX12_form 24 = .ok (.iconst 4, 1) := by decide +kernel
theorem dX12_form_25 : decode cX12_form 25 = .ok (.irem, 1) := by decide +kernel
theorem dX12_form_26 : decode cX12_form 26 = .ok (.iload_n 2, 1) := by decide +kernel
theorem dX12_form_27 : decode cX12_form 27 = .ok (.iconst 4, 1) := by decide +kernel
theorem dX12_form_28 : decode cX12_form 28 = .ok (.idiv, 1) := by decide +kernel
theorem dX12_form_29 : decode cX12_form 29 = .ok (.iconst 2, 1) := by decide +kernel
theorem dX12_form_30 : decode cX12_form 30 = .ok (.irem, 1) := by decide +kernel
theorem dX12_form_31 : decode cX12_form 31 = .ok (.iload_n 2, 1) := by decide +kernel
theorem dX12_form_32 : decode cX12_form 32 = .ok (.bipush 8, 2) := by decide +kernel
theorem dX12_form_34 : decode cX12_form 34 = .ok (.idiv, 1) := by decide +kernel
theorem dX12_form_35 : decode cX12_form 35 = .ok (.iconst 3, 1) := by decide +kernel
theorem dX12_form_36 : decode cX12_form 36 = .ok (.irem, 1) := by decide +kernel
theorem dX12_form_37 : decode cX12_form 37 = .ok (.iload_n 2, 1) := by decide +kernel
theorem dX12_form_38 : decode cX12_form 38 = .ok (.bipush 24, 2) := by decide +kernel
theorem dX12_form_40 : decode cX12_form 40 = .ok (.idiv, 1) := by decide +kernel
theorem dX12_form_41 : decode cX12_form 41 = .ok (.invokevirtual 111, 3) := by decide +kernel
theorem dX12_form_44 : decode cX12_form 44 = .ok (.iload_n 3, 1) := by decide +kernel
theorem dX12_form_45 : decode cX12_form 45 = .ok (.iconst (-1), 1) := by decide +kernel
theorem dX12_form_46 : decode cX12_form 46 = .ok (.if_icmp .ne 10, 3) := by decide +kernel
theorem dX12_form_49 : decode cX12_form 49 = .ok (.aload_n 0, 1) := by decide +kernel
theorem dX12_form_50 : decode cX12_form 50 = .ok (.getfield 84, 3) := by decide +kernel
theorem dX12_form_53 : decode cX12_form 53 = .ok (.goto 28, 3) := by decide +kernel
theorem dX12_form_56 : decode cX12_form 56 = .ok (.iload_n 3, 1) := by decide +kernel
theorem dX12_form_57 : decode cX12_form 57 = .ok (.iconst 0, 1) := by decide +kernel
theorem dX12_form_58 : decode cX12_form 58 = .ok (.aload_n 0, 1) := by decide +kernel
theorem dX12_form_59 : decode cX12_form 59 = .ok (.getfield 84, 3) := by decide +kernel
theorem dX12_form_62 : decode cX12_form 62 = .ok (.iconst 1, 1) := by decide +kernel
theorem dX12_form_63 : decode cX12_form 63 = .ok (.isub, 1) := by decide +kernel
theorem dX12_form_64 : decode cX12_form 64 = .ok (.invokestatic 64, 3) := by decide +kernel
theorem dX12_form_67 : decode cX12_form 67 = .ok (.ifCond .eq 12, 3) := by decide +kernel
theorem dX12_form_70 : decode cX12_form 70 = .ok (.aload_n 0, 1) := by decide +kernel
theorem dX12_form_71 : decode cX12_form 71 = .ok (.getfield 19, 3) := by decide +kernel
theorem dX12_form_74 : decode cX12_form 74 = .ok (.iload_n 3, 1) := by decide +kernel
theorem dX12_form_75 : decode cX12_form 75 = .ok (.iaload, 1) := by decide +kernel
theorem dX12_form_76 : decode cX12_form 76 = .ok (.goto 5, 3) := by decide +kernel
theorem dX12_form_79 : decode cX12_form 79 = .ok (.bipush (-12), 2) := by decide +kernel
theorem dX12_form_81 : decode cX12_form 81 = .ok (.ireturn, 1) := by decide +kernel
theorem dX12_holes_0 : decode cX12_holes 0 = .ok (.aload_n 0, 1) := by decide +kernel
theorem dX12_holes_1 : decode cX12_holes 1 = .ok (.getfield 9, 3) := by decide +kernel
theorem dX12_holes_4 : decode cX12_holes 4 = .ok (.sipush 342, 3) := by decide +kernel
theorem dX12_holes_7 : decode cX12_holes 7 = .ok (.bipush 25, 2) := by decide +kernel
theorem dX12_holes_9 : decode cX12_holes 9 = .ok (.iload_n 1, 1) := by decide +kernel
theorem dX12_holes_10 : decode cX12_holes 10 = .ok (.imul, 1) := by decide +kernel
theorem dX12_holes_11 : decode cX12_holes 11 = .ok (.iadd, 1) := by decide +kernel
theorem dX12_holes_12 : decode cX12_holes 12 = .ok (.iaload, 1) := by decide +kernel
theorem dX12_holes_13 : decode cX12_holes 13 = .ok (.ireturn, 1) := by decide +kernel
theorem dX12_ofHole_0 : decode cX12_ofHole 0 = .ok (.aload_n 0, 1) := by decide +kernel
theorem dX12_ofHole_1 : decode cX12_ofHole 1 = .ok (.getfield 9, 3) := by decide +kernel
theorem dX12_ofHole_4 : decode cX12_ofHole 4 = .ok (.sipush 342, 3) := by decide +kernel
theorem dX12_ofHole_7 : decode cX12_ofHole 7 = .ok (.bipush 25, 2) := by decide +kernel
theorem dX12_ofHole_9 : decode cX12_ofHole 9 = .ok (.iload_n 1, 1) := by decide +kernel
theorem dX12_ofHole_10 : decode cX12_ofHole 10 = .ok (.imul, 1) := by decide +kernel
theorem dX12_ofHole_11 : decode cX12_ofHole 11 = .ok (.iadd, 1) := by decide +kernel
theorem dX12_ofHole_12 : decode cX12_ofHole 12 = .ok (.iconst 1, 1) := by decide +kernel
theorem dX12_ofHole_13 : decode cX12_ofHole 13 = .ok (.iadd, 1) := by decide +kernel
theorem dX12_ofHole_14 : decode cX12_ofHole 14 = .ok (.iconst 4, 1) := by decide +kernel
theorem dX12_ofHole_15 : decode cX12_ofHole 15 = .ok (.iload_n 2, 1) := by decide +kernel
theorem dX12_ofHole_16 : decode cX12_ofHole 16 = .ok (.imul, 1) := by decide +kernel
theorem dX12_ofHole_17 : decode cX12_ofHole 17 = .ok (.iadd, 1) := by decide +kernel
theorem dX12_ofHole_18 : decode cX12_ofHole 18 = .ok (.iload_n 3, 1) := by decide +kernel
theorem dX12_ofHole_19 : decode cX12_ofHole 19 = .ok (.iadd, 1) := by decide +kernel
theorem dX12_ofHole_20 : decode cX12_ofHole 20 = .ok (.iaload, 1) := by decide +kernel
theorem dX12_ofHole_21 : decode cX12_ofHole 21 = .ok (.ireturn, 1) := by decide +kernel
theorem dX12_canBe_0 : decode cX12_canBe 0 = .ok (.aload_n 0, 1) := by decide +kernel
theorem dX12_canBe_1 : decode cX12_canBe 1 = .ok (.iload_n 1, 1) := by decide +kernel
theorem dX12_canBe_2 : decode cX12_canBe 2 = .ok (.iload_n 2, 1) := by decide +kernel
theorem dX12_canBe_3 : decode cX12_canBe 3 = .ok (.iconst 0, 1) := by decide +kernel
theorem dX12_canBe_4 : decode cX12_canBe 4 = .ok (.invokevirtual 115, 3) := by decide +kernel
theorem dX12_canBe_7 : decode cX12_canBe 7 = .ok (.istore 4, 2) := by decide +kernel
theorem dX12_canBe_9 : decode cX12_canBe 9 = .ok (.aload_n 0, 1) := by decide +kernel
theorem dX12_canBe_10 : decode cX12_canBe 10 = .ok (.iload_n 3, 1) := by decide +kernel
theorem dX12_canBe_11 : decode cX12_canBe 11 = .ok (.invokevirtual 101, 3) := by decide +kernel
theorem dX12_canBe_14 : decode cX12_canBe 14 = .ok (.istore 5, 2) := by decide +kernel
theorem dX12_canBe_16 : decode cX12_canBe 16 = .ok (.iload 4, 2) := by decide +kernel
theorem dX12_canBe_18 : decode cX12_canBe 18 = .ok (.bipush 110, 2) := by decide +kernel
theorem dX12_canBe_20 : decode cX12_canBe 20 = .ok (.if_icmp .ne 23, 3) := by decide +kernel
theorem dX12_canBe_23 : decode cX12_canBe 23 = .ok (.iload 5, 2) := by decide +kernel
theorem dX12_canBe_25 : decode cX12_canBe 25 = .ok (.iconst 1, 1) := by decide +kernel
theorem dX12_canBe_26 : decode cX12_canBe 26 = .ok (.if_icmp .eq 9, 3) := by decide +kernel
theorem dX12_canBe_29 : decode cX12_canBe 29 = .ok (.iload 5, 2) := by decide +kernel
theorem dX12_canBe_31 : decode cX12_canBe 31 = .ok (.iconst 3, 1) := by decide +kernel
theorem dX12_canBe_32 : decode cX12_canBe 32 = .ok (.if_icmp .ne 7, 3) := by decide +kernel
theorem dX12_canBe_35 : decode cX12_canBe 35 = .ok (.iconst 1, 1) := by decide +kernel
theorem dX12_canBe_36 : decode cX12_canBe 36 = .ok (.goto 71, 3) := by decide +kernel
theorem dX12_canBe_39 : decode cX12_canBe 39 = .ok (.iconst 0, 1) := by decide +kernel
theorem dX12_canBe_40 : decode cX12_canBe 40 = .ok (.goto 67, 3) := by decide +kernel
theorem dX12_canBe_43 : decode cX12_canBe 43 = .ok (.iload 4, 2) := by decide +kernel
theorem dX12_canBe_45 : decode cX12_canBe 45 = .ok (.bipush 118, 2) := by decide +kernel
theorem dX12_canBe_47 : decode cX12_canBe 47 = .ok (.if_icmp .ne 23, 3) := by decide +kernel
theorem dX12_canBe_50 : decode cX12_canBe 50 = .ok (.iload 5, 2) := by decide +kernel
theorem dX12_canBe_52 : decode cX12_canBe 52 = .ok (.iconst 2, 1) := by decide +kernel
theorem dX12_canBe_53 : decode cX12_canBe 53 = .ok (.if_icmp .eq 9, 3) := by decide +kernel
theorem dX12_canBe_56 : decode cX12_canBe 56 = .ok (.iload 5, 2) := by decide +kernel
theorem dX12_canBe_58 : decode cX12_canBe 58 = .ok (.iconst 5, 1) := by decide +kernel
theorem dX12_canBe_59 : decode cX12_canBe 59 = .ok (.if_icmp .ne 7, 3) := by decide +kernel
theorem dX12_canBe_62 : decode cX12_canBe 62 = .ok (.iconst 1, 1) := by decide +kernel
theorem dX12_canBe_63 : decode cX12_canBe 63 = .ok (.goto 44, 3) := by decide +kernel
theorem dX12_canBe_66 : decode cX12_canBe 66 = .ok (.iconst 0, 1) := by decide +kernel
theorem dX12_canBe_67 : decode cX12_canBe 67 = .ok (.goto 40, 3) := by decide +kernel
theorem dX12_canBe_70 : decode cX12_canBe 70 = .ok (.iload 4, 2) := by decide +kernel
theorem dX12_canBe_72 : decode cX12_canBe 72 = .ok (.bipush 102, 2) := by decide +kernel
theorem dX12_canBe_74 : decode cX12_canBe 74 = .ok (.if_icmp .ne 17, 3) := by decide +kernel
theorem dX12_canBe_77 : decode cX12_canBe 77 = .ok (.iload 5, 2) := by decide +kernel
theorem dX12_canBe_79 : decode cX12_canBe 79 = .ok (.iconst 4, 1) := by decide +kernel
theorem dX12_canBe_80 : decode cX12_canBe 80 = .ok (.if_icmp .ne 7, 3) := by decide +kernel
theorem dX12_canBe_83 : decode cX12_canBe 83 = .ok (.iconst 1, 1) := by decide +kernel
theorem dX12_canBe_84 : decode cX12_canBe 84 = .ok (.goto 23, 3) := by decide +kernel
theorem dX12_canBe_87 : decode cX12_canBe 87 = .ok (.iconst 0, 1) := by decide +kernel
theorem dX12_canBe_88 : decode cX12_canBe 88 = .ok (.goto 19, 3) := by decide +kernel
theorem dX12_canBe_91 : decode cX12_canBe 91 = .ok (.iload_n 3, 1) := by decide +kernel
theorem dX12_canBe_92 : decode cX12_canBe 92 = .ok (.aload_n 0, 1) := by decide +kernel
theorem dX12_canBe_93 : decode cX12_canBe 93 = .ok (.iload_n 1, 1) := by decide +kernel
theorem dX12_canBe_94 : decode cX12_canBe 94 = .ok (.iload_n 2, 1) := by decide +kernel
theorem dX12_canBe_95 : decode cX12_canBe 95 = .ok (.iconst 3, 1) := by decide +kernel
theorem dX12_canBe_96 : decode cX12_canBe 96 = .ok (.invokevirtual 115, 3) := by decide +kernel
theorem dX12_canBe_99 : decode cX12_canBe 99 = .ok (.if_icmp .ne 7, 3) := by decide +kernel
theorem dX12_canBe_102 : decode cX12_canBe 102 = .ok (.iconst 1, 1) := by decide +kernel
theorem dX12_canBe_103 : decode cX12_canBe 103 = .ok (.goto 4, 3) := by decide +kernel
theorem dX12_canBe_106 : decode cX12_canBe 106 = .ok (.iconst 0, 1) := by decide +kernel
theorem dX12_canBe_107 : decode cX12_canBe 107 = .ok (.ireturn, 1) := by decide +kernel
theorem dX12_here_0 : decode cX12_here 0 = .ok (.iload_n 1, 1) := by decide +kernel
theorem dX12_here_1 : decode cX12_here 1 = .ok (.aload_n 0, 1) := by decide +kernel
theorem dX12_here_2 : decode cX12_here 2 = .ok (.getfield 72, 3) := by decide +kernel
theorem dX12_here_5 : decode cX12_here 5 = .ok (.if_icmp .ge 12, 3) := by decide +kernel
theorem dX12_here_8 : decode cX12_here 8 = .ok (.aload_n 0, 1) := by decide +kernel
theorem dX12_here_9 : decode cX12_here 9 = .ok (.getfield 16, 3) := by decide +kernel
theorem dX12_here_12 : decode cX12_here 12 = .ok (.iload_n 1, 1) := by decide +kernel
theorem dX12_here_13 : decode cX12_here 13 = .ok (.iaload, 1) := by decide +kernel
theorem dX12_here_14 : decode cX12_here 14 = .ok (.goto 4, 3) := by decide +kernel
theorem dX12_here_17 : decode cX12_here 17 = .ok (.iconst (-1), 1) := by decide +kernel
theorem dX12_here_18 : decode cX12_here 18 = .ok (.ireturn, 1) := by decide +kernel
theorem dX12_isDigit_0 : decode cX12_isDigit 0 = .ok (.aload_n 0, 1) := by decide +kernel
theorem dX12_isDigit_1 : decode cX12_isDigit 1 = .ok (.iload_n 1, 1) := by decide +kernel
theorem dX12_isDigit_2 : decode cX12_isDigit 2 = .ok (.invokevirtual 118, 3) := by decide +kernel
theorem dX12_isDigit_5 : decode cX12_isDigit 5 = .ok (.bipush 48, 2) := by decide +kernel
theorem dX12_isDigit_7 : decode cX12_isDigit 7 = .ok (.bipush 48, 2) := by decide +kernel
theorem dX12_isDigit_9 : decode cX12_isDigit 9 = .ok (.iload_n 2, 1) := by decide +kernel
theorem dX12_isDigit_10 : decode cX12_isDigit 10 = .ok (.iadd, 1) := by decide +kernel
theorem dX12_isDigit_11 : decode cX12_isDigit 11 = .ok (.invokestatic 64, 3) := by decide +kernel
theorem dX12_isDigit_14 : decode cX12_isDigit 14 = .ok (.ireturn, 1) := by decide +kernel
theorem dX12_isBlank_0 : decode cX12_isBlank 0 = .ok (.iload_n 0, 1) := by decide +kernel
theorem dX12_isBlank_1 : decode cX12_isBlank 1 = .ok (.bipush 32, 2) := by decide +kernel
theorem dX12_isBlank_3 : decode cX12_isBlank 3 = .ok (.if_icmp .eq 9, 3) := by decide +kernel
theorem dX12_isBlank_6 : decode cX12_isBlank 6 = .ok (.iload_n 0, 1) := by decide +kernel
theorem dX12_isBlank_7 : decode cX12_isBlank 7 = .ok (.bipush 10, 2) := by decide +kernel
theorem dX12_isBlank_9 : decode cX12_isBlank 9 = .ok (.if_icmp .ne 7, 3) := by decide +kernel
theorem dX12_isBlank_12 : decode cX12_isBlank 12 = .ok (.iconst 1, 1) := by decide +kernel
theorem dX12_isBlank_13 : decode cX12_isBlank 13 = .ok (.goto 4, 3) := by decide +kernel
theorem dX12_isBlank_16 : decode cX12_isBlank 16 = .ok (.iconst 0, 1) := by decide +kernel
theorem dX12_isBlank_17 : decode cX12_isBlank 17 = .ok (.ireturn, 1) := by decide +kernel
theorem dX12_reads_0 : decode cX12_reads 0 = .ok (.aload_n 0, 1) := by decide +kernel
theorem dX12_reads_1 : decode cX12_reads 1 = .ok (.iload_n 2, 1) := by decide +kernel
theorem dX12_reads_2 : decode cX12_reads 2 = .ok (.invokevirtual 118, 3) := by decide +kernel
theorem dX12_reads_5 : decode cX12_reads 5 = .ok (.istore 4, 2) := by decide +kernel
theorem dX12_reads_7 : decode cX12_reads 7 = .ok (.aload_n 0, 1) := by decide +kernel
theorem dX12_reads_8 : decode cX12_reads 8 = .ok (.getfield 9, 3) := by decide +kernel
theorem dX12_reads_11 : decode cX12_reads 11 = .ok (.iload_n 1, 1) := by decide +kernel
theorem dX12_reads_12 : decode cX12_reads 12 = .ok (.iload 4, 2) := by decide +kernel
theorem dX12_reads_14 : decode cX12_reads 14 = .ok (.iastore, 1) := by decide +kernel
theorem dX12_reads_15 : decode cX12_reads 15 = .ok (.aload_n 0, 1) := by decide +kernel
theorem dX12_reads_16 : decode cX12_reads 16 = .ok (.getfield 9, 3) := by decide +kernel
theorem dX12_reads_19 : decode cX12_reads 19 = .ok (.iload_n 1, 1) := by decide +kernel
theorem dX12_reads_20 : decode cX12_reads 20 = .ok (.iconst 1, 1) := by decide +kernel
theorem dX12_reads_21 : decode cX12_reads 21 = .ok (.iadd, 1) := by decide +kernel
theorem dX12_reads_22 : decode cX12_reads 22 = .ok (.iconst (-1), 1) := by decide +kernel
theorem dX12_reads_23 : decode cX12_reads 23 = .ok (.iastore, 1) := by decide +kernel
theorem dX12_reads_24 : decode cX12_reads 24 = .ok (.aload_n 0, 1) := by decide +kernel
theorem dX12_reads_25 : decode cX12_reads 25 = .ok (.getfield 9, 3) := by decide +kernel
theorem dX12_reads_28 : decode cX12_reads 28 = .ok (.iload_n 1, 1) := by decide +kernel
theorem dX12_reads_29 : decode cX12_reads 29 = .ok (.iconst 2, 1) := by decide +kernel
theorem dX12_reads_30 : decode cX12_reads 30 = .ok (.iadd, 1) := by decide +kernel
theorem dX12_reads_31 : decode cX12_reads 31 = .ok (.iconst (-1), 1) := by decide +kernel
theorem dX12_reads_32 : decode cX12_reads 32 = .ok (.iastore, 1) := by decide +kernel
theorem dX12_reads_33 : decode cX12_reads 33 = .ok (.aload_n 0, 1) := by decide +kernel
theorem dX12_reads_34 : decode cX12_reads 34 = .ok (.getfield 9, 3) := by decide +kernel
theorem dX12_reads_37 : decode cX12_reads 37 = .ok (.iload_n 1, 1) := by decide +kernel
theorem dX12_reads_38 : decode cX12_reads 38 = .ok (.iconst 3, 1) := by decide +kernel
theorem dX12_reads_39 : decode cX12_reads 39 = .ok (.iadd, 1) := by decide +kernel
theorem dX12_reads_40 : decode cX12_reads 40 = .ok (.iconst (-1), 1) := by decide +kernel
theorem dX12_reads_41 : decode cX12_reads 41 = .ok (.iastore, 1) := by decide +kernel
theorem dX12_reads_42 : decode cX12_reads 42 = .ok (.aload_n 0, 1) := by decide +kernel
theorem dX12_reads_43 : decode cX12_reads 43 = .ok (.iload_n 2, 1) := by decide +kernel
theorem dX12_reads_44 : decode cX12_reads 44 = .ok (.iconst 1, 1) := by decide +kernel
theorem dX12_reads_45 : decode cX12_reads 45 = .ok (.iadd, 1) := by decide +kernel
theorem dX12_reads_46 : decode cX12_reads 46 = .ok (.putfield 121, 3) := by decide +kernel
theorem dX12_reads_49 : decode cX12_reads 49 = .ok (.iload 4, 2) := by decide +kernel
theorem dX12_reads_51 : decode cX12_reads 51 = .ok (.bipush 112, 2) := by decide +kernel
theorem dX12_reads_53 : decode cX12_reads 53 = .ok (.if_icmp .ne 33, 3) := by decide +kernel
theorem dX12_reads_56 : decode cX12_reads 56 = .ok (.aload_n 0, 1) := by decide +kernel
theorem dX12_reads_57 : decode cX12_reads 57 = .ok (.aload_n 0, 1) := by decide +kernel
theorem dX12_reads_58 : decode cX12_reads 58 = .ok (.getfield 121, 3) := by decide +kernel
theorem dX12_reads_61 : decode cX12_reads 61 = .ok (.bipush 9, 2) := by decide +kernel
theorem dX12_reads_63 : decode cX12_reads 63 = .ok (.invokevirtual 124, 3) := by decide +kernel
theorem dX12_reads_66 : decode cX12_reads 66 = .ok (.ifCond .ne 14, 3) := by decide +kernel
theorem dX12_reads_69 : decode cX12_reads 69 = .ok (.aload_n 0, 1) := by decide +kernel
theorem dX12_reads_70 : decode cX12_reads 70 = .ok (.aload_n 0, 1) := by decide +kernel
theorem dX12_reads_71 : decode cX12_reads 71 = .ok (.getfield 121, 3) := by decide +kernel
theorem dX12_reads_74 : decode cX12_reads 74 = .ok (.putfield 127, 3) := by decide +kernel
theorem dX12_reads_77 : decode cX12_reads 77 = .ok (.goto 8, 3) := by decide +kernel
theorem dX12_reads_80 : decode cX12_reads 80 = .ok (.aload_n 0, 1) := by decide +kernel
theorem dX12_reads_81 : decode cX12_reads 81 = .ok (.iload_n 1, 1) := by decide +kernel
theorem dX12_reads_82 : decode cX12_reads 82 = .ok (.invokevirtual 130, 3) := by decide +kernel
theorem dX12_reads_85 : decode cX12_reads 85 = .ok (.return_, 1) := by decide +kernel
theorem dX12_reads_86 : decode cX12_reads 86 = .ok (.aload_n 0, 1) := by decide +kernel
theorem dX12_reads_87 : decode cX12_reads 87 = .ok (.aload_n 0, 1) := by decide +kernel
theorem dX12_reads_88 : decode cX12_reads 88 = .ok (.getfield 121, 3) := by decide +kernel
theorem dX12_reads_91 : decode cX12_reads 91 = .ok (.iconst 2, 1) := by decide +kernel
theorem dX12_reads_92 : decode cX12_reads 92 = .ok (.invokevirtual 124, 3) := by decide +kernel
theorem dX12_reads_95 : decode cX12_reads 95 = .ok (.ifCond .eq 29, 3) := by decide +kernel
theorem dX12_reads_98 : decode cX12_reads 98 = .ok (.iload 4, 2) := by decide +kernel
theorem dX12_reads_100 : decode cX12_reads 100 = .ok (.bipush 110, 2) := by decide +kernel
theorem dX12_reads_102 : decode cX12_reads 102 = .ok (.if_icmp .ne 31, 3) := by decide +kernel
theorem dX12_reads_105 : decode cX12_reads 105 = .ok (.iload_n 3, 1) := by decide +kernel
theorem dX12_reads_106 : decode cX12_reads 106 = .ok (.aload_n 0, 1) := by decide +kernel
theorem dX12_reads_107 : decode cX12_reads 107 = .ok (.aload_n 0, 1) := by decide +kernel
theorem dX12_reads_108 : decode cX12_reads 108 = .ok (.getfield 121, 3) := by decide +kernel
theorem dX12_reads_111 : decode cX12_reads 111 = .ok (.invokevirtual 118, 3) := by decide +kernel
theorem dX12_reads_114 : decode cX12_reads 114 = .ok (.bipush 48, 2) := by decide +kernel
theorem dX12_reads_116 : decode cX12_reads 116 = .ok (.isub, 1) := by decide +kernel
theorem dX12_reads_117 : decode cX12_reads 117 = .ok (.ishr, 1) := by decide +kernel
theorem dX12_reads_118 : decode cX12_reads 118 = .ok (.iconst 1, 1) := by decide +kernel
theorem dX12_reads_119 : decode cX12_reads 119 = .ok (.iand, 1) := by decide +kernel
theorem dX12_reads_120 : decode cX12_reads 120 = .ok (.iconst 1, 1) := by decide +kernel
theorem dX12_reads_121 : decode cX12_reads 121 = .ok (.if_icmp .ne 12, 3) := by decide +kernel
theorem dX12_reads_124 : decode cX12_reads 124 = .ok (.aload_n 0, 1) := by decide +kernel
theorem dX12_reads_125 : decode cX12_reads 125 = .ok (.aload_n 0, 1) := by decide +kernel
theorem dX12_reads_126 : decode cX12_reads 126 = .ok (.getfield 121, 3) := by decide +kernel
theorem dX12_reads_129 : decode cX12_reads 129 = .ok (.putfield 127, 3) := by decide +kernel
theorem dX12_reads_132 : decode cX12_reads 132 = .ok (.return_, 1) := by decide +kernel
theorem dX12_reads_133 : decode cX12_reads 133 = .ok (.aload_n 0, 1) := by decide +kernel
theorem dX12_reads_134 : decode cX12_reads 134 = .ok (.getfield 9, 3) := by decide +kernel
theorem dX12_reads_137 : decode cX12_reads 137 = .ok (.iload_n 1, 1) := by decide +kernel
theorem dX12_reads_138 : decode cX12_reads 138 = .ok (.iconst 1, 1) := by decide +kernel
theorem dX12_reads_139 : decode cX12_reads 139 = .ok (.iadd, 1) := by decide +kernel
theorem dX12_reads_140 : decode cX12_reads 140 = .ok (.aload_n 0, 1) := by decide +kernel
theorem dX12_reads_141 : decode cX12_reads 141 = .ok (.aload_n 0, 1) := by decide +kernel
theorem dX12_reads_142 : decode cX12_reads 142 = .ok (.getfield 121, 3) := by decide +kernel
theorem dX12_reads_145 : decode cX12_reads 145 = .ok (.invokevirtual 118, 3) := by decide +kernel
theorem dX12_reads_148 : decode cX12_reads 148 = .ok (.bipush 48, 2) := by decide +kernel
theorem dX12_reads_150 : decode cX12_reads 150 = .ok (.isub, 1) := by decide +kernel
theorem dX12_reads_151 : decode cX12_reads 151 = .ok (.iastore, 1) := by decide +kernel
theorem dX12_reads_152 : decode cX12_reads 152 = .ok (.aload_n 0, 1) := by decide +kernel
theorem dX12_reads_153 : decode cX12_reads 153 = .ok (.dup, 1) := by decide +kernel
theorem dX12_reads_154 : decode cX12_reads 154 = .ok (.getfield 121, 3) := by decide +kernel
theorem dX12_reads_157 : decode cX12_reads 157 = .ok (.iconst 1, 1) := by decide +kernel
theorem dX12_reads_158 : decode cX12_reads 158 = .ok (.iadd, 1) := by decide +kernel
theorem dX12_reads_159 : decode cX12_reads 159 = .ok (.putfield 121, 3) := by decide +kernel
theorem dX12_reads_162 : decode cX12_reads 162 = .ok (.iload 4, 2) := by decide +kernel
theorem dX12_reads_164 : decode cX12_reads 164 = .ok (.bipush 118, 2) := by decide +kernel
theorem dX12_reads_166 : decode cX12_reads 166 = .ok (.if_icmp .ne 4, 3) := by decide +kernel
theorem dX12_reads_169 : decode cX12_reads 169 = .ok (.return_, 1) := by decide +kernel
theorem dX12_reads_170 : decode cX12_reads 170 = .ok (.aload_n 0, 1) := by decide +kernel
theorem dX12_reads_171 : decode cX12_reads 171 = .ok (.aload_n 0, 1) := by decide +kernel
theorem dX12_reads_172 : decode cX12_reads 172 = .ok (.getfield 121, 3) := by decide +kernel
theorem dX12_reads_175 : decode cX12_reads 175 = .ok (.iconst 3, 1) := by decide +kernel
theorem dX12_reads_176 : decode cX12_reads 176 = .ok (.invokevirtual 124, 3) := by decide +kernel
theorem dX12_reads_179 : decode cX12_reads 179 = .ok (.ifCond .ne 12, 3) := by decide +kernel
theorem dX12_reads_182 : decode cX12_reads 182 = .ok (.aload_n 0, 1) := by decide +kernel
theorem dX12_reads_183 : decode cX12_reads 183 = .ok (.aload_n 0, 1) := by decide +kernel
theorem dX12_reads_184 : decode cX12_reads 184 = .ok (.getfield 121, 3) := by decide +kernel
theorem dX12_reads_187 : decode cX12_reads 187 = .ok (.putfield 127, 3) := by decide +kernel
theorem dX12_reads_190 : decode cX12_reads 190 = .ok (.return_, 1) := by decide +kernel
theorem dX12_reads_191 : decode cX12_reads 191 = .ok (.aload_n 0, 1) := by decide +kernel
theorem dX12_reads_192 : decode cX12_reads 192 = .ok (.getfield 9, 3) := by decide +kernel
theorem dX12_reads_195 : decode cX12_reads 195 = .ok (.iload_n 1, 1) := by decide +kernel
theorem dX12_reads_196 : decode cX12_reads 196 = .ok (.iconst 2, 1) := by decide +kernel
theorem dX12_reads_197 : decode cX12_reads 197 = .ok (.iadd, 1) := by decide +kernel
theorem dX12_reads_198 : decode cX12_reads 198 = .ok (.aload_n 0, 1) := by decide +kernel
theorem dX12_reads_199 : decode cX12_reads 199 = .ok (.aload_n 0, 1) := by decide +kernel
theorem dX12_reads_200 : decode cX12_reads 200 = .ok (.getfield 121, 3) := by decide +kernel
theorem dX12_reads_203 : decode cX12_reads 203 = .ok (.invokevirtual 118, 3) := by decide +kernel
theorem dX12_reads_206 : decode cX12_reads 206 = .ok (.bipush 48, 2) := by decide +kernel
theorem dX12_reads_208 : decode cX12_reads 208 = .ok (.isub, 1) := by decide +kernel
theorem dX12_reads_209 : decode cX12_reads 209 = .ok (.iastore, 1) := by decide +kernel
theorem dX12_reads_210 : decode cX12_reads 210 = .ok (.aload_n 0, 1) := by decide +kernel
theorem dX12_reads_211 : decode cX12_reads 211 = .ok (.dup, 1) := by decide +kernel
theorem dX12_reads_212 : decode cX12_reads 212 = .ok (.getfield 121, 3) := by decide +kernel
theorem dX12_reads_215 : decode cX12_reads 215 = .ok (.iconst 1, 1) := by decide +kernel
theorem dX12_reads_216 : decode cX12_reads 216 = .ok (.iadd, 1) := by decide +kernel
theorem dX12_reads_217 : decode cX12_reads 217 = .ok (.putfield 121, 3) := by decide +kernel
theorem dX12_reads_220 : decode cX12_reads 220 = .ok (.return_, 1) := by decide +kernel
theorem dX12_readsWord_0 : decode cX12_readsWord 0 = .ok (.aload_n 0, 1) := by decide +kernel
theorem dX12_readsWord_1 : decode cX12_readsWord 1 = .ok (.getfield 121, 3) := by decide +kernel
theorem dX12_readsWord_4 : decode cX12_readsWord 4 = .ok (.istore_n 2, 1) := by decide +kernel
theorem dX12_readsWord_5 : decode cX12_readsWord 5 = .ok (.aload_n 0, 1) := by decide +kernel
theorem dX12_readsWord_6 : decode cX12_readsWord 6 = .ok (.iload_n 2, 1) := by decide +kernel
theorem dX12_readsWord_7 : decode cX12_readsWord 7 = .ok (.invokevirtual 118, 3) := by decide +kernel
theorem dX12_readsWord_10 : decode cX12_readsWord 10 = .ok (.bipush 48, 2) := by decide +kernel
theorem dX12_readsWord_12 : decode cX12_readsWord 12 = .ok (.isub, 1) := by decide +kernel
theorem dX12_readsWord_13 : decode cX12_readsWord 13 = .ok (.istore_n 3, 1) := by decide +kernel
theorem dX12_readsWord_14 : decode cX12_readsWord 14 = .ok (.aload_n 0, 1) := by decide +kernel
theorem dX12_readsWord_15 : decode cX12_readsWord 15 = .ok (.dup, 1) := by decide +kernel
theorem dX12_readsWord_16 : decode cX12_readsWord 16 = .ok (.getfield 121, 3) := by decide +kernel
theorem dX12_readsWord_19 : decode cX12_readsWord 19 = .ok (.iconst 1, 1) := by decide +kernel
theorem dX12_readsWord_20 : decode cX12_readsWord 20 = .ok (.iadd, 1) := by decide +kernel
theorem dX12_readsWord_21 : decode cX12_readsWord 21 = .ok (.putfield 121, 3) := by decide +kernel
theorem dX12_readsWord_24 : decode cX12_readsWord 24 = .ok (.aload_n 0, 1) := by decide +kernel
theorem dX12_readsWord_25 : decode cX12_readsWord 25 = .ok (.aload_n 0, 1) := by decide +kernel
theorem dX12_readsWord_26 : decode cX12_readsWord 26 = .ok (.getfield 121, 3) := by decide +kernel
theorem dX12_readsWord_29 : decode cX12_readsWord 29 = .ok (.bipush 9, 2) := by decide +kernel
theorem dX12_readsWord_31 : decode cX12_readsWord 31 = .ok (.invokevirtual 124, 3) := by decide +kernel
theorem dX12_readsWord_34 : decode cX12_readsWord 34 = .ok (.ifCond .eq 30, 3) := by decide +kernel
theorem dX12_readsWord_37 : decode cX12_readsWord 37 = .ok (.bipush 10, 2) := by decide +kernel
theorem dX12_readsWord_39 : decode cX12_readsWord 39 = .ok (.iload_n 3, 1) := by decide +kernel
theorem dX12_readsWord_40 : decode cX12_readsWord 40 = .ok (.imul, 1) := by decide +kernel
theorem dX12_readsWord_41 : decode cX12_readsWord 41 = .ok (.aload_n 0, 1) := by decide +kernel
theorem dX12_readsWord_42 : decode cX12_readsWord 42 = .ok (.aload_n 0, 1) := by decide +kernel
theorem dX12_readsWord_43 : decode cX12_readsWord 43 = .ok (.getfield 121, 3) := by decide +kernel
theorem dX12_readsWord_46 : decode cX12_readsWord 46 = .ok (.invokevirtual 118, 3) := by decide +kernel
theorem dX12_readsWord_49 : decode cX12_readsWord 49 = .ok (.iadd, 1) := by decide +kernel
theorem dX12_readsWord_50 : decode cX12_readsWord 50 = .ok (.bipush 48, 2) := by decide +kernel
theorem dX12_readsWord_52 : decode cX12_readsWord 52 = .ok (.isub, 1) := by decide +kernel
theorem dX12_readsWord_53 : decode cX12_readsWord 53 = .ok (.istore_n 3, 1) := by decide +kernel
theorem dX12_readsWord_54 : decode cX12_readsWord 54 = .ok (.aload_n 0, 1) := by decide +kernel
theorem dX12_readsWord_55 : decode cX12_readsWord 55 = .ok (.dup, 1) := by decide +kernel
theorem dX12_readsWord_56 : decode cX12_readsWord 56 = .ok (.getfield 121, 3) := by decide +kernel
theorem dX12_readsWord_59 : decode cX12_readsWord 59 = .ok (.iconst 1, 1) := by decide +kernel
theorem dX12_readsWord_60 : decode cX12_readsWord 60 = .ok (.iadd, 1) := by decide +kernel
theorem dX12_readsWord_61 : decode cX12_readsWord 61 = .ok (.putfield 121, 3) := by decide +kernel
theorem dX12_readsWord_64 : decode cX12_readsWord 64 = .ok (.aload_n 0, 1) := by decide +kernel
theorem dX12_readsWord_65 : decode cX12_readsWord 65 = .ok (.getfield 9, 3) := by decide +kernel
theorem dX12_readsWord_68 : decode cX12_readsWord 68 = .ok (.iload_n 1, 1) := by decide +kernel
theorem dX12_readsWord_69 : decode cX12_readsWord 69 = .ok (.iconst 3, 1) := by decide +kernel
theorem dX12_readsWord_70 : decode cX12_readsWord 70 = .ok (.iadd, 1) := by decide +kernel
theorem dX12_readsWord_71 : decode cX12_readsWord 71 = .ok (.iload_n 3, 1) := by decide +kernel
theorem dX12_readsWord_72 : decode cX12_readsWord 72 = .ok (.iastore, 1) := by decide +kernel
theorem dX12_readsWord_73 : decode cX12_readsWord 73 = .ok (.aload_n 0, 1) := by decide +kernel
theorem dX12_readsWord_74 : decode cX12_readsWord 74 = .ok (.iload_n 3, 1) := by decide +kernel
theorem dX12_readsWord_75 : decode cX12_readsWord 75 = .ok (.invokevirtual 98, 3) := by decide +kernel
theorem dX12_readsWord_78 : decode cX12_readsWord 78 = .ok (.ifCond .eq 11, 3) := by decide +kernel
theorem dX12_readsWord_81 : decode cX12_readsWord 81 = .ok (.aload_n 0, 1) := by decide +kernel
theorem dX12_readsWord_82 : decode cX12_readsWord 82 = .ok (.iload_n 3, 1) := by decide +kernel
theorem dX12_readsWord_83 : decode cX12_readsWord 83 = .ok (.invokevirtual 101, 3) := by decide +kernel
theorem dX12_readsWord_86 : decode cX12_readsWord 86 = .ok (.ifCond .eq 8, 3) := by decide +kernel
theorem dX12_readsWord_89 : decode cX12_readsWord 89 = .ok (.aload_n 0, 1) := by decide +kernel
theorem dX12_readsWord_90 : decode cX12_readsWord 90 = .ok (.iload_n 2, 1) := by decide +kernel
theorem dX12_readsWord_91 : decode cX12_readsWord 91 = .ok (.putfield 127, 3) := by decide +kernel
theorem dX12_readsWord_94 : decode cX12_readsWord 94 = .ok (.return_, 1) := by decide +kernel
theorem dX12_readsFrame_0 : decode cX12_readsFrame 0 = .ok (.iconst 0, 1) := by decide +kernel
theorem dX12_readsFrame_1 : decode cX12_readsFrame 1 = .ok (.istore_n 2, 1) := by decide +kernel
theorem dX12_readsFrame_2 : decode cX12_readsFrame 2 = .ok (.iconst 0, 1) := by decide +kernel
theorem dX12_readsFrame_3 : decode cX12_readsFrame 3 = .ok (.istore_n 3, 1) := by decide +kernel
theorem dX12_readsFrame_4 : decode cX12_readsFrame 4 = .ok (.iconst 0, 1) := by decide +kernel
theorem dX12_readsFrame_5 : decode cX12_readsFrame 5 = .ok (.istore 4, 2) := by decide +kernel
theorem dX12_readsFrame_7 : decode cX12_readsFrame 7 = .ok (.iconst 0, 1) := by decide +kernel
theorem dX12_readsFrame_8 : decode cX12_readsFrame 8 = .ok (.istore 5, 2) := by decide +kernel
theorem dX12_readsFrame_10 : decode cX12_readsFrame 10 = .ok (.aload_n 0, 1) := by decide +kernel
theorem dX12_readsFrame_11 : decode cX12_readsFrame 11 = .ok (.iconst (-1), 1) := by decide +kernel
theorem dX12_readsFrame_12 : decode cX12_readsFrame 12 = .ok (.putfield 127, 3) := by decide +kernel
theorem dX12_readsFrame_15 : decode cX12_readsFrame 15 = .ok (.iload_n 3, 1) := by decide +kernel
theorem dX12_readsFrame_16 : decode cX12_readsFrame 16 = .ok (.aload_n 0, 1) := by decide +kernel
theorem dX12_readsFrame_17 : decode cX12_readsFrame 17 = .ok (.getfield 72, 3) := by decide +kernel
theorem dX12_readsFrame_20 : decode cX12_readsFrame 20 = .ok (.if_icmp .ge 149, 3) := by decide +kernel
theorem dX12_readsFrame_23 : decode cX12_readsFrame 23 = .ok (.aload_n 0, 1) := by decide +kernel
theorem dX12_readsFrame_24 : decode cX12_readsFrame 24 = .ok (.getfield 127, 3) := by decide +kernel
theorem dX12_readsFrame_27 : decode cX12_readsFrame 27 = .ok (.ifCond .ge 142, 3) := by decide +kernel
theorem dX12_readsFrame_30 : decode cX12_readsFrame 30 = .ok (.aload_n 0, 1) := by decide +kernel
theorem dX12_readsFrame_31 : decode cX12_readsFrame 31 = .ok (.iload_n 3, 1) := by decide +kernel
theorem dX12_readsFrame_32 : decode cX12_readsFrame 32 = .ok (.invokevirtual 118, 3) := by decide +kernel
theorem dX12_readsFrame_35 : decode cX12_readsFrame 35 = .ok (.istore 6, 2) := by decide +kernel
theorem dX12_readsFrame_37 : decode cX12_readsFrame 37 = .ok (.iload 6, 2) := by decide +kernel
theorem dX12_readsFrame_39 : decode cX12_readsFrame 39 = .ok (.invokestatic 133, 3) := by decide +kernel
theorem dX12_readsFrame_42 : decode cX12_readsFrame 42 = .ok (.ifCond .eq 9, 3) := by decide +kernel
theorem dX12_readsFrame_45 : decode cX12_readsFrame 45 = .ok (.iinc 3 1, 3) := by decide +kernel
theorem dX12_readsFrame_48 : decode cX12_readsFrame 48 = .ok (.goto (-33), 3) := by decide +kernel
theorem dX12_readsFrame_51 : decode cX12_readsFrame 51 = .ok (.iload_n 2, 1) := by decide +kernel
theorem dX12_readsFrame_52 : decode cX12_readsFrame 52 = .ok (.bipush 6, 2) := by decide +kernel
theorem dX12_readsFrame_54 : decode cX12_readsFrame 54 = .ok (.if_icmp .eq 31, 3) := by decide +kernel
theorem dX12_readsFrame_57 : decode cX12_readsFrame 57 = .ok (.iload 6, 2) := by decide +kernel
theorem dX12_readsFrame_59 : decode cX12_readsFrame 59 = .ok (.bipush 110, 2) := by decide +kernel
theorem dX12_readsFrame_61 : decode cX12_readsFrame 61 = .ok (.if_icmp .eq 30, 3) := by decide +kernel
theorem dX12_readsFrame_64 : decode cX12_readsFrame 64 = .ok (.iload 6, 2) := by decide +kernel
theorem dX12_readsFrame_66 : decode cX12_readsFrame 66 = .ok (.bipush 118, 2) := by decide +kernel
theorem dX12_readsFrame_68 : decode cX12_readsFrame 68 = .ok (.if_icmp .eq 23, 3) := by decide +kernel
theorem dX12_readsFrame_71 : decode cX12_readsFrame 71 = .ok (.iload 6, 2) := by decide +kernel
theorem dX12_readsFrame_73 : decode cX12_readsFrame 73 = .ok (.bipush 102, 2) := by decide +kernel
theorem dX12_readsFrame_75 : decode cX12_readsFrame 75 = .ok (.if_icmp .eq 16, 3) := by decide +kernel
theorem dX12_readsFrame_78 : decode cX12_readsFrame 78 = .ok (.iload 6, 2) := by decide +kernel
theorem dX12_readsFrame_80 : decode cX12_readsFrame 80 = .ok (.bipush 112, 2) := by decide +kernel
theorem dX12_readsFrame_82 : decode cX12_readsFrame 82 = .ok (.if_icmp .eq 9, 3) := by decide +kernel
theorem dX12_readsFrame_85 : decode cX12_readsFrame 85 = .ok (.aload_n 0, 1) := by decide +kernel
theorem dX12_readsFrame_86 : decode cX12_readsFrame 86 = .ok (.iload_n 3, 1) := by decide +kernel
theorem dX12_readsFrame_87 : decode cX12_readsFrame 87 = .ok (.putfield 127, 3) := by decide +kernel
theorem dX12_readsFrame_90 : decode cX12_readsFrame 90 = .ok (.return_, 1) := by decide +kernel
theorem dX12_readsFrame_91 : decode cX12_readsFrame 91 = .ok (.iload_n 1, 1) := by decide +kernel
theorem dX12_readsFrame_92 : decode cX12_readsFrame 92 = .ok (.iconst 1, 1) := by decide +kernel
theorem dX12_readsFrame_93 : decode cX12_readsFrame 93 = .ok (.iadd, 1) := by decide +kernel
theorem dX12_readsFrame_94 : decode cX12_readsFrame 94 = .ok (.iconst 4, 1) := by decide +kernel
theorem dX12_readsFrame_95 : decode cX12_readsFrame 95 = .ok (.iload_n 2, 1) := by decide +kernel
theorem dX12_readsFrame_96 : decode cX12_readsFrame 96 = .ok (.imul, 1) := by decide +kernel
theorem dX12_readsFrame_97 : decode cX12_readsFrame 97 = .ok (.iadd, 1) := by decide +kernel
theorem dX12_readsFrame_98 : decode cX12_readsFrame 98 = .ok (.istore 7, 2) := by decide +kernel
theorem dX12_readsFrame_100 : decode cX12_readsFrame 100 = .ok (.aload_n 0, 1) := by decide +kernel
theorem dX12_readsFrame_101 : decode cX12_readsFrame 101 = .ok (.iload 7, 2) := by decide +kernel
theorem dX12_readsFrame_103 : decode cX12_readsFrame 103 = .ok (.iload_n 3, 1) := by decide +kernel
theorem dX12_readsFrame_104 : decode cX12_readsFrame 104 = .ok (.iload 4, 2) := by decide +kernel
theorem dX12_readsFrame_106 : decode cX12_readsFrame 106 = .ok (.invokevirtual 136, 3) := by decide +kernel
theorem dX12_readsFrame_109 : decode cX12_readsFrame 109 = .ok (.aload_n 0, 1) := by decide +kernel
theorem dX12_readsFrame_110 : decode cX12_readsFrame 110 = .ok (.getfield 127, 3) := by decide +kernel
theorem dX12_readsFrame_113 : decode cX12_readsFrame 113 = .ok (.ifCond .lt 4, 3) := by decide +kernel
theorem dX12_readsFrame_116 : decode cX12_readsFrame 116 = .ok (.return_, 1) := by decide +kernel
theorem dX12_readsFrame_117 : decode cX12_readsFrame 117 = .ok (.aload_n 0, 1) := by decide +kernel
theorem dX12_readsFrame_118 : decode cX12_readsFrame 118 = .ok (.getfield 9, 3) := by decide +kernel
theorem dX12_readsFrame_121 : decode cX12_readsFrame 121 = .ok (.iload 7, 2) := by decide +kernel
theorem dX12_readsFrame_123 : decode cX12_readsFrame 123 = .ok (.iconst 1, 1) := by decide +kernel
theorem dX12_readsFrame_124 : decode cX12_readsFrame 124 = .ok (.iadd, 1) := by decide +kernel
theorem dX12_readsFrame_125 : decode cX12_readsFrame 125 = .ok (.iaload, 1) := by decide +kernel
theorem dX12_readsFrame_126 : decode cX12_readsFrame 126 = .ok (.istore 8, 2) := by decide +kernel
theorem dX12_readsFrame_128 : decode cX12_readsFrame 128 = .ok (.iload 6, 2) := by decide +kernel
theorem dX12_readsFrame_130 : decode cX12_readsFrame 130 = .ok (.bipush 110, 2) := by decide +kernel
theorem dX12_readsFrame_132 : decode cX12_readsFrame 132 = .ok (.if_icmp .ne 12, 3) := by decide +kernel
theorem dX12_readsFrame_135 : decode cX12_readsFrame 135 = .ok (.iload 4, 2) := by decide +kernel
theorem dX12_readsFrame_137 : decode cX12_readsFrame 137 = .ok (.iconst 1, 1) := by decide +kernel
theorem dX12_readsFrame_138 : decode cX12_readsFrame 138 = .ok (.iload 8, 2) := by decide +kernel
theorem dX12_readsFrame_140 : decode cX12_readsFrame 140 = .ok (.ishl, 1) := by decide +kernel
theorem dX12_readsFrame_141 : decode cX12_readsFrame 141 = .ok (.ior, 1) := by decide +kernel
theorem dX12_readsFrame_142 : decode cX12_readsFrame 142 = .ok (.istore 4, 2) := by decide +kernel
theorem dX12_readsFrame_144 : decode cX12_readsFrame 144 = .ok (.iload 8, 2) := by decide +kernel
theorem dX12_readsFrame_146 : decode cX12_readsFrame 146 = .ok (.ifCond .lt 12, 3) := by decide +kernel
theorem dX12_readsFrame_149 : decode cX12_readsFrame 149 = .ok (.iload 5, 2) := by decide +kernel
theorem dX12_readsFrame_151 : decode cX12_readsFrame 151 = .ok (.iconst 1, 1) := by decide +kernel
theorem dX12_readsFrame_152 : decode cX12_readsFrame 152 = .ok (.iload 8, 2) := by decide +kernel
theorem dX12_readsFrame_154 : decode cX12_readsFrame 154 = .ok (.ishl, 1) := by decide +kernel
theorem dX12_readsFrame_155 : decode cX12_readsFrame 155 = .ok (.ior, 1) := by decide +kernel
theorem dX12_readsFrame_156 : decode cX12_readsFrame 156 = .ok (.istore 5, 2) := by decide +kernel
theorem dX12_readsFrame_158 : decode cX12_readsFrame 158 = .ok (.iinc 2 1, 3) := by decide +kernel
theorem dX12_readsFrame_161 : decode cX12_readsFrame 161 = .ok (.aload_n 0, 1) := by decide +kernel
theorem dX12_readsFrame_162 : decode cX12_readsFrame 162 = .ok (.getfield 121, 3) := by decide +kernel
theorem dX12_readsFrame_165 : decode cX12_readsFrame 165 = .ok (.istore_n 3, 1) := by decide +kernel
theorem dX12_readsFrame_166 : decode cX12_readsFrame 166 = .ok (.goto (-151), 3) := by decide +kernel
theorem dX12_readsFrame_169 : decode cX12_readsFrame 169 = .ok (.aload_n 0, 1) := by decide +kernel
theorem dX12_readsFrame_170 : decode cX12_readsFrame 170 = .ok (.getfield 9, 3) := by decide +kernel
theorem dX12_readsFrame_173 : decode cX12_readsFrame 173 = .ok (.iload_n 1, 1) := by decide +kernel
theorem dX12_readsFrame_174 : decode cX12_readsFrame 174 = .ok (.iload_n 2, 1) := by decide +kernel
theorem dX12_readsFrame_175 : decode cX12_readsFrame 175 = .ok (.iastore, 1) := by decide +kernel
theorem dX12_readsFrame_176 : decode cX12_readsFrame 176 = .ok (.iload_n 2, 1) := by decide +kernel
theorem dX12_readsFrame_177 : decode cX12_readsFrame 177 = .ok (.ifCond .eq 10, 3) := by decide +kernel
theorem dX12_readsFrame_180 : decode cX12_readsFrame 180 = .ok (.iload 5, 2) := by decide +kernel
theorem dX12_readsFrame_182 : decode cX12_readsFrame 182 = .ok (.iload 4, 2) := by decide +kernel
theorem dX12_readsFrame_184 : decode cX12_readsFrame 184 = .ok (.if_icmp .eq 11, 3) := by decide +kernel
theorem dX12_readsFrame_187 : decode cX12_readsFrame 187 = .ok (.aload_n 0, 1) := by decide +kernel
theorem dX12_readsFrame_188 : decode cX12_readsFrame 188 = .ok (.aload_n 0, 1) := by decide +kernel
theorem dX12_readsFrame_189 : decode cX12_readsFrame 189 = .ok (.getfield 72, 3) := by decide +kernel
theorem dX12_readsFrame_192 : decode cX12_readsFrame 192 = .ok (.putfield 127, 3) := by decide +kernel
theorem dX12_readsFrame_195 : decode cX12_readsFrame 195 = .ok (.return_, 1) := by decide +kernel
theorem dX12_frame_0 : decode cX12_frame 0 = .ok (.aload_n 0, 1) := by decide +kernel
theorem dX12_frame_1 : decode cX12_frame 1 = .ok (.getfield 9, 3) := by decide +kernel
theorem dX12_frame_4 : decode cX12_frame 4 = .ok (.iconst 1, 1) := by decide +kernel
theorem dX12_frame_5 : decode cX12_frame 5 = .ok (.iaload, 1) := by decide +kernel
theorem dX12_frame_6 : decode cX12_frame 6 = .ok (.istore_n 1, 1) := by decide +kernel
theorem dX12_frame_7 : decode cX12_frame 7 = .ok (.sipush 342, 3) := by decide +kernel
theorem dX12_frame_10 : decode cX12_frame 10 = .ok (.bipush 25, 2) := by decide +kernel
theorem dX12_frame_12 : decode cX12_frame 12 = .ok (.iload_n 1, 1) := by decide +kernel
theorem dX12_frame_13 : decode cX12_frame 13 = .ok (.iconst 4, 1) := by decide +kernel
theorem dX12_frame_14 : decode cX12_frame 14 = .ok (.invokestatic 140, 3) := by decide +kernel
theorem dX12_frame_17 : decode cX12_frame 17 = .ok (.imul, 1) := by decide +kernel
theorem dX12_frame_18 : decode cX12_frame 18 = .ok (.iadd, 1) := by decide +kernel
theorem dX12_frame_19 : decode cX12_frame 19 = .ok (.istore_n 2, 1) := by decide +kernel
theorem dX12_frame_20 : decode cX12_frame 20 = .ok (.iconst 0, 1) := by decide +kernel
theorem dX12_frame_21 : decode cX12_frame 21 = .ok (.istore_n 3, 1) := by decide +kernel
theorem dX12_frame_22 : decode cX12_frame 22 = .ok (.iload_n 3, 1) := by decide +kernel
theorem dX12_frame_23 : decode cX12_frame 23 = .ok (.bipush 25, 2) := by decide +kernel
theorem dX12_frame_25 : decode cX12_frame 25 = .ok (.if_icmp .ge 23, 3) := by decide +kernel
theorem dX12_frame_28 : decode cX12_frame 28 = .ok (.aload_n 0, 1) := by decide +kernel
theorem dX12_frame_29 : decode cX12_frame 29 = .ok (.getfield 22, 3) := by decide +kernel
theorem dX12_frame_32 : decode cX12_frame 32 = .ok (.iload_n 3, 1) := by decide +kernel
theorem dX12_frame_33 : decode cX12_frame 33 = .ok (.aload_n 0, 1) := by decide +kernel
theorem dX12_frame_34 : decode cX12_frame 34 = .ok (.getfield 9, 3) := by decide +kernel
theorem dX12_frame_37 : decode cX12_frame 37 = .ok (.iload_n 2, 1) := by decide +kernel
theorem dX12_frame_38 : decode cX12_frame 38 = .ok (.iload_n 3, 1) := by decide +kernel
theorem dX12_frame_39 : decode cX12_frame 39 = .ok (.iadd, 1) := by decide +kernel
theorem dX12_frame_40 : decode cX12_frame 40 = .ok (.iaload, 1) := by decide +kernel
theorem dX12_frame_41 : decode cX12_frame 41 = .ok (.iastore, 1) := by decide +kernel
theorem dX12_frame_42 : decode cX12_frame 42 = .ok (.iinc 3 1, 3) := by decide +kernel
theorem dX12_frame_45 : decode cX12_frame 45 = .ok (.goto (-23), 3) := by decide +kernel
theorem dX12_frame_48 : decode cX12_frame 48 = .ok (.aload_n 0, 1) := by decide +kernel
theorem dX12_frame_49 : decode cX12_frame 49 = .ok (.iload_n 2, 1) := by decide +kernel
theorem dX12_frame_50 : decode cX12_frame 50 = .ok (.invokevirtual 145, 3) := by decide +kernel
theorem dX12_frame_53 : decode cX12_frame 53 = .ok (.aload_n 0, 1) := by decide +kernel
theorem dX12_frame_54 : decode cX12_frame 54 = .ok (.iconst 0, 1) := by decide +kernel
theorem dX12_frame_55 : decode cX12_frame 55 = .ok (.putfield 72, 3) := by decide +kernel
theorem dX12_frame_58 : decode cX12_frame 58 = .ok (.aload_n 0, 1) := by decide +kernel
theorem dX12_frame_59 : decode cX12_frame 59 = .ok (.getfield 127, 3) := by decide +kernel
theorem dX12_frame_62 : decode cX12_frame 62 = .ok (.ifCond .ge 20, 3) := by decide +kernel
theorem dX12_frame_65 : decode cX12_frame 65 = .ok (.iload_n 1, 1) := by decide +kernel
theorem dX12_frame_66 : decode cX12_frame 66 = .ok (.iconst 5, 1) := by decide +kernel
theorem dX12_frame_67 : decode cX12_frame 67 = .ok (.if_icmp .ge 15, 3) := by decide +kernel
theorem dX12_frame_70 : decode cX12_frame 70 = .ok (.aload_n 0, 1) := by decide +kernel
theorem dX12_frame_71 : decode cX12_frame 71 = .ok (.getfield 9, 3) := by decide +kernel
theorem dX12_frame_74 : decode cX12_frame 74 = .ok (.iconst 1, 1) := by decide +kernel
theorem dX12_frame_75 : decode cX12_frame 75 = .ok (.dup2, 1) := by decide +kernel
theorem dX12_frame_76 : decode cX12_frame 76 = .ok (.iaload, 1) := by decide +kernel
theorem dX12_frame_77 : decode cX12_frame 77 = .ok (.iconst 1, 1) := by decide +kernel
theorem dX12_frame_78 : decode cX12_frame 78 = .ok (.iadd, 1) := by decide +kernel
theorem dX12_frame_79 : decode cX12_frame 79 = .ok (.iastore, 1) := by decide +kernel
theorem dX12_frame_80 : decode cX12_frame 80 = .ok (.iload_n 1, 1) := by decide +kernel
theorem dX12_frame_81 : decode cX12_frame 81 = .ok (.ireturn, 1) := by decide +kernel
theorem dX12_frame_82 : decode cX12_frame 82 = .ok (.iconst 0, 1) := by decide +kernel
theorem dX12_frame_83 : decode cX12_frame 83 = .ok (.istore_n 3, 1) := by decide +kernel
theorem dX12_frame_84 : decode cX12_frame 84 = .ok (.iload_n 3, 1) := by decide +kernel
theorem dX12_frame_85 : decode cX12_frame 85 = .ok (.bipush 25, 2) := by decide +kernel
theorem dX12_frame_87 : decode cX12_frame 87 = .ok (.if_icmp .ge 23, 3) := by decide +kernel
theorem dX12_frame_90 : decode cX12_frame 90 = .ok (.aload_n 0, 1) := by decide +kernel
theorem dX12_frame_91 : decode cX12_frame 91 = .ok (.getfield 9, 3) := by decide +kernel
theorem dX12_frame_94 : decode cX12_frame 94 = .ok (.iload_n 2, 1) := by decide +kernel
theorem dX12_frame_95 : decode cX12_frame 95 = .ok (.iload_n 3, 1) := by decide +kernel
theorem dX12_frame_96 : decode cX12_frame 96 = .ok (.iadd, 1) := by decide +kernel
theorem dX12_frame_97 : decode cX12_frame 97 = .ok (.aload_n 0, 1) := by decide +kernel
theorem dX12_frame_98 : decode cX12_frame 98 = .ok (.getfield 22, 3) := by decide +kernel
theorem dX12_frame_101 : decode cX12_frame 101 = .ok (.iload_n 3, 1) := by decide +kernel
theorem dX12_frame_102 : decode cX12_frame 102 = .ok (.iaload, 1) := by decide +kernel
theorem dX12_frame_103 : decode cX12_frame 103 = .ok (.iastore, 1) := by decide +kernel
theorem dX12_frame_104 : decode cX12_frame 104 = .ok (.iinc 3 1, 3) := by decide +kernel
theorem dX12_frame_107 : decode cX12_frame 107 = .ok (.goto (-23), 3) := by decide +kernel
theorem dX12_frame_110 : decode cX12_frame 110 = .ok (.aload_n 0, 1) := by decide +kernel
theorem dX12_frame_111 : decode cX12_frame 111 = .ok (.getfield 127, 3) := by decide +kernel
theorem dX12_frame_114 : decode cX12_frame 114 = .ok (.ifCond .lt 13, 3) := by decide +kernel
theorem dX12_frame_117 : decode cX12_frame 117 = .ok (.bipush (-100), 2) := by decide +kernel
theorem dX12_frame_119 : decode cX12_frame 119 = .ok (.aload_n 0, 1) := by decide +kernel
theorem dX12_frame_120 : decode cX12_frame 120 = .ok (.getfield 127, 3) := by decide +kernel
theorem dX12_frame_123 : decode cX12_frame 123 = .ok (.isub, 1) := by decide +kernel
theorem dX12_frame_124 : decode cX12_frame 124 = .ok (.goto 5, 3) := by decide +kernel
theorem dX12_frame_127 : decode cX12_frame 127 = .ok (.bipush (-4), 2) := by decide +kernel
theorem dX12_frame_129 : decode cX12_frame 129 = .ok (.ireturn, 1) := by decide +kernel
theorem dX12_isFrame_0 : decode cX12_isFrame 0 = .ok (.iload_n 1, 1) := by decide +kernel
theorem dX12_isFrame_1 : decode cX12_isFrame 1 = .ok (.iconst 0, 1) := by decide +kernel
theorem dX12_isFrame_2 : decode cX12_isFrame 2 = .ok (.aload_n 0, 1) := by decide +kernel
theorem dX12_isFrame_3 : decode cX12_isFrame 3 = .ok (.getfield 9, 3) := by decide +kernel
theorem dX12_isFrame_6 : decode cX12_isFrame 6 = .ok (.iconst 1, 1) := by decide +kernel
theorem dX12_isFrame_7 : decode cX12_isFrame 7 = .ok (.iaload, 1) := by decide +kernel
theorem dX12_isFrame_8 : decode cX12_isFrame 8 = .ok (.iconst 1, 1) := by decide +kernel
theorem dX12_isFrame_9 : decode cX12_isFrame 9 = .ok (.isub, 1) := by decide +kernel
theorem dX12_isFrame_10 : decode cX12_isFrame 10 = .ok (.invokestatic 64, 3) := by decide +kernel
theorem dX12_isFrame_13 : decode cX12_isFrame 13 = .ok (.ireturn, 1) := by decide +kernel
theorem dX12_able_0 : decode cX12_able 0 = .ok (.iconst 0, 1) := by decide +kernel
theorem dX12_able_1 : decode cX12_able 1 = .ok (.istore_n 3, 1) := by decide +kernel
theorem dX12_able_2 : decode cX12_able 2 = .ok (.iconst 0, 1) := by decide +kernel
theorem dX12_able_3 : decode cX12_able 3 = .ok (.istore 4, 2) := by decide +kernel
theorem dX12_able_5 : decode cX12_able 5 = .ok (.iload 4, 2) := by decide +kernel
theorem dX12_able_7 : decode cX12_able 7 = .ok (.aload_n 0, 1) := by decide +kernel
theorem dX12_able_8 : decode cX12_able 8 = .ok (.getfield 9, 3) := by decide +kernel
theorem dX12_able_11 : decode cX12_able 11 = .ok (.iconst 0, 1) := by decide +kernel
theorem dX12_able_12 : decode cX12_able 12 = .ok (.iaload, 1) := by decide +kernel
theorem dX12_able_13 : decode cX12_able 13 = .ok (.if_icmp .ge 28, 3) := by decide +kernel
theorem dX12_able_16 : decode cX12_able 16 = .ok (.iload_n 3, 1) := by decide +kernel
theorem dX12_able_17 : decode cX12_able 17 = .ok (.aload_n 0, 1) := by decide +kernel
theorem dX12_able_18 : decode cX12_able 18 = .ok (.iload_n 1, 1) := by decide +kernel
theorem dX12_able_19 : decode cX12_able 19 = .ok (.iload_n 2, 1) := by decide +kernel
theorem dX12_able_20 : decode cX12_able 20 = .ok (.iload 4, 2) := by decide +kernel
theorem dX12_able_22 : decode cX12_able 22 = .ok (.invokevirtual 148, 3) := by decide +kernel
theorem dX12_able_25 : decode cX12_able 25 = .ok (.ifCond .eq 7, 3) := by decide +kernel
theorem dX12_able_28 : decode cX12_able 28 = .ok (.iconst 1, 1) := by decide +kernel
theorem dX12_able_29 : decode cX12_able 29 = .ok (.goto 4, 3) := by decide +kernel
theorem dX12_able_32 : decode cX12_able 32 = .ok (.iconst 0, 1) := by decide +kernel
theorem dX12_able_33 : decode cX12_able 33 = .ok (.iadd, 1) := by decide +kernel
theorem dX12_able_34 : decode cX12_able 34 = .ok (.istore_n 3, 1) := by decide +kernel
theorem dX12_able_35 : decode cX12_able 35 = .ok (.iinc 4 1, 3) := by decide +kernel
theorem dX12_able_38 : decode cX12_able 38 = .ok (.goto (-33), 3) := by decide +kernel
theorem dX12_able_41 : decode cX12_able 41 = .ok (.iload_n 3, 1) := by decide +kernel
theorem dX12_able_42 : decode cX12_able 42 = .ok (.ireturn, 1) := by decide +kernel
theorem dX12_hole_0 : decode cX12_hole 0 = .ok (.aload_n 0, 1) := by decide +kernel
theorem dX12_hole_1 : decode cX12_hole 1 = .ok (.iload_n 1, 1) := by decide +kernel
theorem dX12_hole_2 : decode cX12_hole 2 = .ok (.invokevirtual 151, 3) := by decide +kernel
theorem dX12_hole_5 : decode cX12_hole 5 = .ok (.ifCond .eq 12, 3) := by decide +kernel
theorem dX12_hole_8 : decode cX12_hole 8 = .ok (.iload_n 3, 1) := by decide +kernel
theorem dX12_hole_9 : decode cX12_hole 9 = .ok (.iconst 0, 1) := by decide +kernel
theorem dX12_hole_10 : decode cX12_hole 10 = .ok (.iconst 4, 1) := by decide +kernel
theorem dX12_hole_11 : decode cX12_hole 11 = .ok (.invokestatic 64, 3) := by decide +kernel
theorem dX12_hole_14 : decode cX12_hole 14 = .ok (.ifCond .ne 6, 3) := by decide +kernel
theorem dX12_hole_17 : decode cX12_hole 17 = .ok (.bipush (-2), 2) := by decide +kernel
theorem dX12_hole_19 : decode cX12_hole 19 = .ok (.ireturn, 1) := by decide +kernel
theorem dX12_hole_20 : decode cX12_hole 20 = .ok (.iload_n 2, 1) := by decide +kernel
theorem dX12_hole_21 : decode cX12_hole 21 = .ok (.iconst 0, 1) := by decide +kernel
theorem dX12_hole_22 : decode cX12_hole 22 = .ok (.aload_n 0, 1) := by decide +kernel
theorem dX12_hole_23 : decode cX12_hole 23 = .ok (.iload_n 1, 1) := by decide +kernel
theorem dX12_hole_24 : decode cX12_hole 24 = .ok (.invokevirtual 154, 3) := by decide +kernel
theorem dX12_hole_27 : decode cX12_hole 27 = .ok (.iconst 1, 1) := by decide +kernel
theorem dX12_hole_28 : decode cX12_hole 28 = .ok (.isub, 1) := by decide +kernel
theorem dX12_hole_29 : decode cX12_hole 29 = .ok (.invokestatic 64, 3) := by decide +kernel
theorem dX12_hole_32 : decode cX12_hole 32 = .ok (.ifCond .ne 6, 3) := by decide +kernel
theorem dX12_hole_35 : decode cX12_hole 35 = .ok (.bipush (-12), 2) := by decide +kernel
theorem dX12_hole_37 : decode cX12_hole 37 = .ok (.ireturn, 1) := by decide +kernel
theorem dX12_hole_38 : decode cX12_hole 38 = .ok (.iload_n 3, 1) := by decide +kernel
theorem dX12_hole_39 : decode cX12_hole 39 = .ok (.iconst 4, 1) := by decide +kernel
theorem dX12_hole_40 : decode cX12_hole 40 = .ok (.if_icmp .ne 10, 3) := by decide +kernel
theorem dX12_hole_43 : decode cX12_hole 43 = .ok (.aload_n 0, 1) := by decide +kernel
theorem dX12_hole_44 : decode cX12_hole 44 = .ok (.iload_n 1, 1) := by decide +kernel
theorem dX12_hole_45 : decode cX12_hole 45 = .ok (.iload_n 2, 1) := by decide +kernel
theorem dX12_hole_46 : decode cX12_hole 46 = .ok (.invokevirtual 157, 3) := by decide +kernel
theorem dX12_hole_49 : decode cX12_hole 49 = .ok (.ireturn, 1) := by decide +kernel
theorem dX12_hole_50 : decode cX12_hole 50 = .ok (.aload_n 0, 1) := by decide +kernel
theorem dX12_hole_51 : decode cX12_hole 51 = .ok (.iload_n 1, 1) := by decide +kernel
theorem dX12_hole_52 : decode cX12_hole 52 = .ok (.iload_n 2, 1) := by decide +kernel
theorem dX12_hole_53 : decode cX12_hole 53 = .ok (.iconst 0, 1) := by decide +kernel
theorem dX12_hole_54 : decode cX12_hole 54 = .ok (.invokevirtual 115, 3) := by decide +kernel
theorem dX12_hole_57 : decode cX12_hole 57 = .ok (.istore 4, 2) := by decide +kernel
theorem dX12_hole_59 : decode cX12_hole 59 = .ok (.iload_n 3, 1) := by decide +kernel
theorem dX12_hole_60 : decode cX12_hole 60 = .ok (.ifCond .le 13, 3) := by decide +kernel
theorem dX12_hole_63 : decode cX12_hole 63 = .ok (.aload_n 0, 1) := by decide +kernel
theorem dX12_hole_64 : decode cX12_hole 64 = .ok (.iload_n 1, 1) := by decide +kernel
theorem dX12_hole_65 : decode cX12_hole 65 = .ok (.iload_n 2, 1) := by decide +kernel
theorem dX12_hole_66 : decode cX12_hole 66 = .ok (.iload_n 3, 1) := by decide +kernel
theorem dX12_hole_67 : decode cX12_hole 67 = .ok (.invokevirtual 115, 3) := by decide +kernel
theorem dX12_hole_70 : decode cX12_hole 70 = .ok (.goto 37, 3) := by decide +kernel
theorem dX12_hole_73 : decode cX12_hole 73 = .ok (.iload 4, 2) := by decide +kernel
theorem dX12_hole_75 : decode cX12_hole 75 = .ok (.bipush 110, 2) := by decide +kernel
theorem dX12_hole_77 : decode cX12_hole 77 = .ok (.if_icmp .ne 7, 3) := by decide +kernel
theorem dX12_hole_80 : decode cX12_hole 80 = .ok (.iconst 0, 1) := by decide +kernel
theorem dX12_hole_81 : decode cX12_hole 81 = .ok (.goto 26, 3) := by decide +kernel
theorem dX12_hole_84 : decode cX12_hole 84 = .ok (.iload 4, 2) := by decide +kernel
theorem dX12_hole_86 : decode cX12_hole 86 = .ok (.bipush 118, 2) := by decide +kernel
theorem dX12_hole_88 : decode cX12_hole 88 = .ok (.if_icmp .ne 7, 3) := by decide +kernel
theorem dX12_hole_91 : decode cX12_hole 91 = .ok (.iconst 1, 1) := by decide +kernel
theorem dX12_hole_92 : decode cX12_hole 92 = .ok (.goto 15, 3) := by decide +kernel
theorem dX12_hole_95 : decode cX12_hole 95 = .ok (.iload 4, 2) := by decide +kernel
theorem dX12_hole_97 : decode cX12_hole 97 = .ok (.bipush 102, 2) := by decide +kernel
theorem dX12_hole_99 : decode cX12_hole 99 = .ok (.if_icmp .ne 7, 3) := by decide +kernel
theorem dX12_hole_102 : decode cX12_hole 102 = .ok (.iconst 2, 1) := by decide +kernel
theorem dX12_hole_103 : decode cX12_hole 103 = .ok (.goto 4, 3) := by decide +kernel
theorem dX12_hole_106 : decode cX12_hole 106 = .ok (.iconst 3, 1) := by decide +kernel
theorem dX12_hole_107 : decode cX12_hole 107 = .ok (.ireturn, 1) := by decide +kernel
theorem dX12_holeOf_0 : decode cX12_holeOf 0 = .ok (.iconst 0, 1) := by decide +kernel
theorem dX12_holeOf_1 : decode cX12_holeOf 1 = .ok (.istore_n 3, 1) := by decide +kernel
theorem dX12_holeOf_2 : decode cX12_holeOf 2 = .ok (.iload_n 3, 1) := by decide +kernel
theorem dX12_holeOf_3 : decode cX12_holeOf 3 = .ok (.aload_n 0, 1) := by decide +kernel
theorem dX12_holeOf_4 : decode cX12_holeOf 4 = .ok (.iload_n 1, 1) := by decide +kernel
theorem dX12_holeOf_5 : decode cX12_holeOf 5 = .ok (.invokevirtual 154, 3) := by decide +kernel
theorem dX12_holeOf_8 : decode cX12_holeOf 8 = .ok (.if_icmp .ge 34, 3) := by decide +kernel
theorem dX12_holeOf_11 : decode cX12_holeOf 11 = .ok (.aload_n 0, 1) := by decide +kernel
theorem dX12_holeOf_12 : decode cX12_holeOf 12 = .ok (.iload_n 1, 1) := by decide +kernel
theorem dX12_holeOf_13 : decode cX12_holeOf 13 = .ok (.iload_n 3, 1) := by decide +kernel
theorem dX12_holeOf_14 : decode cX12_holeOf 14 = .ok (.iconst 0, 1) := by decide +kernel
theorem dX12_holeOf_15 : decode cX12_holeOf 15 = .ok (.invokevirtual 115, 3) := by decide +kernel
theorem dX12_holeOf_18 : decode cX12_holeOf 18 = .ok (.bipush 110, 2) := by decide +kernel
theorem dX12_holeOf_20 : decode cX12_holeOf 20 = .ok (.if_icmp .ne 16, 3) := by decide +kernel
theorem dX12_holeOf_23 : decode cX12_holeOf 23 = .ok (.aload_n 0, 1) := by decide +kernel
theorem dX12_holeOf_24 : decode cX12_holeOf 24 = .ok (.iload_n 1, 1) := by decide +kernel
theorem dX12_holeOf_25 : decode cX12_holeOf 25 = .ok (.iload_n 3, 1) := by decide +kernel
theorem dX12_holeOf_26 : decode cX12_holeOf 26 = .ok (.iconst 1, 1) := by decide +kernel
theorem dX12_holeOf_27 : decode cX12_holeOf 27 = .ok (.invokevirtual 115, 3) := by decide +kernel
theorem dX12_holeOf_30 : decode cX12_holeOf 30 = .ok (.iload_n 2, 1) := by decide +kernel
theorem dX12_holeOf_31 : decode cX12_holeOf 31 = .ok (.if_icmp .ne 5, 3) := by decide +kernel
theorem dX12_holeOf_34 : decode cX12_holeOf 34 = .ok (.iload_n 3, 1) := by decide +kernel
theorem dX12_holeOf_35 : decode cX12_holeOf 35 = .ok (.ireturn, 1) := by decide +kernel
theorem dX12_holeOf_36 : decode cX12_holeOf 36 = .ok (.iinc 3 1, 3) := by decide +kernel
theorem dX12_holeOf_39 : decode cX12_holeOf 39 = .ok (.goto (-37), 3) := by decide +kernel
theorem dX12_holeOf_42 : decode cX12_holeOf 42 = .ok (.iconst (-1), 1) := by decide +kernel
theorem dX12_holeOf_43 : decode cX12_holeOf 43 = .ok (.ireturn, 1) := by decide +kernel
theorem dX12_isFilled_0 : decode cX12_isFilled 0 = .ok (.iconst 0, 1) := by decide +kernel
theorem dX12_isFilled_1 : decode cX12_isFilled 1 = .ok (.istore 4, 2) := by decide +kernel
theorem dX12_isFilled_3 : decode cX12_isFilled 3 = .ok (.iload 4, 2) := by decide +kernel
theorem dX12_isFilled_5 : decode cX12_isFilled 5 = .ok (.aload_n 0, 1) := by decide +kernel
theorem dX12_isFilled_6 : decode cX12_isFilled 6 = .ok (.iload_n 1, 1) := by decide +kernel
theorem dX12_isFilled_7 : decode cX12_isFilled 7 = .ok (.invokevirtual 154, 3) := by decide +kernel
theorem dX12_isFilled_10 : decode cX12_isFilled 10 = .ok (.if_icmp .ge 20, 3) := by decide +kernel
theorem dX12_isFilled_13 : decode cX12_isFilled 13 = .ok (.aload_n 3, 1) := by decide +kernel
theorem dX12_isFilled_14 : decode cX12_isFilled 14 = .ok (.iload_n 2, 1) := by decide +kernel
theorem dX12_isFilled_15 : decode cX12_isFilled 15 = .ok (.iload 4, 2) := by decide +kernel
theorem dX12_isFilled_17 : decode cX12_isFilled 17 = .ok (.iadd, 1) := by decide +kernel
theorem dX12_isFilled_18 : decode cX12_isFilled 18 = .ok (.iaload, 1) := by decide +kernel
theorem dX12_isFilled_19 : decode cX12_isFilled 19 = .ok (.ifCond .ge 5, 3) := by decide +kernel
theorem dX12_isFilled_22 : decode cX12_isFilled 22 = .ok (.iconst 0, 1) := by decide +kernel
theorem dX12_isFilled_23 : decode cX12_isFilled 23 = .ok (.ireturn, 1) := by decide +kernel
theorem dX12_isFilled_24 : decode cX12_isFilled 24 = .ok (.iinc 4 1, 3) := by decide +kernel
theorem dX12_isFilled_27 : decode cX12_isFilled 27 = .ok (.goto (-24), 3) := by decide +kernel
theorem dX12_isFilled_30 : decode cX12_isFilled 30 = .ok (.iconst 1, 1) := by decide +kernel
theorem dX12_isFilled_31 : decode cX12_isFilled 31 = .ok (.ireturn, 1) := by decide +kernel
theorem dX12_formsAt_0 : decode cX12_formsAt 0 = .ok (.aload 4, 2) := by decide +kernel
theorem dX12_formsAt_2 : decode cX12_formsAt 2 = .ok (.iload_n 3, 1) := by decide +kernel
theorem dX12_formsAt_3 : decode cX12_formsAt 3 = .ok (.iload_n 2, 1) := by decide +kernel
theorem dX12_formsAt_4 : decode cX12_formsAt 4 = .ok (.iadd, 1) := by decide +kernel
theorem dX12_formsAt_5 : decode cX12_formsAt 5 = .ok (.iaload, 1) := by decide +kernel
theorem dX12_formsAt_6 : decode cX12_formsAt 6 = .ok (.istore 7, 2) := by decide +kernel
theorem dX12_formsAt_8 : decode cX12_formsAt 8 = .ok (.aload_n 0, 1) := by decide +kernel
theorem dX12_formsAt_9 : decode cX12_formsAt 9 = .ok (.iload_n 1, 1) := by decide +kernel
theorem dX12_formsAt_10 : decode cX12_formsAt 10 = .ok (.iload_n 2, 1) := by decide +kernel
theorem dX12_formsAt_11 : decode cX12_formsAt 11 = .ok (.iconst 1, 1) := by decide +kernel
theorem dX12_formsAt_12 : decode cX12_formsAt 12 = .ok (.invokevirtual 115, 3) := by decide +kernel
theorem dX12_formsAt_15 : decode cX12_formsAt 15 = .ok (.istore 8, 2) := by decide +kernel
theorem dX12_formsAt_17 : decode cX12_formsAt 17 = .ok (.iload 8, 2) := by decide +kernel
theorem dX12_formsAt_19 : decode cX12_formsAt 19 = .ok (.ifCond .ge 14, 3) := by decide +kernel
theorem dX12_formsAt_22 : decode cX12_formsAt 22 = .ok (.aload_n 0, 1) := by decide +kernel
theorem dX12_formsAt_23 : decode cX12_formsAt 23 = .ok (.iload 7, 2) := by decide +kernel
theorem dX12_formsAt_25 : decode cX12_formsAt 25 = .ok (.iconst 0, 1) := by decide +kernel
theorem dX12_formsAt_26 : decode cX12_formsAt 26 = .ok (.iconst 0, 1) := by decide +kernel
theorem dX12_formsAt_27 : decode cX12_formsAt 27 = .ok (.iconst 0, 1) := by decide +kernel
theorem dX12_formsAt_28 : decode cX12_formsAt 28 = .ok (.iconst 0, 1) := by decide +kernel
theorem dX12_formsAt_29 : decode cX12_formsAt 29 = .ok (.invokevirtual 111, 3) := by decide +kernel
theorem dX12_formsAt_32 : decode cX12_formsAt 32 = .ok (.return_, 1) := by decide +kernel
theorem dX12_formsAt_33 : decode cX12_formsAt 33 = .ok (.aload 4, 2) := by decide +kernel
theorem dX12_formsAt_35 : decode cX12_formsAt 35 = .ok (.iload_n 3, 1) := by decide +kernel
theorem dX12_formsAt_36 : decode cX12_formsAt 36 = .ok (.aload_n 0, 1) := by decide +kernel
theorem dX12_formsAt_37 : decode cX12_formsAt 37 = .ok (.iload_n 1, 1) := by decide +kernel
theorem dX12_formsAt_38 : decode cX12_formsAt 38 = .ok (.iload 8, 2) := by decide +kernel
theorem dX12_formsAt_40 : decode cX12_formsAt 40 = .ok (.invokevirtual 160, 3) := by decide +kernel
theorem dX12_formsAt_43 : decode cX12_formsAt 43 = .ok (.iadd, 1) := by decide +kernel
theorem dX12_formsAt_44 : decode cX12_formsAt 44 = .ok (.iaload, 1) := by decide +kernel
theorem dX12_formsAt_45 : decode cX12_formsAt 45 = .ok (.istore 9, 2) := by decide +kernel
theorem dX12_formsAt_47 : decode cX12_formsAt 47 = .ok (.aload_n 0, 1) := by decide +kernel
theorem dX12_formsAt_48 : decode cX12_formsAt 48 = .ok (.iload 7, 2) := by decide +kernel
theorem dX12_formsAt_50 : decode cX12_formsAt 50 = .ok (.iconst 0, 1) := by decide +kernel
theorem dX12_formsAt_51 : decode cX12_formsAt 51 = .ok (.aload_n 0, 1) := by decide +kernel
theorem dX12_formsAt_52 : decode cX12_formsAt 52 = .ok (.iload_n 1, 1) := by decide +kernel
theorem dX12_formsAt_53 : decode cX12_formsAt 53 = .ok (.iload_n 2, 1) := by decide +kernel
theorem dX12_formsAt_54 : decode cX12_formsAt 54 = .ok (.iconst 2, 1) := by decide +kernel
theorem dX12_formsAt_55 : decode cX12_formsAt 55 = .ok (.invokevirtual 115, 3) := by decide +kernel
theorem dX12_formsAt_58 : decode cX12_formsAt 58 = .ok (.invokestatic 163, 3) := by decide +kernel
theorem dX12_formsAt_61 : decode cX12_formsAt 61 = .ok (.aload_n 0, 1) := by decide +kernel
theorem dX12_formsAt_62 : decode cX12_formsAt 62 = .ok (.iload 9, 2) := by decide +kernel
theorem dX12_formsAt_64 : decode cX12_formsAt 64 = .ok (.invokevirtual 101, 3) := by decide +kernel
theorem dX12_formsAt_67 : decode cX12_formsAt 67 = .ok (.iconst 3, 1) := by decide +kernel
theorem dX12_formsAt_68 : decode cX12_formsAt 68 = .ok (.if_icmp .ne 7, 3) := by decide +kernel
theorem dX12_formsAt_71 : decode cX12_formsAt 71 = .ok (.iconst 0, 1) := by decide +kernel
theorem dX12_formsAt_72 : decode cX12_formsAt 72 = .ok (.goto 10, 3) := by decide +kernel
theorem dX12_formsAt_75 : decode cX12_formsAt 75 = .ok (.iload 5, 2) := by decide +kernel
theorem dX12_formsAt_77 : decode cX12_formsAt 77 = .ok (.iload 8, 2) := by decide +kernel
theorem dX12_formsAt_79 : decode cX12_formsAt 79 = .ok (.ishr, 1) := by decide +kernel
theorem dX12_formsAt_80 : decode cX12_formsAt 80 = .ok (.iconst 1, 1) := by decide +kernel
theorem dX12_formsAt_81 : decode cX12_formsAt 81 = .ok (.iand, 1) := by decide +kernel
theorem dX12_formsAt_82 : decode cX12_formsAt 82 = .ok (.aload_n 0, 1) := by decide +kernel
theorem dX12_formsAt_83 : decode cX12_formsAt 83 = .ok (.iload 9, 2) := by decide +kernel
theorem dX12_formsAt_85 : decode cX12_formsAt 85 = .ok (.invokevirtual 108, 3) := by decide +kernel
theorem dX12_formsAt_88 : decode cX12_formsAt 88 = .ok (.iload 6, 2) := by decide +kernel
theorem dX12_formsAt_90 : decode cX12_formsAt 90 = .ok (.invokevirtual 111, 3) := by decide +kernel
theorem dX12_formsAt_93 : decode cX12_formsAt 93 = .ok (.return_, 1) := by decide +kernel
theorem dX12_says_0 : decode cX12_says 0 = .ok (.aload_n 0, 1) := by decide +kernel
theorem dX12_says_1 : decode cX12_says 1 = .ok (.iconst 0, 1) := by decide +kernel
theorem dX12_says_2 : decode cX12_says 2 = .ok (.putfield 166, 3) := by decide +kernel
theorem dX12_says_5 : decode cX12_says 5 = .ok (.iload_n 1, 1) := by decide +kernel
theorem dX12_says_6 : decode cX12_says 6 = .ok (.ifCond .lt 13, 3) := by decide +kernel
theorem dX12_says_9 : decode cX12_says 9 = .ok (.aload_n 0, 1) := by decide +kernel
theorem dX12_says_10 : decode cX12_says 10 = .ok (.iload_n 1, 1) := by decide +kernel
theorem dX12_says_11 : decode cX12_says 11 = .ok (.iload_n 2, 1) := by decide +kernel
theorem dX12_says_12 : decode cX12_says 12 = .ok (.aload_n 3, 1) := by decide +kernel
theorem dX12_says_13 : decode cX12_says 13 = .ok (.invokevirtual 169, 3) := by decide +kernel
theorem dX12_says_16 : decode cX12_says 16 = .ok (.ifCond .ne 4, 3) := by decide +kernel
theorem dX12_says_19 : decode cX12_says 19 = .ok (.return_, 1) := by decide +kernel
theorem dX12_says_20 : decode cX12_says 20 = .ok (.iconst 0, 1) := by decide +kernel
theorem dX12_says_21 : decode cX12_says 21 = .ok (.istore 6, 2) := by decide +kernel
theorem dX12_says_23 : decode cX12_says 23 = .ok (.iload 6, 2) := by decide +kernel
theorem dX12_says_25 : decode cX12_says 25 = .ok (.aload_n 0, 1) := by decide +kernel
theorem dX12_says_26 : decode cX12_says 26 = .ok (.iload_n 1, 1) := by decide +kernel
theorem dX12_says_27 : decode cX12_says 27 = .ok (.invokevirtual 154, 3) := by decide +kernel
theorem dX12_says_30 : decode cX12_says 30 = .ok (.if_icmp .ge 98, 3) := by decide +kernel
theorem dX12_says_33 : decode cX12_says 33 = .ok (.iload 6, 2) := by decide +kernel
theorem dX12_says_35 : decode cX12_says 35 = .ok (.ifCond .le 24, 3) := by decide +kernel
theorem dX12_says_38 : decode cX12_says 38 = .ok (.aload_n 0, 1) := by decide +kernel
theorem dX12_says_39 : decode cX12_says 39 = .ok (.getfield 25, 3) := by decide +kernel
theorem dX12_says_42 : decode cX12_says 42 = .ok (.aload_n 0, 1) := by decide +kernel
theorem dX12_says_43 : decode cX12_says 43 = .ok (.getfield 166, 3) := by decide +kernel
theorem dX12_says_46 : decode cX12_says 46 = .ok (.bipush 32, 2) := by decide +kernel
theorem dX12_says_48 : decode cX12_says 48 = .ok (.iastore, 1) := by decide +kernel
theorem dX12_says_49 : decode cX12_says 49 = .ok (.aload_n 0, 1) := by decide +kernel
theorem dX12_says_50 : decode cX12_says 50 = .ok (.dup, 1) := by decide +kernel
theorem dX12_says_51 : decode cX12_says 51 = .ok (.getfield 166, 3) := by decide +kernel
theorem dX12_says_54 : decode cX12_says 54 = .ok (.iconst 1, 1) := by decide +kernel
theorem dX12_says_55 : decode cX12_says 55 = .ok (.iadd, 1) := by decide +kernel
theorem dX12_says_56 : decode cX12_says 56 = .ok (.putfield 166, 3) := by decide +kernel
theorem dX12_says_59 : decode cX12_says 59 = .ok (.aload_n 0, 1) := by decide +kernel
theorem dX12_says_60 : decode cX12_says 60 = .ok (.iload_n 1, 1) := by decide +kernel
theorem dX12_says_61 : decode cX12_says 61 = .ok (.iload 6, 2) := by decide +kernel
theorem dX12_says_63 : decode cX12_says 63 = .ok (.iload_n 2, 1) := by decide +kernel
theorem dX12_says_64 : decode cX12_says 64 = .ok (.aload_n 3, 1) := by decide +kernel
theorem dX12_says_65 : decode cX12_says 65 = .ok (.iload 4, 2) := by decide +kernel
theorem dX12_says_67 : decode cX12_says 67 = .ok (.iload 5, 2) := by decide +kernel
theorem dX12_says_69 : decode cX12_says 69 = .ok (.invokevirtual 173, 3) := by decide +kernel
theorem dX12_says_72 : decode cX12_says 72 = .ok (.iconst 0, 1) := by decide +kernel
theorem dX12_says_73 : decode cX12_says 73 = .ok (.istore 7, 2) := by decide +kernel
theorem dX12_says_75 : decode cX12_says 75 = .ok (.iload 7, 2) := by decide +kernel
theorem dX12_says_77 : decode cX12_says 77 = .ok (.aload_n 0, 1) := by decide +kernel
theorem dX12_says_78 : decode cX12_says 78 = .ok (.getfield 84, 3) := by decide +kernel
theorem dX12_says_81 : decode cX12_says 81 = .ok (.if_icmp .ge 28, 3) := by decide +kernel
theorem dX12_says_84 : decode cX12_says 84 = .ok (.aload_n 0, 1) := by decide +kernel
theorem dX12_says_85 : decode cX12_says 85 = .ok (.getfield 25, 3) := by decide +kernel
theorem dX12_says_88 : decode cX12_says 88 = .ok (.aload_n 0, 1) := by decide +kernel
theorem dX12_says_89 : decode cX12_says 89 = .ok (.getfield 166, 3) := by decide +kernel
theorem dX12_says_92 : decode cX12_says 92 = .ok (.iload 7, 2) := by decide +kernel
theorem dX12_says_94 : decode cX12_says 94 = .ok (.iadd, 1) := by decide +kernel
theorem dX12_says_95 : decode cX12_says 95 = .ok (.aload_n 0, 1) := by decide +kernel
theorem dX12_says_96 : decode cX12_says 96 = .ok (.getfield 19, 3) := by decide +kernel
theorem dX12_says_99 : decode cX12_says 99 = .ok (.iload 7, 2) := by decide +kernel
theorem dX12_says_101 : decode cX12_says 101 = .ok (.iaload, 1) := by decide +kernel
theorem dX12_says_102 : decode cX12_says 102 = .ok (.iastore, 1) := by decide +kernel
theorem dX12_says_103 : decode cX12_says 103 = .ok (.iinc 7 1, 3) := by decide +kernel
theorem dX12_says_106 : decode cX12_says 106 = .ok (.goto (-31), 3) := by decide +kernel
theorem dX12_says_109 : decode cX12_says 109 = .ok (.aload_n 0, 1) := by decide +kernel
theorem dX12_says_110 : decode cX12_says 110 = .ok (.dup, 1) := by decide +kernel
theorem dX12_says_111 : decode cX12_says 111 = .ok (.getfield 166, 3) := by decide +kernel
theorem dX12_says_114 : decode cX12_says 114 = .ok (.aload_n 0, 1) := by decide +kernel
theorem dX12_says_115 : decode cX12_says 115 = .ok (.getfield 84, 3) := by decide +kernel
theorem dX12_says_118 : decode cX12_says 118 = .ok (.iadd, 1) := by decide +kernel
theorem dX12_says_119 : decode cX12_says 119 = .ok (.putfield 166, 3) := by decide +kernel
theorem dX12_says_122 : decode cX12_says 122 = .ok (.iinc 6 1, 3) := by decide +kernel
theorem dX12_says_125 : decode cX12_says 125 = .ok (.goto (-102), 3) := by decide +kernel
theorem dX12_says_128 : decode cX12_says 128 = .ok (.return_, 1) := by decide +kernel
theorem dX12_numbers_0 : decode cX12_numbers 0 = .ok (.aload_n 0, 1) := by decide +kernel
theorem dX12_numbers_1 : decode cX12_numbers 1 = .ok (.getfield 9, 3) := by decide +kernel
theorem dX12_numbers_4 : decode cX12_numbers 4 = .ok (.iconst 4, 1) := by decide +kernel
theorem dX12_numbers_5 : decode cX12_numbers 5 = .ok (.iaload, 1) := by decide +kernel
theorem dX12_numbers_6 : decode cX12_numbers 6 = .ok (.aload_n 0, 1) := by decide +kernel
theorem dX12_numbers_7 : decode cX12_numbers 7 = .ok (.getfield 9, 3) := by decide +kernel
theorem dX12_numbers_10 : decode cX12_numbers 10 = .ok (.iconst 5, 1) := by decide +kernel
theorem dX12_numbers_11 : decode cX12_numbers 11 = .ok (.iaload, 1) := by decide +kernel
theorem dX12_numbers_12 : decode cX12_numbers 12 = .ok (.iconst 1, 1) := by decide +kernel
theorem dX12_numbers_13 : decode cX12_numbers 13 = .ok (.ishl, 1) := by decide +kernel
theorem dX12_numbers_14 : decode cX12_numbers 14 = .ok (.ior, 1) := by decide +kernel
theorem dX12_numbers_15 : decode cX12_numbers 15 = .ok (.aload_n 0, 1) := by decide +kernel
end
section
theorem dX12_numbers_16 : decode cX12_numbers 16 = .ok (.getfield 9, 3) := by decide +kernel
theorem dX12_numbers_19 : decode cX12_numbers 19 = .ok (.bipush 6, 2) := by decide +kernel
theorem dX12_numbers_21 : decode cX12_numbers 21 = .ok (.iaload, 1) := by decide +kernel
theorem dX12_numbers_22 : decode cX12_numbers 22 = .ok (.iconst 2, 1) := by decide +kernel
theorem dX12_numbers_23 : decode cX12_numbers 23 = .ok (.ishl, 1) := by decide +kernel
theorem dX12_numbers_24 : decode cX12_numbers 24 = .ok (.ior, 1) := by decide +kernel
theorem dX12_numbers_25 : decode cX12_numbers 25 = .ok (.ireturn, 1) := by decide +kernel
theorem dX12_saysDesk_0 : decode cX12_saysDesk 0 = .ok (.aload_n 0, 1) := by decide +kernel
theorem dX12_saysDesk_1 : decode cX12_saysDesk 1 = .ok (.aload_n 0, 1) := by decide +kernel
theorem dX12_saysDesk_2 : decode cX12_saysDesk 2 = .ok (.getfield 9, 3) := by decide +kernel
theorem dX12_saysDesk_5 : decode cX12_saysDesk 5 = .ok (.iconst 2, 1) := by decide +kernel
theorem dX12_saysDesk_6 : decode cX12_saysDesk 6 = .ok (.iaload, 1) := by decide +kernel
theorem dX12_saysDesk_7 : decode cX12_saysDesk 7 = .ok (.bipush 7, 2) := by decide +kernel
theorem dX12_saysDesk_9 : decode cX12_saysDesk 9 = .ok (.aload_n 0, 1) := by decide +kernel
theorem dX12_saysDesk_10 : decode cX12_saysDesk 10 = .ok (.getfield 9, 3) := by decide +kernel
theorem dX12_saysDesk_13 : decode cX12_saysDesk 13 = .ok (.iload_n 1, 1) := by decide +kernel
theorem dX12_saysDesk_14 : decode cX12_saysDesk 14 = .ok (.iload_n 2, 1) := by decide +kernel
theorem dX12_saysDesk_15 : decode cX12_saysDesk 15 = .ok (.invokevirtual 177, 3) := by decide +kernel
theorem dX12_saysDesk_18 : decode cX12_saysDesk 18 = .ok (.return_, 1) := by decide +kernel
theorem dX12_saysDesk__0 : decode cX12_saysDesk_ 0 = .ok (.aload_n 0, 1) := by decide +kernel
theorem dX12_saysDesk__1 : decode cX12_saysDesk_ 1 = .ok (.aload_n 0, 1) := by decide +kernel
theorem dX12_saysDesk__2 : decode cX12_saysDesk_ 2 = .ok (.invokevirtual 181, 3) := by decide +kernel
theorem dX12_saysDesk__5 : decode cX12_saysDesk_ 5 = .ok (.aload_n 0, 1) := by decide +kernel
theorem dX12_saysDesk__6 : decode cX12_saysDesk_ 6 = .ok (.getfield 9, 3) := by decide +kernel
theorem dX12_saysDesk__9 : decode cX12_saysDesk_ 9 = .ok (.iconst 3, 1) := by decide +kernel
theorem dX12_saysDesk__10 : decode cX12_saysDesk_ 10 = .ok (.iaload, 1) := by decide +kernel
theorem dX12_saysDesk__11 : decode cX12_saysDesk_ 11 = .ok (.invokevirtual 185, 3) := by decide +kernel
theorem dX12_saysDesk__14 : decode cX12_saysDesk_ 14 = .ok (.return_, 1) := by decide +kernel
theorem dX12_desk_0 : decode cX12_desk 0 = .ok (.aload_n 0, 1) := by decide +kernel
theorem dX12_desk_1 : decode cX12_desk 1 = .ok (.iload_n 1, 1) := by decide +kernel
theorem dX12_desk_2 : decode cX12_desk 2 = .ok (.invokevirtual 151, 3) := by decide +kernel
theorem dX12_desk_5 : decode cX12_desk 5 = .ok (.ifCond .eq 12, 3) := by decide +kernel
theorem dX12_desk_8 : decode cX12_desk 8 = .ok (.iload_n 2, 1) := by decide +kernel
theorem dX12_desk_9 : decode cX12_desk 9 = .ok (.iconst 0, 1) := by decide +kernel
theorem dX12_desk_10 : decode cX12_desk 10 = .ok (.iconst 3, 1) := by decide +kernel
theorem dX12_desk_11 : decode cX12_desk 11 = .ok (.invokestatic 64, 3) := by decide +kernel
theorem dX12_desk_14 : decode cX12_desk 14 = .ok (.ifCond .ne 6, 3) := by decide +kernel
theorem dX12_desk_17 : decode cX12_desk 17 = .ok (.bipush (-2), 2) := by decide +kernel
theorem dX12_desk_19 : decode cX12_desk 19 = .ok (.ireturn, 1) := by decide +kernel
theorem dX12_desk_20 : decode cX12_desk 20 = .ok (.aload_n 0, 1) := by decide +kernel
theorem dX12_desk_21 : decode cX12_desk 21 = .ok (.getfield 9, 3) := by decide +kernel
theorem dX12_desk_24 : decode cX12_desk 24 = .ok (.iconst 2, 1) := by decide +kernel
theorem dX12_desk_25 : decode cX12_desk 25 = .ok (.iload_n 1, 1) := by decide +kernel
theorem dX12_desk_26 : decode cX12_desk 26 = .ok (.iastore, 1) := by decide +kernel
theorem dX12_desk_27 : decode cX12_desk 27 = .ok (.aload_n 0, 1) := by decide +kernel
theorem dX12_desk_28 : decode cX12_desk 28 = .ok (.getfield 9, 3) := by decide +kernel
theorem dX12_desk_31 : decode cX12_desk 31 = .ok (.iconst 3, 1) := by decide +kernel
theorem dX12_desk_32 : decode cX12_desk 32 = .ok (.iload_n 2, 1) := by decide +kernel
theorem dX12_desk_33 : decode cX12_desk 33 = .ok (.iastore, 1) := by decide +kernel
theorem dX12_desk_34 : decode cX12_desk 34 = .ok (.iconst 0, 1) := by decide +kernel
theorem dX12_desk_35 : decode cX12_desk 35 = .ok (.istore_n 3, 1) := by decide +kernel
theorem dX12_desk_36 : decode cX12_desk 36 = .ok (.iload_n 3, 1) := by decide +kernel
theorem dX12_desk_37 : decode cX12_desk 37 = .ok (.iconst 3, 1) := by decide +kernel
theorem dX12_desk_38 : decode cX12_desk 38 = .ok (.if_icmp .ge 18, 3) := by decide +kernel
theorem dX12_desk_41 : decode cX12_desk 41 = .ok (.aload_n 0, 1) := by decide +kernel
theorem dX12_desk_42 : decode cX12_desk 42 = .ok (.getfield 9, 3) := by decide +kernel
theorem dX12_desk_45 : decode cX12_desk 45 = .ok (.iconst 4, 1) := by decide +kernel
theorem dX12_desk_46 : decode cX12_desk 46 = .ok (.iload_n 3, 1) := by decide +kernel
theorem dX12_desk_47 : decode cX12_desk 47 = .ok (.iadd, 1) := by decide +kernel
theorem dX12_desk_48 : decode cX12_desk 48 = .ok (.iconst 0, 1) := by decide +kernel
theorem dX12_desk_49 : decode cX12_desk 49 = .ok (.iastore, 1) := by decide +kernel
theorem dX12_desk_50 : decode cX12_desk 50 = .ok (.iinc 3 1, 3) := by decide +kernel
theorem dX12_desk_53 : decode cX12_desk 53 = .ok (.goto (-17), 3) := by decide +kernel
theorem dX12_desk_56 : decode cX12_desk 56 = .ok (.iconst 0, 1) := by decide +kernel
theorem dX12_desk_57 : decode cX12_desk 57 = .ok (.istore_n 3, 1) := by decide +kernel
theorem dX12_desk_58 : decode cX12_desk 58 = .ok (.iload_n 3, 1) := by decide +kernel
theorem dX12_desk_59 : decode cX12_desk 59 = .ok (.aload_n 0, 1) := by decide +kernel
theorem dX12_desk_60 : decode cX12_desk 60 = .ok (.iload_n 1, 1) := by decide +kernel
theorem dX12_desk_61 : decode cX12_desk 61 = .ok (.invokevirtual 154, 3) := by decide +kernel
theorem dX12_desk_64 : decode cX12_desk 64 = .ok (.if_icmp .ge 25, 3) := by decide +kernel
theorem dX12_desk_67 : decode cX12_desk 67 = .ok (.aload_n 0, 1) := by decide +kernel
theorem dX12_desk_68 : decode cX12_desk 68 = .ok (.getfield 9, 3) := by decide +kernel
theorem dX12_desk_71 : decode cX12_desk 71 = .ok (.bipush 7, 2) := by decide +kernel
theorem dX12_desk_73 : decode cX12_desk 73 = .ok (.iload_n 3, 1) := by decide +kernel
theorem dX12_desk_74 : decode cX12_desk 74 = .ok (.iadd, 1) := by decide +kernel
theorem dX12_desk_75 : decode cX12_desk 75 = .ok (.aload_n 0, 1) := by decide +kernel
theorem dX12_desk_76 : decode cX12_desk 76 = .ok (.iload_n 1, 1) := by decide +kernel
theorem dX12_desk_77 : decode cX12_desk 77 = .ok (.iload_n 3, 1) := by decide +kernel
theorem dX12_desk_78 : decode cX12_desk 78 = .ok (.iconst 0, 1) := by decide +kernel
theorem dX12_desk_79 : decode cX12_desk 79 = .ok (.invokevirtual 189, 3) := by decide +kernel
theorem dX12_desk_82 : decode cX12_desk 82 = .ok (.iastore, 1) := by decide +kernel
theorem dX12_desk_83 : decode cX12_desk 83 = .ok (.iinc 3 1, 3) := by decide +kernel
theorem dX12_desk_86 : decode cX12_desk 86 = .ok (.goto (-28), 3) := by decide +kernel
theorem dX12_desk_89 : decode cX12_desk 89 = .ok (.aload_n 0, 1) := by decide +kernel
theorem dX12_desk_90 : decode cX12_desk 90 = .ok (.iload_n 1, 1) := by decide +kernel
theorem dX12_desk_91 : decode cX12_desk 91 = .ok (.invokevirtual 154, 3) := by decide +kernel
theorem dX12_desk_94 : decode cX12_desk 94 = .ok (.ireturn, 1) := by decide +kernel
theorem dX12_choose_0 : decode cX12_choose 0 = .ok (.aload_n 0, 1) := by decide +kernel
theorem dX12_choose_1 : decode cX12_choose 1 = .ok (.iload_n 2, 1) := by decide +kernel
theorem dX12_choose_2 : decode cX12_choose 2 = .ok (.invokevirtual 98, 3) := by decide +kernel
theorem dX12_choose_5 : decode cX12_choose 5 = .ok (.ifCond .ne 6, 3) := by decide +kernel
theorem dX12_choose_8 : decode cX12_choose 8 = .ok (.bipush (-2), 2) := by decide +kernel
theorem dX12_choose_10 : decode cX12_choose 10 = .ok (.ireturn, 1) := by decide +kernel
theorem dX12_choose_11 : decode cX12_choose 11 = .ok (.aload_n 0, 1) := by decide +kernel
theorem dX12_choose_12 : decode cX12_choose 12 = .ok (.getfield 9, 3) := by decide +kernel
theorem dX12_choose_15 : decode cX12_choose 15 = .ok (.iconst 2, 1) := by decide +kernel
theorem dX12_choose_16 : decode cX12_choose 16 = .ok (.iaload, 1) := by decide +kernel
theorem dX12_choose_17 : decode cX12_choose 17 = .ok (.ifCond .ge 6, 3) := by decide +kernel
theorem dX12_choose_20 : decode cX12_choose 20 = .ok (.bipush (-3), 2) := by decide +kernel
theorem dX12_choose_22 : decode cX12_choose 22 = .ok (.ireturn, 1) := by decide +kernel
theorem dX12_choose_23 : decode cX12_choose 23 = .ok (.iload_n 1, 1) := by decide +kernel
theorem dX12_choose_24 : decode cX12_choose 24 = .ok (.iconst 0, 1) := by decide +kernel
theorem dX12_choose_25 : decode cX12_choose 25 = .ok (.aload_n 0, 1) := by decide +kernel
theorem dX12_choose_26 : decode cX12_choose 26 = .ok (.aload_n 0, 1) := by decide +kernel
theorem dX12_choose_27 : decode cX12_choose 27 = .ok (.getfield 9, 3) := by decide +kernel
theorem dX12_choose_30 : decode cX12_choose 30 = .ok (.iconst 2, 1) := by decide +kernel
theorem dX12_choose_31 : decode cX12_choose 31 = .ok (.iaload, 1) := by decide +kernel
theorem dX12_choose_32 : decode cX12_choose 32 = .ok (.invokevirtual 154, 3) := by decide +kernel
theorem dX12_choose_35 : decode cX12_choose 35 = .ok (.iconst 1, 1) := by decide +kernel
theorem dX12_choose_36 : decode cX12_choose 36 = .ok (.isub, 1) := by decide +kernel
theorem dX12_choose_37 : decode cX12_choose 37 = .ok (.invokestatic 64, 3) := by decide +kernel
theorem dX12_choose_40 : decode cX12_choose 40 = .ok (.ifCond .ne 6, 3) := by decide +kernel
theorem dX12_choose_43 : decode cX12_choose 43 = .ok (.bipush (-12), 2) := by decide +kernel
theorem dX12_choose_45 : decode cX12_choose 45 = .ok (.ireturn, 1) := by decide +kernel
theorem dX12_choose_46 : decode cX12_choose 46 = .ok (.aload_n 0, 1) := by decide +kernel
theorem dX12_choose_47 : decode cX12_choose 47 = .ok (.aload_n 0, 1) := by decide +kernel
theorem dX12_choose_48 : decode cX12_choose 48 = .ok (.getfield 9, 3) := by decide +kernel
theorem dX12_choose_51 : decode cX12_choose 51 = .ok (.iconst 2, 1) := by decide +kernel
theorem dX12_choose_52 : decode cX12_choose 52 = .ok (.iaload, 1) := by decide +kernel
theorem dX12_choose_53 : decode cX12_choose 53 = .ok (.iload_n 1, 1) := by decide +kernel
theorem dX12_choose_54 : decode cX12_choose 54 = .ok (.iload_n 2, 1) := by decide +kernel
theorem dX12_choose_55 : decode cX12_choose 55 = .ok (.invokevirtual 148, 3) := by decide +kernel
theorem dX12_choose_58 : decode cX12_choose 58 = .ok (.ifCond .ne 6, 3) := by decide +kernel
theorem dX12_choose_61 : decode cX12_choose 61 = .ok (.bipush (-13), 2) := by decide +kernel
theorem dX12_choose_63 : decode cX12_choose 63 = .ok (.ireturn, 1) := by decide +kernel
theorem dX12_choose_64 : decode cX12_choose 64 = .ok (.aload_n 0, 1) := by decide +kernel
theorem dX12_choose_65 : decode cX12_choose 65 = .ok (.getfield 9, 3) := by decide +kernel
theorem dX12_choose_68 : decode cX12_choose 68 = .ok (.bipush 7, 2) := by decide +kernel
theorem dX12_choose_70 : decode cX12_choose 70 = .ok (.iload_n 1, 1) := by decide +kernel
theorem dX12_choose_71 : decode cX12_choose 71 = .ok (.iadd, 1) := by decide +kernel
theorem dX12_choose_72 : decode cX12_choose 72 = .ok (.iaload, 1) := by decide +kernel
theorem dX12_choose_73 : decode cX12_choose 73 = .ok (.istore_n 3, 1) := by decide +kernel
theorem dX12_choose_74 : decode cX12_choose 74 = .ok (.aload_n 0, 1) := by decide +kernel
theorem dX12_choose_75 : decode cX12_choose 75 = .ok (.getfield 9, 3) := by decide +kernel
theorem dX12_choose_78 : decode cX12_choose 78 = .ok (.bipush 7, 2) := by decide +kernel
theorem dX12_choose_80 : decode cX12_choose 80 = .ok (.iload_n 1, 1) := by decide +kernel
theorem dX12_choose_81 : decode cX12_choose 81 = .ok (.iadd, 1) := by decide +kernel
theorem dX12_choose_82 : decode cX12_choose 82 = .ok (.iload_n 2, 1) := by decide +kernel
theorem dX12_choose_83 : decode cX12_choose 83 = .ok (.iastore, 1) := by decide +kernel
theorem dX12_choose_84 : decode cX12_choose 84 = .ok (.iload_n 3, 1) := by decide +kernel
theorem dX12_choose_85 : decode cX12_choose 85 = .ok (.ireturn, 1) := by decide +kernel
theorem dX12_number_0 : decode cX12_number 0 = .ok (.iload_n 1, 1) := by decide +kernel
theorem dX12_number_1 : decode cX12_number 1 = .ok (.iconst 0, 1) := by decide +kernel
theorem dX12_number_2 : decode cX12_number 2 = .ok (.iconst 2, 1) := by decide +kernel
theorem dX12_number_3 : decode cX12_number 3 = .ok (.invokestatic 64, 3) := by decide +kernel
theorem dX12_number_6 : decode cX12_number 6 = .ok (.ifCond .eq 12, 3) := by decide +kernel
theorem dX12_number_9 : decode cX12_number 9 = .ok (.iload_n 2, 1) := by decide +kernel
theorem dX12_number_10 : decode cX12_number 10 = .ok (.iconst 0, 1) := by decide +kernel
theorem dX12_number_11 : decode cX12_number 11 = .ok (.iconst 1, 1) := by decide +kernel
theorem dX12_number_12 : decode cX12_number 12 = .ok (.invokestatic 64, 3) := by decide +kernel
theorem dX12_number_15 : decode cX12_number 15 = .ok (.ifCond .ne 6, 3) := by decide +kernel
theorem dX12_number_18 : decode cX12_number 18 = .ok (.bipush (-2), 2) := by decide +kernel
theorem dX12_number_20 : decode cX12_number 20 = .ok (.ireturn, 1) := by decide +kernel
theorem dX12_number_21 : decode cX12_number 21 = .ok (.aload_n 0, 1) := by decide +kernel
theorem dX12_number_22 : decode cX12_number 22 = .ok (.getfield 9, 3) := by decide +kernel
theorem dX12_number_25 : decode cX12_number 25 = .ok (.iconst 2, 1) := by decide +kernel
theorem dX12_number_26 : decode cX12_number 26 = .ok (.iaload, 1) := by decide +kernel
theorem dX12_number_27 : decode cX12_number 27 = .ok (.ifCond .ge 6, 3) := by decide +kernel
theorem dX12_number_30 : decode cX12_number 30 = .ok (.bipush (-3), 2) := by decide +kernel
theorem dX12_number_32 : decode cX12_number 32 = .ok (.ireturn, 1) := by decide +kernel
theorem dX12_number_33 : decode cX12_number 33 = .ok (.aload_n 0, 1) := by decide +kernel
theorem dX12_number_34 : decode cX12_number 34 = .ok (.getfield 9, 3) := by decide +kernel
theorem dX12_number_37 : decode cX12_number 37 = .ok (.iconst 4, 1) := by decide +kernel
theorem dX12_number_38 : decode cX12_number 38 = .ok (.iload_n 1, 1) := by decide +kernel
theorem dX12_number_39 : decode cX12_number 39 = .ok (.iadd, 1) := by decide +kernel
theorem dX12_number_40 : decode cX12_number 40 = .ok (.iaload, 1) := by decide +kernel
theorem dX12_number_41 : decode cX12_number 41 = .ok (.istore_n 3, 1) := by decide +kernel
theorem dX12_number_42 : decode cX12_number 42 = .ok (.aload_n 0, 1) := by decide +kernel
theorem dX12_number_43 : decode cX12_number 43 = .ok (.getfield 9, 3) := by decide +kernel
theorem dX12_number_46 : decode cX12_number 46 = .ok (.iconst 4, 1) := by decide +kernel
theorem dX12_number_47 : decode cX12_number 47 = .ok (.iload_n 1, 1) := by decide +kernel
theorem dX12_number_48 : decode cX12_number 48 = .ok (.iadd, 1) := by decide +kernel
theorem dX12_number_49 : decode cX12_number 49 = .ok (.iload_n 2, 1) := by decide +kernel
theorem dX12_number_50 : decode cX12_number 50 = .ok (.iastore, 1) := by decide +kernel
theorem dX12_number_51 : decode cX12_number 51 = .ok (.iload_n 3, 1) := by decide +kernel
theorem dX12_number_52 : decode cX12_number 52 = .ok (.ireturn, 1) := by decide +kernel
theorem dX12_said_0 : decode cX12_said 0 = .ok (.aload_n 0, 1) := by decide +kernel
theorem dX12_said_1 : decode cX12_said 1 = .ok (.invokevirtual 192, 3) := by decide +kernel
theorem dX12_said_4 : decode cX12_said 4 = .ok (.iload_n 1, 1) := by decide +kernel
theorem dX12_said_5 : decode cX12_said 5 = .ok (.iconst (-1), 1) := by decide +kernel
theorem dX12_said_6 : decode cX12_said 6 = .ok (.if_icmp .ne 10, 3) := by decide +kernel
theorem dX12_said_9 : decode cX12_said 9 = .ok (.aload_n 0, 1) := by decide +kernel
theorem dX12_said_10 : decode cX12_said 10 = .ok (.getfield 166, 3) := by decide +kernel
theorem dX12_said_13 : decode cX12_said 13 = .ok (.goto 28, 3) := by decide +kernel
theorem dX12_said_16 : decode cX12_said 16 = .ok (.iload_n 1, 1) := by decide +kernel
theorem dX12_said_17 : decode cX12_said 17 = .ok (.iconst 0, 1) := by decide +kernel
theorem dX12_said_18 : decode cX12_said 18 = .ok (.aload_n 0, 1) := by decide +kernel
theorem dX12_said_19 : decode cX12_said 19 = .ok (.getfield 166, 3) := by decide +kernel
theorem dX12_said_22 : decode cX12_said 22 = .ok (.iconst 1, 1) := by decide +kernel
theorem dX12_said_23 : decode cX12_said 23 = .ok (.isub, 1) := by decide +kernel
theorem dX12_said_24 : decode cX12_said 24 = .ok (.invokestatic 64, 3) := by decide +kernel
theorem dX12_said_27 : decode cX12_said 27 = .ok (.ifCond .eq 12, 3) := by decide +kernel
theorem dX12_said_30 : decode cX12_said 30 = .ok (.aload_n 0, 1) := by decide +kernel
theorem dX12_said_31 : decode cX12_said 31 = .ok (.getfield 25, 3) := by decide +kernel
theorem dX12_said_34 : decode cX12_said 34 = .ok (.iload_n 1, 1) := by decide +kernel
theorem dX12_said_35 : decode cX12_said 35 = .ok (.iaload, 1) := by decide +kernel
theorem dX12_said_36 : decode cX12_said 36 = .ok (.goto 5, 3) := by decide +kernel
theorem dX12_said_39 : decode cX12_said 39 = .ok (.bipush (-12), 2) := by decide +kernel
theorem dX12_said_41 : decode cX12_said 41 = .ok (.ireturn, 1) := by decide +kernel
theorem dX12_spoken_0 : decode cX12_spoken 0 = .ok (.iload_n 1, 1) := by decide +kernel
theorem dX12_spoken_1 : decode cX12_spoken 1 = .ok (.iconst 1, 1) := by decide +kernel
theorem dX12_spoken_2 : decode cX12_spoken 2 = .ok (.bipush 99, 2) := by decide +kernel
theorem dX12_spoken_4 : decode cX12_spoken 4 = .ok (.invokestatic 64, 3) := by decide +kernel
theorem dX12_spoken_7 : decode cX12_spoken 7 = .ok (.ifCond .ne 6, 3) := by decide +kernel
theorem dX12_spoken_10 : decode cX12_spoken 10 = .ok (.bipush (-2), 2) := by decide +kernel
theorem dX12_spoken_12 : decode cX12_spoken 12 = .ok (.ireturn, 1) := by decide +kernel
theorem dX12_spoken_13 : decode cX12_spoken 13 = .ok (.aload_n 0, 1) := by decide +kernel
theorem dX12_spoken_14 : decode cX12_spoken 14 = .ok (.invokevirtual 192, 3) := by decide +kernel
theorem dX12_spoken_17 : decode cX12_spoken 17 = .ok (.fconst 0, 1) := by decide +kernel
theorem dX12_spoken_18 : decode cX12_spoken 18 = .ok (.fstore_n 2, 1) := by decide +kernel
theorem dX12_spoken_19 : decode cX12_spoken 19 = .ok (.iconst 0, 1) := by decide +kernel
theorem dX12_spoken_20 : decode cX12_spoken 20 = .ok (.istore_n 3, 1) := by decide +kernel
theorem dX12_spoken_21 : decode cX12_spoken 21 = .ok (.iload_n 3, 1) := by decide +kernel
theorem dX12_spoken_22 : decode cX12_spoken 22 = .ok (.aload_n 0, 1) := by decide +kernel
theorem dX12_spoken_23 : decode cX12_spoken 23 = .ok (.getfield 166, 3) := by decide +kernel
theorem dX12_spoken_26 : decode cX12_spoken 26 = .ok (.if_icmp .ge 93, 3) := by decide +kernel
theorem dX12_spoken_29 : decode cX12_spoken 29 = .ok (.aload_n 0, 1) := by decide +kernel
theorem dX12_spoken_30 : decode cX12_spoken 30 = .ok (.getfield 25, 3) := by decide +kernel
theorem dX12_spoken_33 : decode cX12_spoken 33 = .ok (.iload_n 3, 1) := by decide +kernel
theorem dX12_spoken_34 : decode cX12_spoken 34 = .ok (.iaload, 1) := by decide +kernel
theorem dX12_spoken_35 : decode cX12_spoken 35 = .ok (.invokestatic 87, 3) := by decide +kernel
theorem dX12_spoken_38 : decode cX12_spoken 38 = .ok (.ifCond .eq 8, 3) := by decide +kernel
theorem dX12_spoken_41 : decode cX12_spoken 41 = .ok (.ldc 194, 2) := by decide +kernel
theorem dX12_spoken_43 : decode cX12_spoken 43 = .ok (.goto 21, 3) := by decide +kernel
theorem dX12_spoken_46 : decode cX12_spoken 46 = .ok (.aload_n 0, 1) := by decide +kernel
theorem dX12_spoken_47 : decode cX12_spoken 47 = .ok (.getfield 25, 3) := by decide +kernel
theorem dX12_spoken_50 : decode cX12_spoken 50 = .ok (.iload_n 3, 1) := by decide +kernel
theorem dX12_spoken_51 : decode cX12_spoken 51 = .ok (.iaload, 1) := by decide +kernel
theorem dX12_spoken_52 : decode cX12_spoken 52 = .ok (.bipush 32, 2) := by decide +kernel
theorem dX12_spoken_54 : decode cX12_spoken 54 = .ok (.if_icmp .ne 8, 3) := by decide +kernel
theorem dX12_spoken_57 : decode cX12_spoken 57 = .ok (.ldc 195, 2) := by decide +kernel
theorem dX12_spoken_59 : decode cX12_spoken 59 = .ok (.goto 5, 3) := by decide +kernel
theorem dX12_spoken_62 : decode cX12_spoken 62 = .ok (.ldc 196, 2) := by decide +kernel
theorem dX12_spoken_64 : decode cX12_spoken 64 = .ok (.fstore 4, 2) := by decide +kernel
theorem dX12_spoken_66 : decode cX12_spoken 66 = .ok (.iload_n 3, 1) := by decide +kernel
theorem dX12_spoken_67 : decode cX12_spoken 67 = .ok (.ifCond .le 38, 3) := by decide +kernel
theorem dX12_spoken_70 : decode cX12_spoken 70 = .ok (.aload_n 0, 1) := by decide +kernel
theorem dX12_spoken_71 : decode cX12_spoken 71 = .ok (.getfield 25, 3) := by decide +kernel
theorem dX12_spoken_74 : decode cX12_spoken 74 = .ok (.iload_n 3, 1) := by decide +kernel
theorem dX12_spoken_75 : decode cX12_spoken 75 = .ok (.iaload, 1) := by decide +kernel
theorem dX12_spoken_76 : decode cX12_spoken 76 = .ok (.bipush 32, 2) := by decide +kernel
theorem dX12_spoken_78 : decode cX12_spoken 78 = .ok (.if_icmp .eq 27, 3) := by decide +kernel
theorem dX12_spoken_81 : decode cX12_spoken 81 = .ok (.aload_n 0, 1) := by decide +kernel
theorem dX12_spoken_82 : decode cX12_spoken 82 = .ok (.getfield 25, 3) := by decide +kernel
theorem dX12_spoken_85 : decode cX12_spoken 85 = .ok (.iload_n 3, 1) := by decide +kernel
theorem dX12_spoken_86 : decode cX12_spoken 86 = .ok (.iaload, 1) := by decide +kernel
theorem dX12_spoken_87 : decode cX12_spoken 87 = .ok (.aload_n 0, 1) := by decide +kernel
theorem dX12_spoken_88 : decode cX12_spoken 88 = .ok (.getfield 25, 3) := by decide +kernel
theorem dX12_spoken_91 : decode cX12_spoken 91 = .ok (.iload_n 3, 1) := by decide +kernel
theorem dX12_spoken_92 : decode cX12_spoken 92 = .ok (.iconst 1, 1) := by decide +kernel
theorem dX12_spoken_93 : decode cX12_spoken 93 = .ok (.isub, 1) := by decide +kernel
theorem dX12_spoken_94 : decode cX12_spoken 94 = .ok (.iaload, 1) := by decide +kernel
theorem dX12_spoken_95 : decode cX12_spoken 95 = .ok (.if_icmp .ne 10, 3) := by decide +kernel
theorem dX12_spoken_98 : decode cX12_spoken 98 = .ok (.fload 4, 2) := by decide +kernel
theorem dX12_spoken_100 : decode cX12_spoken 100 = .ok (.ldc 197, 2) := by decide +kernel
theorem dX12_spoken_102 : decode cX12_spoken 102 = .ok (.fmul, 1) := by decide +kernel
theorem dX12_spoken_103 : decode cX12_spoken 103 = .ok (.fstore 4, 2) := by decide +kernel
theorem dX12_spoken_105 : decode cX12_spoken 105 = .ok (.fload_n 2, 1) := by decide +kernel
theorem dX12_spoken_106 : decode cX12_spoken 106 = .ok (.fload 4, 2) := by decide +kernel
theorem dX12_spoken_108 : decode cX12_spoken 108 = .ok (.iload_n 1, 1) := by decide +kernel
theorem dX12_spoken_109 : decode cX12_spoken 109 = .ok (.i2f, 1) := by decide +kernel
theorem dX12_spoken_110 : decode cX12_spoken 110 = .ok (.fdiv, 1) := by decide +kernel
theorem dX12_spoken_111 : decode cX12_spoken 111 = .ok (.fadd, 1) := by decide +kernel
theorem dX12_spoken_112 : decode cX12_spoken 112 = .ok (.fstore_n 2, 1) := by decide +kernel
theorem dX12_spoken_113 : decode cX12_spoken 113 = .ok (.iinc 3 1, 3) := by decide +kernel
theorem dX12_spoken_116 : decode cX12_spoken 116 = .ok (.goto (-95), 3) := by decide +kernel
theorem dX12_spoken_119 : decode cX12_spoken 119 = .ok (.fload_n 2, 1) := by decide +kernel
theorem dX12_spoken_120 : decode cX12_spoken 120 = .ok (.invokestatic 198, 3) := by decide +kernel
theorem dX12_spoken_123 : decode cX12_spoken 123 = .ok (.ireturn, 1) := by decide +kernel
theorem dX12_text_0 : decode cX12_text 0 = .ok (.aload_n 0, 1) := by decide +kernel
theorem dX12_text_1 : decode cX12_text 1 = .ok (.getfield 72, 3) := by decide +kernel
theorem dX12_text_4 : decode cX12_text 4 = .ok (.istore_n 1, 1) := by decide +kernel
theorem dX12_text_5 : decode cX12_text 5 = .ok (.iconst 1, 1) := by decide +kernel
theorem dX12_text_6 : decode cX12_text 6 = .ok (.istore_n 2, 1) := by decide +kernel
theorem dX12_text_7 : decode cX12_text 7 = .ok (.aload_n 0, 1) := by decide +kernel
theorem dX12_text_8 : decode cX12_text 8 = .ok (.iconst 0, 1) := by decide +kernel
theorem dX12_text_9 : decode cX12_text 9 = .ok (.putfield 72, 3) := by decide +kernel
theorem dX12_text_12 : decode cX12_text 12 = .ok (.iconst 0, 1) := by decide +kernel
theorem dX12_text_13 : decode cX12_text 13 = .ok (.istore_n 3, 1) := by decide +kernel
theorem dX12_text_14 : decode cX12_text 14 = .ok (.iload_n 3, 1) := by decide +kernel
theorem dX12_text_15 : decode cX12_text 15 = .ok (.iload_n 1, 1) := by decide +kernel
theorem dX12_text_16 : decode cX12_text 16 = .ok (.if_icmp .ge 69, 3) := by decide +kernel
theorem dX12_text_19 : decode cX12_text 19 = .ok (.aload_n 0, 1) := by decide +kernel
theorem dX12_text_20 : decode cX12_text 20 = .ok (.getfield 16, 3) := by decide +kernel
theorem dX12_text_23 : decode cX12_text 23 = .ok (.iload_n 3, 1) := by decide +kernel
theorem dX12_text_24 : decode cX12_text 24 = .ok (.iaload, 1) := by decide +kernel
theorem dX12_text_25 : decode cX12_text 25 = .ok (.bipush 32, 2) := by decide +kernel
theorem dX12_text_27 : decode cX12_text 27 = .ok (.if_icmp .ne 33, 3) := by decide +kernel
theorem dX12_text_30 : decode cX12_text 30 = .ok (.iload_n 3, 1) := by decide +kernel
theorem dX12_text_31 : decode cX12_text 31 = .ok (.ifCond .le 29, 3) := by decide +kernel
theorem dX12_text_34 : decode cX12_text 34 = .ok (.iload_n 3, 1) := by decide +kernel
theorem dX12_text_35 : decode cX12_text 35 = .ok (.iload_n 1, 1) := by decide +kernel
theorem dX12_text_36 : decode cX12_text 36 = .ok (.iconst 1, 1) := by decide +kernel
theorem dX12_text_37 : decode cX12_text 37 = .ok (.isub, 1) := by decide +kernel
theorem dX12_text_38 : decode cX12_text 38 = .ok (.if_icmp .ge 22, 3) := by decide +kernel
theorem dX12_text_41 : decode cX12_text 41 = .ok (.aload_n 0, 1) := by decide +kernel
theorem dX12_text_42 : decode cX12_text 42 = .ok (.getfield 16, 3) := by decide +kernel
theorem dX12_text_45 : decode cX12_text 45 = .ok (.iload_n 3, 1) := by decide +kernel
theorem dX12_text_46 : decode cX12_text 46 = .ok (.iconst 1, 1) := by decide +kernel
theorem dX12_text_47 : decode cX12_text 47 = .ok (.isub, 1) := by decide +kernel
theorem dX12_text_48 : decode cX12_text 48 = .ok (.iaload, 1) := by decide +kernel
theorem dX12_text_49 : decode cX12_text 49 = .ok (.bipush 32, 2) := by decide +kernel
theorem dX12_text_51 : decode cX12_text 51 = .ok (.if_icmp .eq 9, 3) := by decide +kernel
theorem dX12_text_54 : decode cX12_text 54 = .ok (.iinc 2 1, 3) := by decide +kernel
theorem dX12_text_57 : decode cX12_text 57 = .ok (.goto 22, 3) := by decide +kernel
theorem dX12_text_60 : decode cX12_text 60 = .ok (.aload_n 0, 1) := by decide +kernel
theorem dX12_text_61 : decode cX12_text 61 = .ok (.getfield 16, 3) := by decide +kernel
theorem dX12_text_64 : decode cX12_text 64 = .ok (.iload_n 3, 1) := by decide +kernel
theorem dX12_text_65 : decode cX12_text 65 = .ok (.iaload, 1) := by decide +kernel
theorem dX12_text_66 : decode cX12_text 66 = .ok (.bipush 97, 2) := by decide +kernel
theorem dX12_text_68 : decode cX12_text 68 = .ok (.bipush 122, 2) := by decide +kernel
theorem dX12_text_70 : decode cX12_text 70 = .ok (.invokestatic 64, 3) := by decide +kernel
theorem dX12_text_73 : decode cX12_text 73 = .ok (.ifCond .ne 6, 3) := by decide +kernel
theorem dX12_text_76 : decode cX12_text 76 = .ok (.bipush (-3), 2) := by decide +kernel
theorem dX12_text_78 : decode cX12_text 78 = .ok (.ireturn, 1) := by decide +kernel
theorem dX12_text_79 : decode cX12_text 79 = .ok (.iinc 3 1, 3) := by decide +kernel
theorem dX12_text_82 : decode cX12_text 82 = .ok (.goto (-68), 3) := by decide +kernel
theorem dX12_text_85 : decode cX12_text 85 = .ok (.iload_n 1, 1) := by decide +kernel
theorem dX12_text_86 : decode cX12_text 86 = .ok (.ifCond .ne 6, 3) := by decide +kernel
theorem dX12_text_89 : decode cX12_text 89 = .ok (.bipush (-3), 2) := by decide +kernel
theorem dX12_text_91 : decode cX12_text 91 = .ok (.ireturn, 1) := by decide +kernel
theorem dX12_text_92 : decode cX12_text 92 = .ok (.aload_n 0, 1) := by decide +kernel
theorem dX12_text_93 : decode cX12_text 93 = .ok (.getfield 9, 3) := by decide +kernel
theorem dX12_text_96 : decode cX12_text 96 = .ok (.bipush 13, 2) := by decide +kernel
theorem dX12_text_98 : decode cX12_text 98 = .ok (.iload_n 1, 1) := by decide +kernel
theorem dX12_text_99 : decode cX12_text 99 = .ok (.iastore, 1) := by decide +kernel
theorem dX12_text_100 : decode cX12_text 100 = .ok (.iconst 0, 1) := by decide +kernel
theorem dX12_text_101 : decode cX12_text 101 = .ok (.istore_n 3, 1) := by decide +kernel
theorem dX12_text_102 : decode cX12_text 102 = .ok (.iload_n 3, 1) := by decide +kernel
theorem dX12_text_103 : decode cX12_text 103 = .ok (.iload_n 1, 1) := by decide +kernel
theorem dX12_text_104 : decode cX12_text 104 = .ok (.if_icmp .ge 25, 3) := by decide +kernel
theorem dX12_text_107 : decode cX12_text 107 = .ok (.aload_n 0, 1) := by decide +kernel
theorem dX12_text_108 : decode cX12_text 108 = .ok (.getfield 9, 3) := by decide +kernel
theorem dX12_text_111 : decode cX12_text 111 = .ok (.sipush 467, 3) := by decide +kernel
theorem dX12_text_114 : decode cX12_text 114 = .ok (.iload_n 3, 1) := by decide +kernel
theorem dX12_text_115 : decode cX12_text 115 = .ok (.iadd, 1) := by decide +kernel
theorem dX12_text_116 : decode cX12_text 116 = .ok (.aload_n 0, 1) := by decide +kernel
theorem dX12_text_117 : decode cX12_text 117 = .ok (.getfield 16, 3) := by decide +kernel
theorem dX12_text_120 : decode cX12_text 120 = .ok (.iload_n 3, 1) := by decide +kernel
theorem dX12_text_121 : decode cX12_text 121 = .ok (.iaload, 1) := by decide +kernel
theorem dX12_text_122 : decode cX12_text 122 = .ok (.iastore, 1) := by decide +kernel
theorem dX12_text_123 : decode cX12_text 123 = .ok (.iinc 3 1, 3) := by decide +kernel
theorem dX12_text_126 : decode cX12_text 126 = .ok (.goto (-24), 3) := by decide +kernel
theorem dX12_text_129 : decode cX12_text 129 = .ok (.iload_n 2, 1) := by decide +kernel
theorem dX12_text_130 : decode cX12_text 130 = .ok (.ireturn, 1) := by decide +kernel
theorem dX12_takesText_0 : decode cX12_takesText 0 = .ok (.aload_n 0, 1) := by decide +kernel
theorem dX12_takesText_1 : decode cX12_takesText 1 = .ok (.aload_n 0, 1) := by decide +kernel
theorem dX12_takesText_2 : decode cX12_takesText 2 = .ok (.getfield 9, 3) := by decide +kernel
theorem dX12_takesText_5 : decode cX12_takesText 5 = .ok (.bipush 13, 2) := by decide +kernel
theorem dX12_takesText_7 : decode cX12_takesText 7 = .ok (.iaload, 1) := by decide +kernel
theorem dX12_takesText_8 : decode cX12_takesText 8 = .ok (.putfield 166, 3) := by decide +kernel
theorem dX12_takesText_11 : decode cX12_takesText 11 = .ok (.iconst 0, 1) := by decide +kernel
theorem dX12_takesText_12 : decode cX12_takesText 12 = .ok (.istore_n 1, 1) := by decide +kernel
theorem dX12_takesText_13 : decode cX12_takesText 13 = .ok (.iload_n 1, 1) := by decide +kernel
theorem dX12_takesText_14 : decode cX12_takesText 14 = .ok (.aload_n 0, 1) := by decide +kernel
theorem dX12_takesText_15 : decode cX12_takesText 15 = .ok (.getfield 166, 3) := by decide +kernel
theorem dX12_takesText_18 : decode cX12_takesText 18 = .ok (.if_icmp .ge 25, 3) := by decide +kernel
theorem dX12_takesText_21 : decode cX12_takesText 21 = .ok (.aload_n 0, 1) := by decide +kernel
theorem dX12_takesText_22 : decode cX12_takesText 22 = .ok (.getfield 25, 3) := by decide +kernel
theorem dX12_takesText_25 : decode cX12_takesText 25 = .ok (.iload_n 1, 1) := by decide +kernel
theorem dX12_takesText_26 : decode cX12_takesText 26 = .ok (.aload_n 0, 1) := by decide +kernel
theorem dX12_takesText_27 : decode cX12_takesText 27 = .ok (.getfield 9, 3) := by decide +kernel
theorem dX12_takesText_30 : decode cX12_takesText 30 = .ok (.sipush 467, 3) := by decide +kernel
theorem dX12_takesText_33 : decode cX12_takesText 33 = .ok (.iload_n 1, 1) := by decide +kernel
theorem dX12_takesText_34 : decode cX12_takesText 34 = .ok (.iadd, 1) := by decide +kernel
theorem dX12_takesText_35 : decode cX12_takesText 35 = .ok (.iaload, 1) := by decide +kernel
theorem dX12_takesText_36 : decode cX12_takesText 36 = .ok (.iastore, 1) := by decide +kernel
theorem dX12_takesText_37 : decode cX12_takesText 37 = .ok (.iinc 1 1, 3) := by decide +kernel
theorem dX12_takesText_40 : decode cX12_takesText 40 = .ok (.goto (-27), 3) := by decide +kernel
theorem dX12_takesText_43 : decode cX12_takesText 43 = .ok (.return_, 1) := by decide +kernel
theorem dX12_parts_0 : decode cX12_parts 0 = .ok (.aload_n 0, 1) := by decide +kernel
theorem dX12_parts_1 : decode cX12_parts 1 = .ok (.iconst 0, 1) := by decide +kernel
theorem dX12_parts_2 : decode cX12_parts 2 = .ok (.putfield 204, 3) := by decide +kernel
theorem dX12_parts_5 : decode cX12_parts 5 = .ok (.aload_n 0, 1) := by decide +kernel
theorem dX12_parts_6 : decode cX12_parts 6 = .ok (.getfield 166, 3) := by decide +kernel
theorem dX12_parts_9 : decode cX12_parts 9 = .ok (.ifCond .ne 4, 3) := by decide +kernel
theorem dX12_parts_12 : decode cX12_parts 12 = .ok (.return_, 1) := by decide +kernel
theorem dX12_parts_13 : decode cX12_parts 13 = .ok (.aload_n 0, 1) := by decide +kernel
theorem dX12_parts_14 : decode cX12_parts 14 = .ok (.getfield 28, 3) := by decide +kernel
theorem dX12_parts_17 : decode cX12_parts 17 = .ok (.iconst 0, 1) := by decide +kernel
theorem dX12_parts_18 : decode cX12_parts 18 = .ok (.iconst 0, 1) := by decide +kernel
theorem dX12_parts_19 : decode cX12_parts 19 = .ok (.iastore, 1) := by decide +kernel
theorem dX12_parts_20 : decode cX12_parts 20 = .ok (.iconst 0, 1) := by decide +kernel
theorem dX12_parts_21 : decode cX12_parts 21 = .ok (.istore_n 1, 1) := by decide +kernel
theorem dX12_parts_22 : decode cX12_parts 22 = .ok (.iload_n 1, 1) := by decide +kernel
theorem dX12_parts_23 : decode cX12_parts 23 = .ok (.aload_n 0, 1) := by decide +kernel
theorem dX12_parts_24 : decode cX12_parts 24 = .ok (.getfield 166, 3) := by decide +kernel
theorem dX12_parts_27 : decode cX12_parts 27 = .ok (.if_icmp .ge 55, 3) := by decide +kernel
theorem dX12_parts_30 : decode cX12_parts 30 = .ok (.aload_n 0, 1) := by decide +kernel
theorem dX12_parts_31 : decode cX12_parts 31 = .ok (.getfield 25, 3) := by decide +kernel
theorem dX12_parts_34 : decode cX12_parts 34 = .ok (.iload_n 1, 1) := by decide +kernel
theorem dX12_parts_35 : decode cX12_parts 35 = .ok (.iaload, 1) := by decide +kernel
theorem dX12_parts_36 : decode cX12_parts 36 = .ok (.bipush 32, 2) := by decide +kernel
theorem dX12_parts_38 : decode cX12_parts 38 = .ok (.if_icmp .eq 6, 3) := by decide +kernel
theorem dX12_parts_41 : decode cX12_parts 41 = .ok (.goto 35, 3) := by decide +kernel
theorem dX12_parts_44 : decode cX12_parts 44 = .ok (.aload_n 0, 1) := by decide +kernel
theorem dX12_parts_45 : decode cX12_parts 45 = .ok (.getfield 31, 3) := by decide +kernel
theorem dX12_parts_48 : decode cX12_parts 48 = .ok (.aload_n 0, 1) := by decide +kernel
theorem dX12_parts_49 : decode cX12_parts 49 = .ok (.getfield 204, 3) := by decide +kernel
theorem dX12_parts_52 : decode cX12_parts 52 = .ok (.iload_n 1, 1) := by decide +kernel
theorem dX12_parts_53 : decode cX12_parts 53 = .ok (.iastore, 1) := by decide +kernel
theorem dX12_parts_54 : decode cX12_parts 54 = .ok (.aload_n 0, 1) := by decide +kernel
theorem dX12_parts_55 : decode cX12_parts 55 = .ok (.dup, 1) := by decide +kernel
theorem dX12_parts_56 : decode cX12_parts 56 = .ok (.getfield 204, 3) := by decide +kernel
theorem dX12_parts_59 : decode cX12_parts 59 = .ok (.iconst 1, 1) := by decide +kernel
theorem dX12_parts_60 : decode cX12_parts 60 = .ok (.iadd, 1) := by decide +kernel
theorem dX12_parts_61 : decode cX12_parts 61 = .ok (.putfield 204, 3) := by decide +kernel
theorem dX12_parts_64 : decode cX12_parts 64 = .ok (.aload_n 0, 1) := by decide +kernel
theorem dX12_parts_65 : decode cX12_parts 65 = .ok (.getfield 28, 3) := by decide +kernel
theorem dX12_parts_68 : decode cX12_parts 68 = .ok (.aload_n 0, 1) := by decide +kernel
theorem dX12_parts_69 : decode cX12_parts 69 = .ok (.getfield 204, 3) := by decide +kernel
theorem dX12_parts_72 : decode cX12_parts 72 = .ok (.iload_n 1, 1) := by decide +kernel
theorem dX12_parts_73 : decode cX12_parts 73 = .ok (.iconst 1, 1) := by decide +kernel
theorem dX12_parts_74 : decode cX12_parts 74 = .ok (.iadd, 1) := by decide +kernel
theorem dX12_parts_75 : decode cX12_parts 75 = .ok (.iastore, 1) := by decide +kernel
theorem dX12_parts_76 : decode cX12_parts 76 = .ok (.iinc 1 1, 3) := by decide +kernel
theorem dX12_parts_79 : decode cX12_parts 79 = .ok (.goto (-57), 3) := by decide +kernel
theorem dX12_parts_82 : decode cX12_parts 82 = .ok (.aload_n 0, 1) := by decide +kernel
theorem dX12_parts_83 : decode cX12_parts 83 = .ok (.getfield 31, 3) := by decide +kernel
theorem dX12_parts_86 : decode cX12_parts 86 = .ok (.aload_n 0, 1) := by decide +kernel
theorem dX12_parts_87 : decode cX12_parts 87 = .ok (.getfield 204, 3) := by decide +kernel
theorem dX12_parts_90 : decode cX12_parts 90 = .ok (.aload_n 0, 1) := by decide +kernel
theorem dX12_parts_91 : decode cX12_parts 91 = .ok (.getfield 166, 3) := by decide +kernel
theorem dX12_parts_94 : decode cX12_parts 94 = .ok (.iastore, 1) := by decide +kernel
theorem dX12_parts_95 : decode cX12_parts 95 = .ok (.aload_n 0, 1) := by decide +kernel
theorem dX12_parts_96 : decode cX12_parts 96 = .ok (.dup, 1) := by decide +kernel
theorem dX12_parts_97 : decode cX12_parts 97 = .ok (.getfield 204, 3) := by decide +kernel
theorem dX12_parts_100 : decode cX12_parts 100 = .ok (.iconst 1, 1) := by decide +kernel
theorem dX12_parts_101 : decode cX12_parts 101 = .ok (.iadd, 1) := by decide +kernel
theorem dX12_parts_102 : decode cX12_parts 102 = .ok (.putfield 204, 3) := by decide +kernel
theorem dX12_parts_105 : decode cX12_parts 105 = .ok (.return_, 1) := by decide +kernel
theorem dX12_isLike_0 : decode cX12_isLike 0 = .ok (.aload_n 0, 1) := by decide +kernel
theorem dX12_isLike_1 : decode cX12_isLike 1 = .ok (.getfield 31, 3) := by decide +kernel
theorem dX12_isLike_4 : decode cX12_isLike 4 = .ok (.iload_n 1, 1) := by decide +kernel
theorem dX12_isLike_5 : decode cX12_isLike 5 = .ok (.iaload, 1) := by decide +kernel
theorem dX12_isLike_6 : decode cX12_isLike 6 = .ok (.aload_n 0, 1) := by decide +kernel
theorem dX12_isLike_7 : decode cX12_isLike 7 = .ok (.getfield 28, 3) := by decide +kernel
theorem dX12_isLike_10 : decode cX12_isLike 10 = .ok (.iload_n 1, 1) := by decide +kernel
theorem dX12_isLike_11 : decode cX12_isLike 11 = .ok (.iaload, 1) := by decide +kernel
theorem dX12_isLike_12 : decode cX12_isLike 12 = .ok (.isub, 1) := by decide +kernel
theorem dX12_isLike_13 : decode cX12_isLike 13 = .ok (.aload_n 0, 1) := by decide +kernel
theorem dX12_isLike_14 : decode cX12_isLike 14 = .ok (.getfield 84, 3) := by decide +kernel
theorem dX12_isLike_17 : decode cX12_isLike 17 = .ok (.if_icmp .eq 5, 3) := by decide +kernel
theorem dX12_isLike_20 : decode cX12_isLike 20 = .ok (.iconst 0, 1) := by decide +kernel
theorem dX12_isLike_21 : decode cX12_isLike 21 = .ok (.ireturn, 1) := by decide +kernel
theorem dX12_isLike_22 : decode cX12_isLike 22 = .ok (.iconst 0, 1) := by decide +kernel
theorem dX12_isLike_23 : decode cX12_isLike 23 = .ok (.istore_n 2, 1) := by decide +kernel
theorem dX12_isLike_24 : decode cX12_isLike 24 = .ok (.iload_n 2, 1) := by decide +kernel
theorem dX12_isLike_25 : decode cX12_isLike 25 = .ok (.aload_n 0, 1) := by decide +kernel
theorem dX12_isLike_26 : decode cX12_isLike 26 = .ok (.getfield 84, 3) := by decide +kernel
theorem dX12_isLike_29 : decode cX12_isLike 29 = .ok (.if_icmp .ge 33, 3) := by decide +kernel
theorem dX12_isLike_32 : decode cX12_isLike 32 = .ok (.aload_n 0, 1) := by decide +kernel
theorem dX12_isLike_33 : decode cX12_isLike 33 = .ok (.getfield 25, 3) := by decide +kernel
theorem dX12_isLike_36 : decode cX12_isLike 36 = .ok (.aload_n 0, 1) := by decide +kernel
theorem dX12_isLike_37 : decode cX12_isLike 37 = .ok (.getfield 28, 3) := by decide +kernel
theorem dX12_isLike_40 : decode cX12_isLike 40 = .ok (.iload_n 1, 1) := by decide +kernel
theorem dX12_isLike_41 : decode cX12_isLike 41 = .ok (.iaload, 1) := by decide +kernel
theorem dX12_isLike_42 : decode cX12_isLike 42 = .ok (.iload_n 2, 1) := by decide +kernel
theorem dX12_isLike_43 : decode cX12_isLike 43 = .ok (.iadd, 1) := by decide +kernel
theorem dX12_isLike_44 : decode cX12_isLike 44 = .ok (.iaload, 1) := by decide +kernel
theorem dX12_isLike_45 : decode cX12_isLike 45 = .ok (.aload_n 0, 1) := by decide +kernel
theorem dX12_isLike_46 : decode cX12_isLike 46 = .ok (.getfield 19, 3) := by decide +kernel
theorem dX12_isLike_49 : decode cX12_isLike 49 = .ok (.iload_n 2, 1) := by decide +kernel
theorem dX12_isLike_50 : decode cX12_isLike 50 = .ok (.iaload, 1) := by decide +kernel
theorem dX12_isLike_51 : decode cX12_isLike 51 = .ok (.if_icmp .eq 5, 3) := by decide +kernel
theorem dX12_isLike_54 : decode cX12_isLike 54 = .ok (.iconst 0, 1) := by decide +kernel
theorem dX12_isLike_55 : decode cX12_isLike 55 = .ok (.ireturn, 1) := by decide +kernel
theorem dX12_isLike_56 : decode cX12_isLike 56 = .ok (.iinc 2 1, 3) := by decide +kernel
theorem dX12_isLike_59 : decode cX12_isLike 59 = .ok (.goto (-35), 3) := by decide +kernel
theorem dX12_isLike_62 : decode cX12_isLike 62 = .ok (.iconst 1, 1) := by decide +kernel
theorem dX12_isLike_63 : decode cX12_isLike 63 = .ok (.ireturn, 1) := by decide +kernel
theorem dX12_apart_0 : decode cX12_apart 0 = .ok (.aload_n 0, 1) := by decide +kernel
theorem dX12_apart_1 : decode cX12_apart 1 = .ok (.getfield 31, 3) := by decide +kernel
theorem dX12_apart_4 : decode cX12_apart 4 = .ok (.iload_n 1, 1) := by decide +kernel
theorem dX12_apart_5 : decode cX12_apart 5 = .ok (.iaload, 1) := by decide +kernel
theorem dX12_apart_6 : decode cX12_apart 6 = .ok (.aload_n 0, 1) := by decide +kernel
theorem dX12_apart_7 : decode cX12_apart 7 = .ok (.getfield 28, 3) := by decide +kernel
theorem dX12_apart_10 : decode cX12_apart 10 = .ok (.iload_n 1, 1) := by decide +kernel
theorem dX12_apart_11 : decode cX12_apart 11 = .ok (.iaload, 1) := by decide +kernel
theorem dX12_apart_12 : decode cX12_apart 12 = .ok (.isub, 1) := by decide +kernel
theorem dX12_apart_13 : decode cX12_apart 13 = .ok (.istore_n 2, 1) := by decide +kernel
theorem dX12_apart_14 : decode cX12_apart 14 = .ok (.iconst 0, 1) := by decide +kernel
theorem dX12_apart_15 : decode cX12_apart 15 = .ok (.istore_n 3, 1) := by decide +kernel
theorem dX12_apart_16 : decode cX12_apart 16 = .ok (.iload_n 3, 1) := by decide +kernel
theorem dX12_apart_17 : decode cX12_apart 17 = .ok (.iload_n 2, 1) := by decide +kernel
theorem dX12_apart_18 : decode cX12_apart 18 = .ok (.if_icmp .gt 16, 3) := by decide +kernel
theorem dX12_apart_21 : decode cX12_apart 21 = .ok (.aload_n 0, 1) := by decide +kernel
theorem dX12_apart_22 : decode cX12_apart 22 = .ok (.getfield 34, 3) := by decide +kernel
theorem dX12_apart_25 : decode cX12_apart 25 = .ok (.iload_n 3, 1) := by decide +kernel
theorem dX12_apart_26 : decode cX12_apart 26 = .ok (.iload_n 3, 1) := by decide +kernel
theorem dX12_apart_27 : decode cX12_apart 27 = .ok (.iastore, 1) := by decide +kernel
theorem dX12_apart_28 : decode cX12_apart 28 = .ok (.iinc 3 1, 3) := by decide +kernel
theorem dX12_apart_31 : decode cX12_apart 31 = .ok (.goto (-15), 3) := by decide +kernel
theorem dX12_apart_34 : decode cX12_apart 34 = .ok (.iconst 1, 1) := by decide +kernel
theorem dX12_apart_35 : decode cX12_apart 35 = .ok (.istore_n 3, 1) := by decide +kernel
theorem dX12_apart_36 : decode cX12_apart 36 = .ok (.iload_n 3, 1) := by decide +kernel
theorem dX12_apart_37 : decode cX12_apart 37 = .ok (.aload_n 0, 1) := by decide +kernel
theorem dX12_apart_38 : decode cX12_apart 38 = .ok (.getfield 84, 3) := by decide +kernel
theorem dX12_apart_41 : decode cX12_apart 41 = .ok (.if_icmp .gt 133, 3) := by decide +kernel
theorem dX12_apart_44 : decode cX12_apart 44 = .ok (.aload_n 0, 1) := by decide +kernel
theorem dX12_apart_45 : decode cX12_apart 45 = .ok (.getfield 37, 3) := by decide +kernel
theorem dX12_apart_48 : decode cX12_apart 48 = .ok (.iconst 0, 1) := by decide +kernel
theorem dX12_apart_49 : decode cX12_apart 49 = .ok (.iload_n 3, 1) := by decide +kernel
theorem dX12_apart_50 : decode cX12_apart 50 = .ok (.iastore, 1) := by decide +kernel
theorem dX12_apart_51 : decode cX12_apart 51 = .ok (.iconst 1, 1) := by decide +kernel
theorem dX12_apart_52 : decode cX12_apart 52 = .ok (.istore 4, 2) := by decide +kernel
theorem dX12_apart_54 : decode cX12_apart 54 = .ok (.iload 4, 2) := by decide +kernel
theorem dX12_apart_56 : decode cX12_apart 56 = .ok (.iload_n 2, 1) := by decide +kernel
theorem dX12_apart_57 : decode cX12_apart 57 = .ok (.if_icmp .gt 82, 3) := by decide +kernel
theorem dX12_apart_60 : decode cX12_apart 60 = .ok (.aload_n 0, 1) := by decide +kernel
theorem dX12_apart_61 : decode cX12_apart 61 = .ok (.getfield 37, 3) := by decide +kernel
theorem dX12_apart_64 : decode cX12_apart 64 = .ok (.iload 4, 2) := by decide +kernel
theorem dX12_apart_66 : decode cX12_apart 66 = .ok (.aload_n 0, 1) := by decide +kernel
theorem dX12_apart_67 : decode cX12_apart 67 = .ok (.getfield 34, 3) := by decide +kernel
theorem dX12_apart_70 : decode cX12_apart 70 = .ok (.iload 4, 2) := by decide +kernel
theorem dX12_apart_72 : decode cX12_apart 72 = .ok (.iaload, 1) := by decide +kernel
theorem dX12_apart_73 : decode cX12_apart 73 = .ok (.aload_n 0, 1) := by decide +kernel
theorem dX12_apart_74 : decode cX12_apart 74 = .ok (.getfield 37, 3) := by decide +kernel
theorem dX12_apart_77 : decode cX12_apart 77 = .ok (.iload 4, 2) := by decide +kernel
theorem dX12_apart_79 : decode cX12_apart 79 = .ok (.iconst 1, 1) := by decide +kernel
theorem dX12_apart_80 : decode cX12_apart 80 = .ok (.isub, 1) := by decide +kernel
theorem dX12_apart_81 : decode cX12_apart 81 = .ok (.iaload, 1) := by decide +kernel
theorem dX12_apart_82 : decode cX12_apart 82 = .ok (.invokestatic 140, 3) := by decide +kernel
theorem dX12_apart_85 : decode cX12_apart 85 = .ok (.iconst 1, 1) := by decide +kernel
theorem dX12_apart_86 : decode cX12_apart 86 = .ok (.iadd, 1) := by decide +kernel
theorem dX12_apart_87 : decode cX12_apart 87 = .ok (.aload_n 0, 1) := by decide +kernel
theorem dX12_apart_88 : decode cX12_apart 88 = .ok (.getfield 34, 3) := by decide +kernel
theorem dX12_apart_91 : decode cX12_apart 91 = .ok (.iload 4, 2) := by decide +kernel
theorem dX12_apart_93 : decode cX12_apart 93 = .ok (.iconst 1, 1) := by decide +kernel
theorem dX12_apart_94 : decode cX12_apart 94 = .ok (.isub, 1) := by decide +kernel
theorem dX12_apart_95 : decode cX12_apart 95 = .ok (.iaload, 1) := by decide +kernel
theorem dX12_apart_96 : decode cX12_apart 96 = .ok (.aload_n 0, 1) := by decide +kernel
theorem dX12_apart_97 : decode cX12_apart 97 = .ok (.getfield 19, 3) := by decide +kernel
theorem dX12_apart_100 : decode cX12_apart 100 = .ok (.iload_n 3, 1) := by decide +kernel
theorem dX12_apart_101 : decode cX12_apart 101 = .ok (.iconst 1, 1) := by decide +kernel
theorem dX12_apart_102 : decode cX12_apart 102 = .ok (.isub, 1) := by decide +kernel
theorem dX12_apart_103 : decode cX12_apart 103 = .ok (.iaload, 1) := by decide +kernel
theorem dX12_apart_104 : decode cX12_apart 104 = .ok (.aload_n 0, 1) := by decide +kernel
theorem dX12_apart_105 : decode cX12_apart 105 = .ok (.getfield 25, 3) := by decide +kernel
theorem dX12_apart_108 : decode cX12_apart 108 = .ok (.aload_n 0, 1) := by decide +kernel
theorem dX12_apart_109 : decode cX12_apart 109 = .ok (.getfield 28, 3) := by decide +kernel
theorem dX12_apart_112 : decode cX12_apart 112 = .ok (.iload_n 1, 1) := by decide +kernel
theorem dX12_apart_113 : decode cX12_apart 113 = .ok (.iaload, 1) := by decide +kernel
theorem dX12_apart_114 : decode cX12_apart 114 = .ok (.iload 4, 2) := by decide +kernel
theorem dX12_apart_116 : decode cX12_apart 116 = .ok (.iadd, 1) := by decide +kernel
theorem dX12_apart_117 : decode cX12_apart 117 = .ok (.iconst 1, 1) := by decide +kernel
theorem dX12_apart_118 : decode cX12_apart 118 = .ok (.isub, 1) := by decide +kernel
theorem dX12_apart_119 : decode cX12_apart 119 = .ok (.iaload, 1) := by decide +kernel
theorem dX12_apart_120 : decode cX12_apart 120 = .ok (.if_icmp .ne 7, 3) := by decide +kernel
theorem dX12_apart_123 : decode cX12_apart 123 = .ok (.iconst 0, 1) := by decide +kernel
theorem dX12_apart_124 : decode cX12_apart 124 = .ok (.goto 4, 3) := by decide +kernel
theorem dX12_apart_127 : decode cX12_apart 127 = .ok (.iconst 1, 1) := by decide +kernel
theorem dX12_apart_128 : decode cX12_apart 128 = .ok (.iadd, 1) := by decide +kernel
theorem dX12_apart_129 : decode cX12_apart 129 = .ok (.invokestatic 140, 3) := by decide +kernel
theorem dX12_apart_132 : decode cX12_apart 132 = .ok (.iastore, 1) := by decide +kernel
theorem dX12_apart_133 : decode cX12_apart 133 = .ok (.iinc 4 1, 3) := by decide +kernel
theorem dX12_apart_136 : decode cX12_apart 136 = .ok (.goto (-82), 3) := by decide +kernel
theorem dX12_apart_139 : decode cX12_apart 139 = .ok (.iconst 0, 1) := by decide +kernel
theorem dX12_apart_140 : decode cX12_apart 140 = .ok (.istore 4, 2) := by decide +kernel
theorem dX12_apart_142 : decode cX12_apart 142 = .ok (.iload 4, 2) := by decide +kernel
theorem dX12_apart_144 : decode cX12_apart 144 = .ok (.iload_n 2, 1) := by decide +kernel
theorem dX12_apart_145 : decode cX12_apart 145 = .ok (.if_icmp .gt 23, 3) := by decide +kernel
theorem dX12_apart_148 : decode cX12_apart 148 = .ok (.aload_n 0, 1) := by decide +kernel
theorem dX12_apart_149 : decode cX12_apart 149 = .ok (.getfield 34, 3) := by decide +kernel
theorem dX12_apart_152 : decode cX12_apart 152 = .ok (.iload 4, 2) := by decide +kernel
theorem dX12_apart_154 : decode cX12_apart 154 = .ok (.aload_n 0, 1) := by decide +kernel
theorem dX12_apart_155 : decode cX12_apart 155 = .ok (.getfield 37, 3) := by decide +kernel
theorem dX12_apart_158 : decode cX12_apart 158 = .ok (.iload 4, 2) := by decide +kernel
theorem dX12_apart_160 : decode cX12_apart 160 = .ok (.iaload, 1) := by decide +kernel
theorem dX12_apart_161 : decode cX12_apart 161 = .ok (.iastore, 1) := by decide +kernel
theorem dX12_apart_162 : decode cX12_apart 162 = .ok (.iinc 4 1, 3) := by decide +kernel
theorem dX12_apart_165 : decode cX12_apart 165 = .ok (.goto (-23), 3) := by decide +kernel
theorem dX12_apart_168 : decode cX12_apart 168 = .ok (.iinc 3 1, 3) := by decide +kernel
theorem dX12_apart_171 : decode cX12_apart 171 = .ok (.goto (-135), 3) := by decide +kernel
theorem dX12_apart_174 : decode cX12_apart 174 = .ok (.aload_n 0, 1) := by decide +kernel
theorem dX12_apart_175 : decode cX12_apart 175 = .ok (.getfield 34, 3) := by decide +kernel
theorem dX12_apart_178 : decode cX12_apart 178 = .ok (.iload_n 2, 1) := by decide +kernel
theorem dX12_apart_179 : decode cX12_apart 179 = .ok (.iaload, 1) := by decide +kernel
theorem dX12_apart_180 : decode cX12_apart 180 = .ok (.ireturn, 1) := by decide +kernel
theorem dX12_atHole_0 : decode cX12_atHole 0 = .ok (.iload 6, 2) := by decide +kernel
theorem dX12_atHole_2 : decode cX12_atHole 2 = .ok (.ifCond .eq 8, 3) := by decide +kernel
theorem dX12_atHole_5 : decode cX12_atHole 5 = .ok (.ldc 207, 2) := by decide +kernel
theorem dX12_atHole_7 : decode cX12_atHole 7 = .ok (.goto 4, 3) := by decide +kernel
theorem dX12_atHole_10 : decode cX12_atHole 10 = .ok (.iconst 0, 1) := by decide +kernel
theorem dX12_atHole_11 : decode cX12_atHole 11 = .ok (.istore 7, 2) := by decide +kernel
theorem dX12_atHole_13 : decode cX12_atHole 13 = .ok (.iconst 0, 1) := by decide +kernel
theorem dX12_atHole_14 : decode cX12_atHole 14 = .ok (.istore 8, 2) := by decide +kernel
theorem dX12_atHole_16 : decode cX12_atHole 16 = .ok (.iload 8, 2) := by decide +kernel
theorem dX12_atHole_18 : decode cX12_atHole 18 = .ok (.aload_n 0, 1) := by decide +kernel
theorem dX12_atHole_19 : decode cX12_atHole 19 = .ok (.getfield 9, 3) := by decide +kernel
theorem dX12_atHole_22 : decode cX12_atHole 22 = .ok (.iconst 0, 1) := by decide +kernel
theorem dX12_atHole_23 : decode cX12_atHole 23 = .ok (.iaload, 1) := by decide +kernel
theorem dX12_atHole_24 : decode cX12_atHole 24 = .ok (.if_icmp .ge 76, 3) := by decide +kernel
theorem dX12_atHole_27 : decode cX12_atHole 27 = .ok (.aload_n 0, 1) := by decide +kernel
theorem dX12_atHole_28 : decode cX12_atHole 28 = .ok (.iload_n 1, 1) := by decide +kernel
theorem dX12_atHole_29 : decode cX12_atHole 29 = .ok (.iload_n 2, 1) := by decide +kernel
theorem dX12_atHole_30 : decode cX12_atHole 30 = .ok (.iload 8, 2) := by decide +kernel
theorem dX12_atHole_32 : decode cX12_atHole 32 = .ok (.invokevirtual 148, 3) := by decide +kernel
theorem dX12_atHole_35 : decode cX12_atHole 35 = .ok (.ifCond .ne 6, 3) := by decide +kernel
theorem dX12_atHole_38 : decode cX12_atHole 38 = .ok (.goto 56, 3) := by decide +kernel
theorem dX12_atHole_41 : decode cX12_atHole 41 = .ok (.aload_n 0, 1) := by decide +kernel
theorem dX12_atHole_42 : decode cX12_atHole 42 = .ok (.iload 8, 2) := by decide +kernel
theorem dX12_atHole_44 : decode cX12_atHole 44 = .ok (.iconst 0, 1) := by decide +kernel
theorem dX12_atHole_45 : decode cX12_atHole 45 = .ok (.aload_n 0, 1) := by decide +kernel
theorem dX12_atHole_46 : decode cX12_atHole 46 = .ok (.iload_n 1, 1) := by decide +kernel
theorem dX12_atHole_47 : decode cX12_atHole 47 = .ok (.iload_n 2, 1) := by decide +kernel
theorem dX12_atHole_48 : decode cX12_atHole 48 = .ok (.iconst 2, 1) := by decide +kernel
theorem dX12_atHole_49 : decode cX12_atHole 49 = .ok (.invokevirtual 115, 3) := by decide +kernel
theorem dX12_atHole_52 : decode cX12_atHole 52 = .ok (.invokestatic 163, 3) := by decide +kernel
theorem dX12_atHole_55 : decode cX12_atHole 55 = .ok (.iload_n 3, 1) := by decide +kernel
theorem dX12_atHole_56 : decode cX12_atHole 56 = .ok (.iload 4, 2) := by decide +kernel
theorem dX12_atHole_58 : decode cX12_atHole 58 = .ok (.iload 5, 2) := by decide +kernel
theorem dX12_atHole_60 : decode cX12_atHole 60 = .ok (.invokevirtual 111, 3) := by decide +kernel
theorem dX12_atHole_63 : decode cX12_atHole 63 = .ok (.iload 6, 2) := by decide +kernel
theorem dX12_atHole_65 : decode cX12_atHole 65 = .ok (.ifCond .eq 18, 3) := by decide +kernel
theorem dX12_atHole_68 : decode cX12_atHole 68 = .ok (.iload 7, 2) := by decide +kernel
theorem dX12_atHole_70 : decode cX12_atHole 70 = .ok (.aload_n 0, 1) := by decide +kernel
theorem dX12_atHole_71 : decode cX12_atHole 71 = .ok (.iload_n 2, 1) := by decide +kernel
theorem dX12_atHole_72 : decode cX12_atHole 72 = .ok (.invokevirtual 208, 3) := by decide +kernel
theorem dX12_atHole_75 : decode cX12_atHole 75 = .ok (.invokestatic 140, 3) := by decide +kernel
theorem dX12_atHole_78 : decode cX12_atHole 78 = .ok (.istore 7, 2) := by decide +kernel
theorem dX12_atHole_80 : decode cX12_atHole 80 = .ok (.goto 14, 3) := by decide +kernel
theorem dX12_atHole_83 : decode cX12_atHole 83 = .ok (.aload_n 0, 1) := by decide +kernel
theorem dX12_atHole_84 : decode cX12_atHole 84 = .ok (.iload_n 2, 1) := by decide +kernel
theorem dX12_atHole_85 : decode cX12_atHole 85 = .ok (.invokevirtual 211, 3) := by decide +kernel
theorem dX12_atHole_88 : decode cX12_atHole 88 = .ok (.ifCond .eq 6, 3) := by decide +kernel
theorem dX12_atHole_91 : decode cX12_atHole 91 = .ok (.iinc 7 1, 3) := by decide +kernel
theorem dX12_atHole_94 : decode cX12_atHole 94 = .ok (.iinc 8 1, 3) := by decide +kernel
theorem dX12_atHole_97 : decode cX12_atHole 97 = .ok (.goto (-81), 3) := by decide +kernel
theorem dX12_atHole_100 : decode cX12_atHole 100 = .ok (.iload 7, 2) := by decide +kernel
theorem dX12_atHole_102 : decode cX12_atHole 102 = .ok (.ireturn, 1) := by decide +kernel
theorem dX12_byNoun_0 : decode cX12_byNoun 0 = .ok (.aload_n 0, 1) := by decide +kernel
theorem dX12_byNoun_1 : decode cX12_byNoun 1 = .ok (.iload_n 1, 1) := by decide +kernel
theorem dX12_byNoun_2 : decode cX12_byNoun 2 = .ok (.iload_n 2, 1) := by decide +kernel
theorem dX12_byNoun_3 : decode cX12_byNoun 3 = .ok (.invokevirtual 160, 3) := by decide +kernel
theorem dX12_byNoun_6 : decode cX12_byNoun 6 = .ok (.istore 7, 2) := by decide +kernel
theorem dX12_byNoun_8 : decode cX12_byNoun 8 = .ok (.aload_n 0, 1) := by decide +kernel
theorem dX12_byNoun_9 : decode cX12_byNoun 9 = .ok (.iload_n 3, 1) := by decide +kernel
theorem dX12_byNoun_10 : decode cX12_byNoun 10 = .ok (.aload_n 0, 1) := by decide +kernel
theorem dX12_byNoun_11 : decode cX12_byNoun 11 = .ok (.iload_n 1, 1) := by decide +kernel
theorem dX12_byNoun_12 : decode cX12_byNoun 12 = .ok (.iload 7, 2) := by decide +kernel
theorem dX12_byNoun_14 : decode cX12_byNoun 14 = .ok (.iconst 2, 1) := by decide +kernel
theorem dX12_byNoun_15 : decode cX12_byNoun 15 = .ok (.invokevirtual 115, 3) := by decide +kernel
theorem dX12_byNoun_18 : decode cX12_byNoun 18 = .ok (.iload 4, 2) := by decide +kernel
theorem dX12_byNoun_20 : decode cX12_byNoun 20 = .ok (.aload_n 0, 1) := by decide +kernel
theorem dX12_byNoun_21 : decode cX12_byNoun 21 = .ok (.iload_n 3, 1) := by decide +kernel
theorem dX12_byNoun_22 : decode cX12_byNoun 22 = .ok (.invokevirtual 108, 3) := by decide +kernel
theorem dX12_byNoun_25 : decode cX12_byNoun 25 = .ok (.iload 5, 2) := by decide +kernel
theorem dX12_byNoun_27 : decode cX12_byNoun 27 = .ok (.invokevirtual 111, 3) := by decide +kernel
theorem dX12_byNoun_30 : decode cX12_byNoun 30 = .ok (.iload 6, 2) := by decide +kernel
theorem dX12_byNoun_32 : decode cX12_byNoun 32 = .ok (.ifCond .eq 12, 3) := by decide +kernel
theorem dX12_byNoun_35 : decode cX12_byNoun 35 = .ok (.aload_n 0, 1) := by decide +kernel
theorem dX12_byNoun_36 : decode cX12_byNoun 36 = .ok (.iload 7, 2) := by decide +kernel
theorem dX12_byNoun_38 : decode cX12_byNoun 38 = .ok (.invokevirtual 208, 3) := by decide +kernel
theorem dX12_byNoun_41 : decode cX12_byNoun 41 = .ok (.goto 17, 3) := by decide +kernel
theorem dX12_byNoun_44 : decode cX12_byNoun 44 = .ok (.aload_n 0, 1) := by decide +kernel
theorem dX12_byNoun_45 : decode cX12_byNoun 45 = .ok (.iload 7, 2) := by decide +kernel
theorem dX12_byNoun_47 : decode cX12_byNoun 47 = .ok (.invokevirtual 211, 3) := by decide +kernel
theorem dX12_byNoun_50 : decode cX12_byNoun 50 = .ok (.ifCond .eq 7, 3) := by decide +kernel
theorem dX12_byNoun_53 : decode cX12_byNoun 53 = .ok (.iconst 1, 1) := by decide +kernel
theorem dX12_byNoun_54 : decode cX12_byNoun 54 = .ok (.goto 4, 3) := by decide +kernel
theorem dX12_byNoun_57 : decode cX12_byNoun 57 = .ok (.iconst 0, 1) := by decide +kernel
theorem dX12_byNoun_58 : decode cX12_byNoun 58 = .ok (.istore 8, 2) := by decide +kernel
theorem dX12_byNoun_60 : decode cX12_byNoun 60 = .ok (.iconst 0, 1) := by decide +kernel
theorem dX12_byNoun_61 : decode cX12_byNoun 61 = .ok (.istore 9, 2) := by decide +kernel
theorem dX12_byNoun_63 : decode cX12_byNoun 63 = .ok (.iload 9, 2) := by decide +kernel
theorem dX12_byNoun_65 : decode cX12_byNoun 65 = .ok (.aload_n 0, 1) := by decide +kernel
theorem dX12_byNoun_66 : decode cX12_byNoun 66 = .ok (.iload_n 1, 1) := by decide +kernel
theorem dX12_byNoun_67 : decode cX12_byNoun 67 = .ok (.invokevirtual 154, 3) := by decide +kernel
theorem dX12_byNoun_70 : decode cX12_byNoun 70 = .ok (.if_icmp .ge 81, 3) := by decide +kernel
theorem dX12_byNoun_73 : decode cX12_byNoun 73 = .ok (.iload 6, 2) := by decide +kernel
theorem dX12_byNoun_75 : decode cX12_byNoun 75 = .ok (.ifCond .ne 8, 3) := by decide +kernel
theorem dX12_byNoun_78 : decode cX12_byNoun 78 = .ok (.iload 8, 2) := by decide +kernel
theorem dX12_byNoun_80 : decode cX12_byNoun 80 = .ok (.ifCond .le 71, 3) := by decide +kernel
theorem dX12_byNoun_83 : decode cX12_byNoun 83 = .ok (.iload 9, 2) := by decide +kernel
theorem dX12_byNoun_85 : decode cX12_byNoun 85 = .ok (.iload 7, 2) := by decide +kernel
theorem dX12_byNoun_87 : decode cX12_byNoun 87 = .ok (.if_icmp .eq 58, 3) := by decide +kernel
theorem dX12_byNoun_90 : decode cX12_byNoun 90 = .ok (.aload_n 0, 1) := by decide +kernel
theorem dX12_byNoun_91 : decode cX12_byNoun 91 = .ok (.iload_n 1, 1) := by decide +kernel
theorem dX12_byNoun_92 : decode cX12_byNoun 92 = .ok (.iload 9, 2) := by decide +kernel
theorem dX12_byNoun_94 : decode cX12_byNoun 94 = .ok (.iconst 1, 1) := by decide +kernel
theorem dX12_byNoun_95 : decode cX12_byNoun 95 = .ok (.invokevirtual 115, 3) := by decide +kernel
theorem dX12_byNoun_98 : decode cX12_byNoun 98 = .ok (.iload_n 2, 1) := by decide +kernel
theorem dX12_byNoun_99 : decode cX12_byNoun 99 = .ok (.if_icmp .eq 6, 3) := by decide +kernel
theorem dX12_byNoun_102 : decode cX12_byNoun 102 = .ok (.goto 43, 3) := by decide +kernel
theorem dX12_byNoun_105 : decode cX12_byNoun 105 = .ok (.aload_n 0, 1) := by decide +kernel
theorem dX12_byNoun_106 : decode cX12_byNoun 106 = .ok (.iload_n 1, 1) := by decide +kernel
theorem dX12_byNoun_107 : decode cX12_byNoun 107 = .ok (.iload 9, 2) := by decide +kernel
theorem dX12_byNoun_109 : decode cX12_byNoun 109 = .ok (.iload 4, 2) := by decide +kernel
theorem dX12_byNoun_111 : decode cX12_byNoun 111 = .ok (.aload_n 0, 1) := by decide +kernel
theorem dX12_byNoun_112 : decode cX12_byNoun 112 = .ok (.iload_n 3, 1) := by decide +kernel
theorem dX12_byNoun_113 : decode cX12_byNoun 113 = .ok (.invokevirtual 108, 3) := by decide +kernel
theorem dX12_byNoun_116 : decode cX12_byNoun 116 = .ok (.iload 5, 2) := by decide +kernel
theorem dX12_byNoun_118 : decode cX12_byNoun 118 = .ok (.iload 6, 2) := by decide +kernel
theorem dX12_byNoun_120 : decode cX12_byNoun 120 = .ok (.invokevirtual 214, 3) := by decide +kernel
theorem dX12_byNoun_123 : decode cX12_byNoun 123 = .ok (.istore 10, 2) := by decide +kernel
theorem dX12_byNoun_125 : decode cX12_byNoun 125 = .ok (.iload 6, 2) := by decide +kernel
theorem dX12_byNoun_127 : decode cX12_byNoun 127 = .ok (.ifCond .eq 11, 3) := by decide +kernel
theorem dX12_byNoun_130 : decode cX12_byNoun 130 = .ok (.iload 8, 2) := by decide +kernel
theorem dX12_byNoun_132 : decode cX12_byNoun 132 = .ok (.iload 10, 2) := by decide +kernel
theorem dX12_byNoun_134 : decode cX12_byNoun 134 = .ok (.iadd, 1) := by decide +kernel
theorem dX12_byNoun_135 : decode cX12_byNoun 135 = .ok (.goto 8, 3) := by decide +kernel
theorem dX12_byNoun_138 : decode cX12_byNoun 138 = .ok (.iload 8, 2) := by decide +kernel
theorem dX12_byNoun_140 : decode cX12_byNoun 140 = .ok (.iload 10, 2) := by decide +kernel
theorem dX12_byNoun_142 : decode cX12_byNoun 142 = .ok (.imul, 1) := by decide +kernel
theorem dX12_byNoun_143 : decode cX12_byNoun 143 = .ok (.istore 8, 2) := by decide +kernel
theorem dX12_byNoun_145 : decode cX12_byNoun 145 = .ok (.iinc 9 1, 3) := by decide +kernel
theorem dX12_byNoun_148 : decode cX12_byNoun 148 = .ok (.goto (-85), 3) := by decide +kernel
theorem dX12_byNoun_151 : decode cX12_byNoun 151 = .ok (.iload 8, 2) := by decide +kernel
theorem dX12_byNoun_153 : decode cX12_byNoun 153 = .ok (.ireturn, 1) := by decide +kernel
theorem dX12_byGroup_0 : decode cX12_byGroup 0 = .ok (.iload 4, 2) := by decide +kernel
theorem dX12_byGroup_2 : decode cX12_byGroup 2 = .ok (.ifCond .eq 8, 3) := by decide +kernel
theorem dX12_byGroup_5 : decode cX12_byGroup 5 = .ok (.ldc 207, 2) := by decide +kernel
theorem dX12_byGroup_7 : decode cX12_byGroup 7 = .ok (.goto 4, 3) := by decide +kernel
theorem dX12_byGroup_10 : decode cX12_byGroup 10 = .ok (.iconst 0, 1) := by decide +kernel
theorem dX12_byGroup_11 : decode cX12_byGroup 11 = .ok (.istore 5, 2) := by decide +kernel
theorem dX12_byGroup_13 : decode cX12_byGroup 13 = .ok (.iconst 0, 1) := by decide +kernel
theorem dX12_byGroup_14 : decode cX12_byGroup 14 = .ok (.istore 6, 2) := by decide +kernel
theorem dX12_byGroup_16 : decode cX12_byGroup 16 = .ok (.iload 6, 2) := by decide +kernel
theorem dX12_byGroup_18 : decode cX12_byGroup 18 = .ok (.aload_n 0, 1) := by decide +kernel
theorem dX12_byGroup_19 : decode cX12_byGroup 19 = .ok (.getfield 9, 3) := by decide +kernel
theorem dX12_byGroup_22 : decode cX12_byGroup 22 = .ok (.iconst 0, 1) := by decide +kernel
theorem dX12_byGroup_23 : decode cX12_byGroup 23 = .ok (.iaload, 1) := by decide +kernel
theorem dX12_byGroup_24 : decode cX12_byGroup 24 = .ok (.if_icmp .ge 94, 3) := by decide +kernel
theorem dX12_byGroup_27 : decode cX12_byGroup 27 = .ok (.aload_n 0, 1) := by decide +kernel
theorem dX12_byGroup_28 : decode cX12_byGroup 28 = .ok (.iload_n 1, 1) := by decide +kernel
theorem dX12_byGroup_29 : decode cX12_byGroup 29 = .ok (.aload_n 0, 1) := by decide +kernel
theorem dX12_byGroup_30 : decode cX12_byGroup 30 = .ok (.iload_n 1, 1) := by decide +kernel
theorem dX12_byGroup_31 : decode cX12_byGroup 31 = .ok (.iload_n 2, 1) := by decide +kernel
theorem dX12_byGroup_32 : decode cX12_byGroup 32 = .ok (.invokevirtual 160, 3) := by decide +kernel
theorem dX12_byGroup_35 : decode cX12_byGroup 35 = .ok (.iload 6, 2) := by decide +kernel
theorem dX12_byGroup_37 : decode cX12_byGroup 37 = .ok (.invokevirtual 148, 3) := by decide +kernel
theorem dX12_byGroup_40 : decode cX12_byGroup 40 = .ok (.ifCond .ne 6, 3) := by decide +kernel
theorem dX12_byGroup_43 : decode cX12_byGroup 43 = .ok (.goto 69, 3) := by decide +kernel
theorem dX12_byGroup_46 : decode cX12_byGroup 46 = .ok (.iconst 0, 1) := by decide +kernel
theorem dX12_byGroup_47 : decode cX12_byGroup 47 = .ok (.istore 7, 2) := by decide +kernel
theorem dX12_byGroup_49 : decode cX12_byGroup 49 = .ok (.iload 7, 2) := by decide +kernel
theorem dX12_byGroup_51 : decode cX12_byGroup 51 = .ok (.aload_n 0, 1) := by decide +kernel
theorem dX12_byGroup_52 : decode cX12_byGroup 52 = .ok (.iload 6, 2) := by decide +kernel
theorem dX12_byGroup_54 : decode cX12_byGroup 54 = .ok (.invokevirtual 101, 3) := by decide +kernel
theorem dX12_byGroup_57 : decode cX12_byGroup 57 = .ok (.iconst 3, 1) := by decide +kernel
theorem dX12_byGroup_58 : decode cX12_byGroup 58 = .ok (.if_icmp .ne 7, 3) := by decide +kernel
theorem dX12_byGroup_61 : decode cX12_byGroup 61 = .ok (.iconst 1, 1) := by decide +kernel
theorem dX12_byGroup_62 : decode cX12_byGroup 62 = .ok (.goto 4, 3) := by decide +kernel
theorem dX12_byGroup_65 : decode cX12_byGroup 65 = .ok (.iconst 2, 1) := by decide +kernel
theorem dX12_byGroup_66 : decode cX12_byGroup 66 = .ok (.if_icmp .ge 46, 3) := by decide +kernel
theorem dX12_byGroup_69 : decode cX12_byGroup 69 = .ok (.aload_n 0, 1) := by decide +kernel
theorem dX12_byGroup_70 : decode cX12_byGroup 70 = .ok (.iload_n 1, 1) := by decide +kernel
theorem dX12_byGroup_71 : decode cX12_byGroup 71 = .ok (.iload_n 2, 1) := by decide +kernel
theorem dX12_byGroup_72 : decode cX12_byGroup 72 = .ok (.iload 6, 2) := by decide +kernel
theorem dX12_byGroup_74 : decode cX12_byGroup 74 = .ok (.iload 7, 2) := by decide +kernel
theorem dX12_byGroup_76 : decode cX12_byGroup 76 = .ok (.iload_n 3, 1) := by decide +kernel
theorem dX12_byGroup_77 : decode cX12_byGroup 77 = .ok (.iload 4, 2) := by decide +kernel
theorem dX12_byGroup_79 : decode cX12_byGroup 79 = .ok (.invokevirtual 218, 3) := by decide +kernel
theorem dX12_byGroup_82 : decode cX12_byGroup 82 = .ok (.istore 8, 2) := by decide +kernel
theorem dX12_byGroup_84 : decode cX12_byGroup 84 = .ok (.iload 4, 2) := by decide +kernel
theorem dX12_byGroup_86 : decode cX12_byGroup 86 = .ok (.ifCond .eq 13, 3) := by decide +kernel
theorem dX12_byGroup_89 : decode cX12_byGroup 89 = .ok (.iload 5, 2) := by decide +kernel
theorem dX12_byGroup_91 : decode cX12_byGroup 91 = .ok (.iload 8, 2) := by decide +kernel
theorem dX12_byGroup_93 : decode cX12_byGroup 93 = .ok (.invokestatic 140, 3) := by decide +kernel
theorem dX12_byGroup_96 : decode cX12_byGroup 96 = .ok (.goto 8, 3) := by decide +kernel
theorem dX12_byGroup_99 : decode cX12_byGroup 99 = .ok (.iload 5, 2) := by decide +kernel
theorem dX12_byGroup_101 : decode cX12_byGroup 101 = .ok (.iload 8, 2) := by decide +kernel
theorem dX12_byGroup_103 : decode cX12_byGroup 103 = .ok (.iadd, 1) := by decide +kernel
theorem dX12_byGroup_104 : decode cX12_byGroup 104 = .ok (.istore 5, 2) := by decide +kernel
theorem dX12_byGroup_106 : decode cX12_byGroup 106 = .ok (.iinc 7 1, 3) := by decide +kernel
theorem dX12_byGroup_109 : decode cX12_byGroup 109 = .ok (.goto (-60), 3) := by decide +kernel
theorem dX12_byGroup_112 : decode cX12_byGroup 112 = .ok (.iinc 6 1, 3) := by decide +kernel
theorem dX12_byGroup_115 : decode cX12_byGroup 115 = .ok (.goto (-99), 3) := by decide +kernel
theorem dX12_byGroup_118 : decode cX12_byGroup 118 = .ok (.iload 5, 2) := by decide +kernel
theorem dX12_byGroup_120 : decode cX12_byGroup 120 = .ok (.ireturn, 1) := by decide +kernel
theorem dX12_byFrame_0 : decode cX12_byFrame 0 = .ok (.iload_n 3, 1) := by decide +kernel
theorem dX12_byFrame_1 : decode cX12_byFrame 1 = .ok (.ifCond .eq 7, 3) := by decide +kernel
theorem dX12_byFrame_4 : decode cX12_byFrame 4 = .ok (.iconst 0, 1) := by decide +kernel
theorem dX12_byFrame_5 : decode cX12_byFrame 5 = .ok (.goto 4, 3) := by decide +kernel
theorem dX12_byFrame_8 : decode cX12_byFrame 8 = .ok (.iconst 1, 1) := by decide +kernel
theorem dX12_byFrame_9 : decode cX12_byFrame 9 = .ok (.istore 4, 2) := by decide +kernel
theorem dX12_byFrame_11 : decode cX12_byFrame 11 = .ok (.iconst 0, 1) := by decide +kernel
theorem dX12_byFrame_12 : decode cX12_byFrame 12 = .ok (.istore 5, 2) := by decide +kernel
theorem dX12_byFrame_14 : decode cX12_byFrame 14 = .ok (.iload 5, 2) := by decide +kernel
theorem dX12_byFrame_16 : decode cX12_byFrame 16 = .ok (.aload_n 0, 1) := by decide +kernel
theorem dX12_byFrame_17 : decode cX12_byFrame 17 = .ok (.iload_n 1, 1) := by decide +kernel
theorem dX12_byFrame_18 : decode cX12_byFrame 18 = .ok (.invokevirtual 154, 3) := by decide +kernel
theorem dX12_byFrame_21 : decode cX12_byFrame 21 = .ok (.if_icmp .ge 101, 3) := by decide +kernel
theorem dX12_byFrame_24 : decode cX12_byFrame 24 = .ok (.aload_n 0, 1) := by decide +kernel
theorem dX12_byFrame_25 : decode cX12_byFrame 25 = .ok (.iload_n 1, 1) := by decide +kernel
theorem dX12_byFrame_26 : decode cX12_byFrame 26 = .ok (.iload 5, 2) := by decide +kernel
theorem dX12_byFrame_28 : decode cX12_byFrame 28 = .ok (.iconst 0, 1) := by decide +kernel
theorem dX12_byFrame_29 : decode cX12_byFrame 29 = .ok (.invokevirtual 115, 3) := by decide +kernel
theorem dX12_byFrame_32 : decode cX12_byFrame 32 = .ok (.bipush 110, 2) := by decide +kernel
theorem dX12_byFrame_34 : decode cX12_byFrame 34 = .ok (.if_icmp .eq 19, 3) := by decide +kernel
theorem dX12_byFrame_37 : decode cX12_byFrame 37 = .ok (.aload_n 0, 1) := by decide +kernel
theorem dX12_byFrame_38 : decode cX12_byFrame 38 = .ok (.iload_n 1, 1) := by decide +kernel
theorem dX12_byFrame_39 : decode cX12_byFrame 39 = .ok (.iload 5, 2) := by decide +kernel
theorem dX12_byFrame_41 : decode cX12_byFrame 41 = .ok (.iconst 0, 1) := by decide +kernel
theorem dX12_byFrame_42 : decode cX12_byFrame 42 = .ok (.invokevirtual 115, 3) := by decide +kernel
theorem dX12_byFrame_45 : decode cX12_byFrame 45 = .ok (.bipush 112, 2) := by decide +kernel
theorem dX12_byFrame_47 : decode cX12_byFrame 47 = .ok (.if_icmp .eq 6, 3) := by decide +kernel
theorem dX12_byFrame_50 : decode cX12_byFrame 50 = .ok (.goto 66, 3) := by decide +kernel
theorem dX12_byFrame_53 : decode cX12_byFrame 53 = .ok (.aload_n 0, 1) := by decide +kernel
theorem dX12_byFrame_54 : decode cX12_byFrame 54 = .ok (.iload_n 1, 1) := by decide +kernel
theorem dX12_byFrame_55 : decode cX12_byFrame 55 = .ok (.iload 5, 2) := by decide +kernel
theorem dX12_byFrame_57 : decode cX12_byFrame 57 = .ok (.iconst 0, 1) := by decide +kernel
theorem dX12_byFrame_58 : decode cX12_byFrame 58 = .ok (.invokevirtual 115, 3) := by decide +kernel
theorem dX12_byFrame_61 : decode cX12_byFrame 61 = .ok (.bipush 112, 2) := by decide +kernel
theorem dX12_byFrame_63 : decode cX12_byFrame 63 = .ok (.if_icmp .ne 17, 3) := by decide +kernel
theorem dX12_byFrame_66 : decode cX12_byFrame 66 = .ok (.aload_n 0, 1) := by decide +kernel
theorem dX12_byFrame_67 : decode cX12_byFrame 67 = .ok (.iload_n 1, 1) := by decide +kernel
theorem dX12_byFrame_68 : decode cX12_byFrame 68 = .ok (.iload 5, 2) := by decide +kernel
theorem dX12_byFrame_70 : decode cX12_byFrame 70 = .ok (.iconst 0, 1) := by decide +kernel
theorem dX12_byFrame_71 : decode cX12_byFrame 71 = .ok (.iconst 0, 1) := by decide +kernel
theorem dX12_byFrame_72 : decode cX12_byFrame 72 = .ok (.iconst 0, 1) := by decide +kernel
theorem dX12_byFrame_73 : decode cX12_byFrame 73 = .ok (.iload_n 3, 1) := by decide +kernel
theorem dX12_byFrame_74 : decode cX12_byFrame 74 = .ok (.invokevirtual 214, 3) := by decide +kernel
theorem dX12_byFrame_77 : decode cX12_byFrame 77 = .ok (.goto 18, 3) := by decide +kernel
theorem dX12_byFrame_80 : decode cX12_byFrame 80 = .ok (.aload_n 0, 1) := by decide +kernel
theorem dX12_byFrame_81 : decode cX12_byFrame 81 = .ok (.iload_n 1, 1) := by decide +kernel
theorem dX12_byFrame_82 : decode cX12_byFrame 82 = .ok (.aload_n 0, 1) := by decide +kernel
theorem dX12_byFrame_83 : decode cX12_byFrame 83 = .ok (.iload_n 1, 1) := by decide +kernel
theorem dX12_byFrame_84 : decode cX12_byFrame 84 = .ok (.iload 5, 2) := by decide +kernel
theorem dX12_byFrame_86 : decode cX12_byFrame 86 = .ok (.iconst 1, 1) := by decide +kernel
theorem dX12_byFrame_87 : decode cX12_byFrame 87 = .ok (.invokevirtual 115, 3) := by decide +kernel
theorem dX12_byFrame_90 : decode cX12_byFrame 90 = .ok (.iload_n 2, 1) := by decide +kernel
theorem dX12_byFrame_91 : decode cX12_byFrame 91 = .ok (.iload_n 3, 1) := by decide +kernel
theorem dX12_byFrame_92 : decode cX12_byFrame 92 = .ok (.invokevirtual 221, 3) := by decide +kernel
theorem dX12_byFrame_95 : decode cX12_byFrame 95 = .ok (.istore 6, 2) := by decide +kernel
theorem dX12_byFrame_97 : decode cX12_byFrame 97 = .ok (.iload_n 3, 1) := by decide +kernel
theorem dX12_byFrame_98 : decode cX12_byFrame 98 = .ok (.ifCond .eq 11, 3) := by decide +kernel
theorem dX12_byFrame_101 : decode cX12_byFrame 101 = .ok (.iload 4, 2) := by decide +kernel
theorem dX12_byFrame_103 : decode cX12_byFrame 103 = .ok (.iload 6, 2) := by decide +kernel
theorem dX12_byFrame_105 : decode cX12_byFrame 105 = .ok (.iadd, 1) := by decide +kernel
theorem dX12_byFrame_106 : decode cX12_byFrame 106 = .ok (.goto 8, 3) := by decide +kernel
theorem dX12_byFrame_109 : decode cX12_byFrame 109 = .ok (.iload 4, 2) := by decide +kernel
theorem dX12_byFrame_111 : decode cX12_byFrame 111 = .ok (.iload 6, 2) := by decide +kernel
theorem dX12_byFrame_113 : decode cX12_byFrame 113 = .ok (.imul, 1) := by decide +kernel
theorem dX12_byFrame_114 : decode cX12_byFrame 114 = .ok (.istore 4, 2) := by decide +kernel
theorem dX12_byFrame_116 : decode cX12_byFrame 116 = .ok (.iinc 5 1, 3) := by decide +kernel
theorem dX12_byFrame_119 : decode cX12_byFrame 119 = .ok (.goto (-105), 3) := by decide +kernel
theorem dX12_byFrame_122 : decode cX12_byFrame 122 = .ok (.iload 4, 2) := by decide +kernel
theorem dX12_byFrame_124 : decode cX12_byFrame 124 = .ok (.ireturn, 1) := by decide +kernel
theorem dX12_counted_0 : decode cX12_counted 0 = .ok (.iconst 0, 1) := by decide +kernel
theorem dX12_counted_1 : decode cX12_counted 1 = .ok (.istore_n 1, 1) := by decide +kernel
theorem dX12_counted_2 : decode cX12_counted 2 = .ok (.aload_n 0, 1) := by decide +kernel
theorem dX12_counted_3 : decode cX12_counted 3 = .ok (.iconst (-1), 1) := by decide +kernel
theorem dX12_counted_4 : decode cX12_counted 4 = .ok (.putfield 225, 3) := by decide +kernel
theorem dX12_counted_7 : decode cX12_counted 7 = .ok (.aload_n 0, 1) := by decide +kernel
theorem dX12_counted_8 : decode cX12_counted 8 = .ok (.iconst (-1), 1) := by decide +kernel
theorem dX12_counted_9 : decode cX12_counted 9 = .ok (.putfield 228, 3) := by decide +kernel
theorem dX12_counted_12 : decode cX12_counted 12 = .ok (.aload_n 0, 1) := by decide +kernel
theorem dX12_counted_13 : decode cX12_counted 13 = .ok (.invokevirtual 231, 3) := by decide +kernel
theorem dX12_counted_16 : decode cX12_counted 16 = .ok (.iconst 0, 1) := by decide +kernel
theorem dX12_counted_17 : decode cX12_counted 17 = .ok (.istore_n 2, 1) := by decide +kernel
theorem dX12_counted_18 : decode cX12_counted 18 = .ok (.iload_n 2, 1) := by decide +kernel
theorem dX12_counted_19 : decode cX12_counted 19 = .ok (.aload_n 0, 1) := by decide +kernel
theorem dX12_counted_20 : decode cX12_counted 20 = .ok (.getfield 9, 3) := by decide +kernel
theorem dX12_counted_23 : decode cX12_counted 23 = .ok (.iconst 1, 1) := by decide +kernel
theorem dX12_counted_24 : decode cX12_counted 24 = .ok (.iaload, 1) := by decide +kernel
theorem dX12_counted_25 : decode cX12_counted 25 = .ok (.if_icmp .ge 70, 3) := by decide +kernel
theorem dX12_counted_28 : decode cX12_counted 28 = .ok (.aload_n 0, 1) := by decide +kernel
theorem dX12_counted_29 : decode cX12_counted 29 = .ok (.iload_n 2, 1) := by decide +kernel
theorem dX12_counted_30 : decode cX12_counted 30 = .ok (.invokevirtual 154, 3) := by decide +kernel
theorem dX12_counted_33 : decode cX12_counted 33 = .ok (.aload_n 0, 1) := by decide +kernel
theorem dX12_counted_34 : decode cX12_counted 34 = .ok (.getfield 204, 3) := by decide +kernel
theorem dX12_counted_37 : decode cX12_counted 37 = .ok (.if_icmp .eq 6, 3) := by decide +kernel
theorem dX12_counted_40 : decode cX12_counted 40 = .ok (.goto 49, 3) := by decide +kernel
theorem dX12_counted_43 : decode cX12_counted 43 = .ok (.iconst 0, 1) := by decide +kernel
theorem dX12_counted_44 : decode cX12_counted 44 = .ok (.istore_n 3, 1) := by decide +kernel
theorem dX12_counted_45 : decode cX12_counted 45 = .ok (.iload_n 3, 1) := by decide +kernel
theorem dX12_counted_46 : decode cX12_counted 46 = .ok (.iconst 4, 1) := by decide +kernel
theorem dX12_counted_47 : decode cX12_counted 47 = .ok (.if_icmp .ge 42, 3) := by decide +kernel
theorem dX12_counted_50 : decode cX12_counted 50 = .ok (.aload_n 0, 1) := by decide +kernel
theorem dX12_counted_51 : decode cX12_counted 51 = .ok (.iload_n 2, 1) := by decide +kernel
theorem dX12_counted_52 : decode cX12_counted 52 = .ok (.iload_n 3, 1) := by decide +kernel
theorem dX12_counted_53 : decode cX12_counted 53 = .ok (.iconst 0, 1) := by decide +kernel
theorem dX12_counted_54 : decode cX12_counted 54 = .ok (.invokevirtual 234, 3) := by decide +kernel
theorem dX12_counted_57 : decode cX12_counted 57 = .ok (.istore 4, 2) := by decide +kernel
theorem dX12_counted_59 : decode cX12_counted 59 = .ok (.iload 4, 2) := by decide +kernel
theorem dX12_counted_61 : decode cX12_counted 61 = .ok (.ifCond .le 17, 3) := by decide +kernel
theorem dX12_counted_64 : decode cX12_counted 64 = .ok (.iload_n 1, 1) := by decide +kernel
theorem dX12_counted_65 : decode cX12_counted 65 = .ok (.ifCond .ne 13, 3) := by decide +kernel
theorem dX12_counted_68 : decode cX12_counted 68 = .ok (.aload_n 0, 1) := by decide +kernel
theorem dX12_counted_69 : decode cX12_counted 69 = .ok (.iload_n 2, 1) := by decide +kernel
theorem dX12_counted_70 : decode cX12_counted 70 = .ok (.putfield 225, 3) := by decide +kernel
theorem dX12_counted_73 : decode cX12_counted 73 = .ok (.aload_n 0, 1) := by decide +kernel
theorem dX12_counted_74 : decode cX12_counted 74 = .ok (.iload_n 3, 1) := by decide +kernel
theorem dX12_counted_75 : decode cX12_counted 75 = .ok (.putfield 228, 3) := by decide +kernel
theorem dX12_counted_78 : decode cX12_counted 78 = .ok (.iload_n 1, 1) := by decide +kernel
theorem dX12_counted_79 : decode cX12_counted 79 = .ok (.iload 4, 2) := by decide +kernel
theorem dX12_counted_81 : decode cX12_counted 81 = .ok (.iadd, 1) := by decide +kernel
theorem dX12_counted_82 : decode cX12_counted 82 = .ok (.istore_n 1, 1) := by decide +kernel
theorem dX12_counted_83 : decode cX12_counted 83 = .ok (.iinc 3 1, 3) := by decide +kernel
theorem dX12_counted_86 : decode cX12_counted 86 = .ok (.goto (-41), 3) := by decide +kernel
theorem dX12_counted_89 : decode cX12_counted 89 = .ok (.iinc 2 1, 3) := by decide +kernel
theorem dX12_counted_92 : decode cX12_counted 92 = .ok (.goto (-74), 3) := by decide +kernel
theorem dX12_counted_95 : decode cX12_counted 95 = .ok (.iload_n 1, 1) := by decide +kernel
theorem dX12_counted_96 : decode cX12_counted 96 = .ok (.ireturn, 1) := by decide +kernel
theorem dX12_readings_0 : decode cX12_readings 0 = .ok (.iload_n 1, 1) := by decide +kernel
theorem dX12_readings_1 : decode cX12_readings 1 = .ok (.iconst 0, 1) := by decide +kernel
theorem dX12_readings_2 : decode cX12_readings 2 = .ok (.iconst 2, 1) := by decide +kernel
theorem dX12_readings_3 : decode cX12_readings 3 = .ok (.invokestatic 64, 3) := by decide +kernel
theorem dX12_readings_6 : decode cX12_readings 6 = .ok (.ifCond .ne 6, 3) := by decide +kernel
theorem dX12_readings_9 : decode cX12_readings 9 = .ok (.bipush (-2), 2) := by decide +kernel
theorem dX12_readings_11 : decode cX12_readings 11 = .ok (.ireturn, 1) := by decide +kernel
theorem dX12_readings_12 : decode cX12_readings 12 = .ok (.aload_n 0, 1) := by decide +kernel
theorem dX12_readings_13 : decode cX12_readings 13 = .ok (.invokevirtual 238, 3) := by decide +kernel
theorem dX12_readings_16 : decode cX12_readings 16 = .ok (.aload_n 0, 1) := by decide +kernel
theorem dX12_readings_17 : decode cX12_readings 17 = .ok (.invokevirtual 241, 3) := by decide +kernel
theorem dX12_readings_20 : decode cX12_readings 20 = .ok (.istore_n 2, 1) := by decide +kernel
theorem dX12_readings_21 : decode cX12_readings 21 = .ok (.iload_n 1, 1) := by decide +kernel
theorem dX12_readings_22 : decode cX12_readings 22 = .ok (.ifCond .ne 7, 3) := by decide +kernel
theorem dX12_readings_25 : decode cX12_readings 25 = .ok (.iload_n 2, 1) := by decide +kernel
theorem dX12_readings_26 : decode cX12_readings 26 = .ok (.goto 19, 3) := by decide +kernel
theorem dX12_readings_29 : decode cX12_readings 29 = .ok (.iload_n 1, 1) := by decide +kernel
theorem dX12_readings_30 : decode cX12_readings 30 = .ok (.iconst 1, 1) := by decide +kernel
theorem dX12_readings_31 : decode cX12_readings 31 = .ok (.if_icmp .ne 10, 3) := by decide +kernel
theorem dX12_readings_34 : decode cX12_readings 34 = .ok (.aload_n 0, 1) := by decide +kernel
theorem dX12_readings_35 : decode cX12_readings 35 = .ok (.getfield 225, 3) := by decide +kernel
theorem dX12_readings_38 : decode cX12_readings 38 = .ok (.goto 7, 3) := by decide +kernel
theorem dX12_readings_41 : decode cX12_readings 41 = .ok (.aload_n 0, 1) := by decide +kernel
theorem dX12_readings_42 : decode cX12_readings 42 = .ok (.getfield 228, 3) := by decide +kernel
theorem dX12_readings_45 : decode cX12_readings 45 = .ok (.ireturn, 1) := by decide +kernel
theorem dX12_near_0 : decode cX12_near 0 = .ok (.iload_n 1, 1) := by decide +kernel
theorem dX12_near_1 : decode cX12_near 1 = .ok (.iconst 0, 1) := by decide +kernel
theorem dX12_near_2 : decode cX12_near 2 = .ok (.iconst 1, 1) := by decide +kernel
theorem dX12_near_3 : decode cX12_near 3 = .ok (.invokestatic 64, 3) := by decide +kernel
theorem dX12_near_6 : decode cX12_near 6 = .ok (.ifCond .ne 6, 3) := by decide +kernel
theorem dX12_near_9 : decode cX12_near 9 = .ok (.bipush (-2), 2) := by decide +kernel
theorem dX12_near_11 : decode cX12_near 11 = .ok (.ireturn, 1) := by decide +kernel
theorem dX12_near_12 : decode cX12_near 12 = .ok (.aload_n 0, 1) := by decide +kernel
theorem dX12_near_13 : decode cX12_near 13 = .ok (.invokevirtual 238, 3) := by decide +kernel
theorem dX12_near_16 : decode cX12_near 16 = .ok (.aload_n 0, 1) := by decide +kernel
theorem dX12_near_17 : decode cX12_near 17 = .ok (.invokevirtual 231, 3) := by decide +kernel
theorem dX12_near_20 : decode cX12_near 20 = .ok (.ldc 207, 2) := by decide +kernel
theorem dX12_near_22 : decode cX12_near 22 = .ok (.istore_n 2, 1) := by decide +kernel
theorem dX12_near_23 : decode cX12_near 23 = .ok (.iconst (-1), 1) := by decide +kernel
theorem dX12_near_24 : decode cX12_near 24 = .ok (.istore_n 3, 1) := by decide +kernel
theorem dX12_near_25 : decode cX12_near 25 = .ok (.iconst 0, 1) := by decide +kernel
theorem dX12_near_26 : decode cX12_near 26 = .ok (.istore 4, 2) := by decide +kernel
theorem dX12_near_28 : decode cX12_near 28 = .ok (.iload 4, 2) := by decide +kernel
theorem dX12_near_30 : decode cX12_near 30 = .ok (.aload_n 0, 1) := by decide +kernel
theorem dX12_near_31 : decode cX12_near 31 = .ok (.getfield 9, 3) := by decide +kernel
theorem dX12_near_34 : decode cX12_near 34 = .ok (.iconst 1, 1) := by decide +kernel
theorem dX12_near_35 : decode cX12_near 35 = .ok (.iaload, 1) := by decide +kernel
theorem dX12_near_36 : decode cX12_near 36 = .ok (.if_icmp .ge 66, 3) := by decide +kernel
theorem dX12_near_39 : decode cX12_near 39 = .ok (.aload_n 0, 1) := by decide +kernel
theorem dX12_near_40 : decode cX12_near 40 = .ok (.iload 4, 2) := by decide +kernel
theorem dX12_near_42 : decode cX12_near 42 = .ok (.invokevirtual 154, 3) := by decide +kernel
theorem dX12_near_45 : decode cX12_near 45 = .ok (.aload_n 0, 1) := by decide +kernel
theorem dX12_near_46 : decode cX12_near 46 = .ok (.getfield 204, 3) := by decide +kernel
theorem dX12_near_49 : decode cX12_near 49 = .ok (.if_icmp .eq 6, 3) := by decide +kernel
theorem dX12_near_52 : decode cX12_near 52 = .ok (.goto 44, 3) := by decide +kernel
theorem dX12_near_55 : decode cX12_near 55 = .ok (.iconst 0, 1) := by decide +kernel
theorem dX12_near_56 : decode cX12_near 56 = .ok (.istore 5, 2) := by decide +kernel
theorem dX12_near_58 : decode cX12_near 58 = .ok (.iload 5, 2) := by decide +kernel
theorem dX12_near_60 : decode cX12_near 60 = .ok (.iconst 4, 1) := by decide +kernel
theorem dX12_near_61 : decode cX12_near 61 = .ok (.if_icmp .ge 35, 3) := by decide +kernel
theorem dX12_near_64 : decode cX12_near 64 = .ok (.aload_n 0, 1) := by decide +kernel
theorem dX12_near_65 : decode cX12_near 65 = .ok (.iload 4, 2) := by decide +kernel
theorem dX12_near_67 : decode cX12_near 67 = .ok (.iload 5, 2) := by decide +kernel
theorem dX12_near_69 : decode cX12_near 69 = .ok (.iconst 1, 1) := by decide +kernel
theorem dX12_near_70 : decode cX12_near 70 = .ok (.invokevirtual 234, 3) := by decide +kernel
theorem dX12_near_73 : decode cX12_near 73 = .ok (.istore 6, 2) := by decide +kernel
theorem dX12_near_75 : decode cX12_near 75 = .ok (.iload 6, 2) := by decide +kernel
theorem dX12_near_77 : decode cX12_near 77 = .ok (.iload_n 2, 1) := by decide +kernel
theorem dX12_near_78 : decode cX12_near 78 = .ok (.if_icmp .lt 6, 3) := by decide +kernel
theorem dX12_near_81 : decode cX12_near 81 = .ok (.goto 9, 3) := by decide +kernel
theorem dX12_near_84 : decode cX12_near 84 = .ok (.iload 6, 2) := by decide +kernel
theorem dX12_near_86 : decode cX12_near 86 = .ok (.istore_n 2, 1) := by decide +kernel
theorem dX12_near_87 : decode cX12_near 87 = .ok (.iload 4, 2) := by decide +kernel
theorem dX12_near_89 : decode cX12_near 89 = .ok (.istore_n 3, 1) := by decide +kernel
theorem dX12_near_90 : decode cX12_near 90 = .ok (.iinc 5 1, 3) := by decide +kernel
theorem dX12_near_93 : decode cX12_near 93 = .ok (.goto (-35), 3) := by decide +kernel
theorem dX12_near_96 : decode cX12_near 96 = .ok (.iinc 4 1, 3) := by decide +kernel
theorem dX12_near_99 : decode cX12_near 99 = .ok (.goto (-71), 3) := by decide +kernel
theorem dX12_near_102 : decode cX12_near 102 = .ok (.iload_n 1, 1) := by decide +kernel
theorem dX12_near_103 : decode cX12_near 103 = .ok (.iconst 1, 1) := by decide +kernel
theorem dX12_near_104 : decode cX12_near 104 = .ok (.if_icmp .eq 7, 3) := by decide +kernel
theorem dX12_near_107 : decode cX12_near 107 = .ok (.iload_n 3, 1) := by decide +kernel
theorem dX12_near_108 : decode cX12_near 108 = .ok (.ifCond .ge 7, 3) := by decide +kernel
theorem dX12_near_111 : decode cX12_near 111 = .ok (.iload_n 3, 1) := by decide +kernel
theorem dX12_near_112 : decode cX12_near 112 = .ok (.goto 4, 3) := by decide +kernel
theorem dX12_near_115 : decode cX12_near 115 = .ok (.iload_n 2, 1) := by decide +kernel
theorem dX12_near_116 : decode cX12_near 116 = .ok (.ireturn, 1) := by decide +kernel
theorem dX12_draws_0 : decode cX12_draws 0 = .ok (.aload_n 0, 1) := by decide +kernel
theorem dX12_draws_1 : decode cX12_draws 1 = .ok (.aload_n 0, 1) := by decide +kernel
theorem dX12_draws_2 : decode cX12_draws 2 = .ok (.getfield 244, 3) := by decide +kernel
theorem dX12_draws_5 : decode cX12_draws 5 = .ok (.ldc 247, 2) := by decide +kernel
theorem dX12_draws_7 : decode cX12_draws 7 = .ok (.imul, 1) := by decide +kernel
theorem dX12_draws_8 : decode cX12_draws 8 = .ok (.sipush 12345, 3) := by decide +kernel
theorem dX12_draws_11 : decode cX12_draws 11 = .ok (.iadd, 1) := by decide +kernel
theorem dX12_draws_12 : decode cX12_draws 12 = .ok (.putfield 244, 3) := by decide +kernel
theorem dX12_draws_15 : decode cX12_draws 15 = .ok (.iload_n 1, 1) := by decide +kernel
theorem dX12_draws_16 : decode cX12_draws 16 = .ok (.ifCond .ne 7, 3) := by decide +kernel
theorem dX12_draws_19 : decode cX12_draws 19 = .ok (.iconst (-1), 1) := by decide +kernel
theorem dX12_draws_20 : decode cX12_draws 20 = .ok (.goto 12, 3) := by decide +kernel
theorem dX12_draws_23 : decode cX12_draws 23 = .ok (.aload_n 0, 1) := by decide +kernel
theorem dX12_draws_24 : decode cX12_draws 24 = .ok (.getfield 244, 3) := by decide +kernel
theorem dX12_draws_27 : decode cX12_draws 27 = .ok (.bipush 9, 2) := by decide +kernel
theorem dX12_draws_29 : decode cX12_draws 29 = .ok (.iushr, 1) := by decide +kernel
theorem dX12_draws_30 : decode cX12_draws 30 = .ok (.iload_n 1, 1) := by decide +kernel
theorem dX12_draws_31 : decode cX12_draws 31 = .ok (.irem, 1) := by decide +kernel
theorem dX12_draws_32 : decode cX12_draws 32 = .ok (.ireturn, 1) := by decide +kernel
theorem dX12_ableAt_0 : decode cX12_ableAt 0 = .ok (.iload_n 3, 1) := by decide +kernel
theorem dX12_ableAt_1 : decode cX12_ableAt 1 = .ok (.istore 4, 2) := by decide +kernel
theorem dX12_ableAt_3 : decode cX12_ableAt 3 = .ok (.iconst 0, 1) := by decide +kernel
theorem dX12_ableAt_4 : decode cX12_ableAt 4 = .ok (.istore 5, 2) := by decide +kernel
theorem dX12_ableAt_6 : decode cX12_ableAt 6 = .ok (.iload 5, 2) := by decide +kernel
theorem dX12_ableAt_8 : decode cX12_ableAt 8 = .ok (.aload_n 0, 1) := by decide +kernel
theorem dX12_ableAt_9 : decode cX12_ableAt 9 = .ok (.getfield 9, 3) := by decide +kernel
theorem dX12_ableAt_12 : decode cX12_ableAt 12 = .ok (.iconst 0, 1) := by decide +kernel
theorem dX12_ableAt_13 : decode cX12_ableAt 13 = .ok (.iaload, 1) := by decide +kernel
theorem dX12_ableAt_14 : decode cX12_ableAt 14 = .ok (.if_icmp .ge 39, 3) := by decide +kernel
theorem dX12_ableAt_17 : decode cX12_ableAt 17 = .ok (.iload 4, 2) := by decide +kernel
theorem dX12_ableAt_19 : decode cX12_ableAt 19 = .ok (.ifCond .lt 34, 3) := by decide +kernel
theorem dX12_ableAt_22 : decode cX12_ableAt 22 = .ok (.aload_n 0, 1) := by decide +kernel
theorem dX12_ableAt_23 : decode cX12_ableAt 23 = .ok (.iload_n 1, 1) := by decide +kernel
theorem dX12_ableAt_24 : decode cX12_ableAt 24 = .ok (.iload_n 2, 1) := by decide +kernel
theorem dX12_ableAt_25 : decode cX12_ableAt 25 = .ok (.iload 5, 2) := by decide +kernel
theorem dX12_ableAt_27 : decode cX12_ableAt 27 = .ok (.invokevirtual 148, 3) := by decide +kernel
theorem dX12_ableAt_30 : decode cX12_ableAt 30 = .ok (.ifCond .ne 6, 3) := by decide +kernel
theorem dX12_ableAt_33 : decode cX12_ableAt 33 = .ok (.goto 14, 3) := by decide +kernel
theorem dX12_ableAt_36 : decode cX12_ableAt 36 = .ok (.iload 4, 2) := by decide +kernel
theorem dX12_ableAt_38 : decode cX12_ableAt 38 = .ok (.ifCond .ne 6, 3) := by decide +kernel
theorem dX12_ableAt_41 : decode cX12_ableAt 41 = .ok (.iload 5, 2) := by decide +kernel
theorem dX12_ableAt_43 : decode cX12_ableAt 43 = .ok (.ireturn, 1) := by decide +kernel
theorem dX12_ableAt_44 : decode cX12_ableAt 44 = .ok (.iinc 4 (-1), 3) := by decide +kernel
theorem dX12_ableAt_47 : decode cX12_ableAt 47 = .ok (.iinc 5 1, 3) := by decide +kernel
theorem dX12_ableAt_50 : decode cX12_ableAt 50 = .ok (.goto (-44), 3) := by decide +kernel
theorem dX12_ableAt_53 : decode cX12_ableAt 53 = .ok (.iconst (-1), 1) := by decide +kernel
theorem dX12_ableAt_54 : decode cX12_ableAt 54 = .ok (.ireturn, 1) := by decide +kernel
theorem dX12_drawsLine_0 : decode cX12_drawsLine 0 = .ok (.aload_n 0, 1) := by decide +kernel
theorem dX12_drawsLine_1 : decode cX12_drawsLine 1 = .ok (.iload_n 1, 1) := by decide +kernel
theorem dX12_drawsLine_2 : decode cX12_drawsLine 2 = .ok (.putfield 244, 3) := by decide +kernel
theorem dX12_drawsLine_5 : decode cX12_drawsLine 5 = .ok (.aload_n 0, 1) := by decide +kernel
theorem dX12_drawsLine_6 : decode cX12_drawsLine 6 = .ok (.aload_n 0, 1) := by decide +kernel
theorem dX12_drawsLine_7 : decode cX12_drawsLine 7 = .ok (.getfield 9, 3) := by decide +kernel
theorem dX12_drawsLine_10 : decode cX12_drawsLine 10 = .ok (.iconst 1, 1) := by decide +kernel
theorem dX12_drawsLine_11 : decode cX12_drawsLine 11 = .ok (.iaload, 1) := by decide +kernel
theorem dX12_drawsLine_12 : decode cX12_drawsLine 12 = .ok (.invokevirtual 248, 3) := by decide +kernel
theorem dX12_drawsLine_15 : decode cX12_drawsLine 15 = .ok (.istore_n 2, 1) := by decide +kernel
theorem dX12_drawsLine_16 : decode cX12_drawsLine 16 = .ok (.aload_n 0, 1) := by decide +kernel
theorem dX12_drawsLine_17 : decode cX12_drawsLine 17 = .ok (.iconst 4, 1) := by decide +kernel
theorem dX12_drawsLine_18 : decode cX12_drawsLine 18 = .ok (.invokevirtual 248, 3) := by decide +kernel
theorem dX12_drawsLine_21 : decode cX12_drawsLine 21 = .ok (.istore_n 3, 1) := by decide +kernel
theorem dX12_drawsLine_22 : decode cX12_drawsLine 22 = .ok (.aload_n 0, 1) := by decide +kernel
theorem dX12_drawsLine_23 : decode cX12_drawsLine 23 = .ok (.iconst 2, 1) := by decide +kernel
theorem dX12_drawsLine_24 : decode cX12_drawsLine 24 = .ok (.invokevirtual 248, 3) := by decide +kernel
theorem dX12_drawsLine_27 : decode cX12_drawsLine 27 = .ok (.istore 4, 2) := by decide +kernel
theorem dX12_drawsLine_29 : decode cX12_drawsLine 29 = .ok (.iload 4, 2) := by decide +kernel
theorem dX12_drawsLine_31 : decode cX12_drawsLine 31 = .ok (.aload_n 0, 1) := by decide +kernel
theorem dX12_drawsLine_32 : decode cX12_drawsLine 32 = .ok (.iconst 2, 1) := by decide +kernel
theorem dX12_drawsLine_33 : decode cX12_drawsLine 33 = .ok (.invokevirtual 248, 3) := by decide +kernel
theorem dX12_drawsLine_36 : decode cX12_drawsLine 36 = .ok (.iconst 1, 1) := by decide +kernel
theorem dX12_drawsLine_37 : decode cX12_drawsLine 37 = .ok (.ishl, 1) := by decide +kernel
theorem dX12_drawsLine_38 : decode cX12_drawsLine 38 = .ok (.ior, 1) := by decide +kernel
theorem dX12_drawsLine_39 : decode cX12_drawsLine 39 = .ok (.istore 4, 2) := by decide +kernel
theorem dX12_drawsLine_41 : decode cX12_drawsLine 41 = .ok (.iload 4, 2) := by decide +kernel
theorem dX12_drawsLine_43 : decode cX12_drawsLine 43 = .ok (.aload_n 0, 1) := by decide +kernel
theorem dX12_drawsLine_44 : decode cX12_drawsLine 44 = .ok (.iconst 2, 1) := by decide +kernel
theorem dX12_drawsLine_45 : decode cX12_drawsLine 45 = .ok (.invokevirtual 248, 3) := by decide +kernel
theorem dX12_drawsLine_48 : decode cX12_drawsLine 48 = .ok (.iconst 2, 1) := by decide +kernel
theorem dX12_drawsLine_49 : decode cX12_drawsLine 49 = .ok (.ishl, 1) := by decide +kernel
theorem dX12_drawsLine_50 : decode cX12_drawsLine 50 = .ok (.ior, 1) := by decide +kernel
theorem dX12_drawsLine_51 : decode cX12_drawsLine 51 = .ok (.istore 4, 2) := by decide +kernel
theorem dX12_drawsLine_53 : decode cX12_drawsLine 53 = .ok (.iconst 0, 1) := by decide +kernel
theorem dX12_drawsLine_54 : decode cX12_drawsLine 54 = .ok (.istore 5, 2) := by decide +kernel
theorem dX12_drawsLine_56 : decode cX12_drawsLine 56 = .ok (.iload 5, 2) := by decide +kernel
theorem dX12_drawsLine_58 : decode cX12_drawsLine 58 = .ok (.aload_n 0, 1) := by decide +kernel
theorem dX12_drawsLine_59 : decode cX12_drawsLine 59 = .ok (.iload_n 2, 1) := by decide +kernel
theorem dX12_drawsLine_60 : decode cX12_drawsLine 60 = .ok (.invokevirtual 154, 3) := by decide +kernel
theorem dX12_drawsLine_63 : decode cX12_drawsLine 63 = .ok (.if_icmp .ge 58, 3) := by decide +kernel
theorem dX12_drawsLine_66 : decode cX12_drawsLine 66 = .ok (.aload_n 0, 1) := by decide +kernel
theorem dX12_drawsLine_67 : decode cX12_drawsLine 67 = .ok (.getfield 40, 3) := by decide +kernel
theorem dX12_drawsLine_70 : decode cX12_drawsLine 70 = .ok (.iload 5, 2) := by decide +kernel
theorem dX12_drawsLine_72 : decode cX12_drawsLine 72 = .ok (.aload_n 0, 1) := by decide +kernel
theorem dX12_drawsLine_73 : decode cX12_drawsLine 73 = .ok (.iload_n 2, 1) := by decide +kernel
theorem dX12_drawsLine_74 : decode cX12_drawsLine 74 = .ok (.iload 5, 2) := by decide +kernel
theorem dX12_drawsLine_76 : decode cX12_drawsLine 76 = .ok (.iconst 0, 1) := by decide +kernel
theorem dX12_drawsLine_77 : decode cX12_drawsLine 77 = .ok (.invokevirtual 115, 3) := by decide +kernel
theorem dX12_drawsLine_80 : decode cX12_drawsLine 80 = .ok (.bipush 112, 2) := by decide +kernel
theorem dX12_drawsLine_82 : decode cX12_drawsLine 82 = .ok (.if_icmp .ne 14, 3) := by decide +kernel
theorem dX12_drawsLine_85 : decode cX12_drawsLine 85 = .ok (.aload_n 0, 1) := by decide +kernel
theorem dX12_drawsLine_86 : decode cX12_drawsLine 86 = .ok (.iload_n 2, 1) := by decide +kernel
theorem dX12_drawsLine_87 : decode cX12_drawsLine 87 = .ok (.iload 5, 2) := by decide +kernel
theorem dX12_drawsLine_89 : decode cX12_drawsLine 89 = .ok (.iconst 3, 1) := by decide +kernel
theorem dX12_drawsLine_90 : decode cX12_drawsLine 90 = .ok (.invokevirtual 115, 3) := by decide +kernel
theorem dX12_drawsLine_93 : decode cX12_drawsLine 93 = .ok (.goto 21, 3) := by decide +kernel
theorem dX12_drawsLine_96 : decode cX12_drawsLine 96 = .ok (.aload_n 0, 1) := by decide +kernel
theorem dX12_drawsLine_97 : decode cX12_drawsLine 97 = .ok (.iload_n 2, 1) := by decide +kernel
theorem dX12_drawsLine_98 : decode cX12_drawsLine 98 = .ok (.iload 5, 2) := by decide +kernel
theorem dX12_drawsLine_100 : decode cX12_drawsLine 100 = .ok (.aload_n 0, 1) := by decide +kernel
theorem dX12_drawsLine_101 : decode cX12_drawsLine 101 = .ok (.aload_n 0, 1) := by decide +kernel
theorem dX12_drawsLine_102 : decode cX12_drawsLine 102 = .ok (.iload_n 2, 1) := by decide +kernel
theorem dX12_drawsLine_103 : decode cX12_drawsLine 103 = .ok (.iload 5, 2) := by decide +kernel
theorem dX12_drawsLine_105 : decode cX12_drawsLine 105 = .ok (.invokevirtual 157, 3) := by decide +kernel
theorem dX12_drawsLine_108 : decode cX12_drawsLine 108 = .ok (.invokevirtual 248, 3) := by decide +kernel
theorem dX12_drawsLine_111 : decode cX12_drawsLine 111 = .ok (.invokevirtual 189, 3) := by decide +kernel
theorem dX12_drawsLine_114 : decode cX12_drawsLine 114 = .ok (.iastore, 1) := by decide +kernel
theorem dX12_drawsLine_115 : decode cX12_drawsLine 115 = .ok (.iinc 5 1, 3) := by decide +kernel
theorem dX12_drawsLine_118 : decode cX12_drawsLine 118 = .ok (.goto (-62), 3) := by decide +kernel
theorem dX12_drawsLine_121 : decode cX12_drawsLine 121 = .ok (.aload_n 0, 1) := by decide +kernel
theorem dX12_drawsLine_122 : decode cX12_drawsLine 122 = .ok (.iload_n 2, 1) := by decide +kernel
theorem dX12_drawsLine_123 : decode cX12_drawsLine 123 = .ok (.iconst 0, 1) := by decide +kernel
theorem dX12_drawsLine_124 : decode cX12_drawsLine 124 = .ok (.aload_n 0, 1) := by decide +kernel
theorem dX12_drawsLine_125 : decode cX12_drawsLine 125 = .ok (.getfield 40, 3) := by decide +kernel
theorem dX12_drawsLine_128 : decode cX12_drawsLine 128 = .ok (.iload 4, 2) := by decide +kernel
theorem dX12_drawsLine_130 : decode cX12_drawsLine 130 = .ok (.iload_n 3, 1) := by decide +kernel
theorem dX12_drawsLine_131 : decode cX12_drawsLine 131 = .ok (.invokevirtual 177, 3) := by decide +kernel
theorem dX12_drawsLine_134 : decode cX12_drawsLine 134 = .ok (.return_, 1) := by decide +kernel
theorem dX12_drawn_0 : decode cX12_drawn 0 = .ok (.iload_n 2, 1) := by decide +kernel
theorem dX12_drawn_1 : decode cX12_drawn 1 = .ok (.iconst 0, 1) := by decide +kernel
theorem dX12_drawn_2 : decode cX12_drawn 2 = .ok (.iconst 1, 1) := by decide +kernel
theorem dX12_drawn_3 : decode cX12_drawn 3 = .ok (.invokestatic 64, 3) := by decide +kernel
theorem dX12_drawn_6 : decode cX12_drawn 6 = .ok (.ifCond .ne 6, 3) := by decide +kernel
theorem dX12_drawn_9 : decode cX12_drawn 9 = .ok (.bipush (-2), 2) := by decide +kernel
theorem dX12_drawn_11 : decode cX12_drawn 11 = .ok (.ireturn, 1) := by decide +kernel
theorem dX12_drawn_12 : decode cX12_drawn 12 = .ok (.aload_n 0, 1) := by decide +kernel
theorem dX12_drawn_13 : decode cX12_drawn 13 = .ok (.getfield 9, 3) := by decide +kernel
theorem dX12_drawn_16 : decode cX12_drawn 16 = .ok (.iconst 1, 1) := by decide +kernel
theorem dX12_drawn_17 : decode cX12_drawn 17 = .ok (.iaload, 1) := by decide +kernel
theorem dX12_drawn_18 : decode cX12_drawn 18 = .ok (.ifCond .ne 6, 3) := by decide +kernel
theorem dX12_drawn_21 : decode cX12_drawn 21 = .ok (.bipush (-3), 2) := by decide +kernel
theorem dX12_drawn_23 : decode cX12_drawn 23 = .ok (.ireturn, 1) := by decide +kernel
theorem dX12_drawn_24 : decode cX12_drawn 24 = .ok (.aload_n 0, 1) := by decide +kernel
theorem dX12_drawn_25 : decode cX12_drawn 25 = .ok (.iload_n 1, 1) := by decide +kernel
theorem dX12_drawn_26 : decode cX12_drawn 26 = .ok (.invokevirtual 251, 3) := by decide +kernel
theorem dX12_drawn_29 : decode cX12_drawn 29 = .ok (.iload_n 2, 1) := by decide +kernel
theorem dX12_drawn_30 : decode cX12_drawn 30 = .ok (.iconst 1, 1) := by decide +kernel
theorem dX12_drawn_31 : decode cX12_drawn 31 = .ok (.if_icmp .ne 10, 3) := by decide +kernel
theorem dX12_drawn_34 : decode cX12_drawn 34 = .ok (.aload_n 0, 1) := by decide +kernel
theorem dX12_drawn_35 : decode cX12_drawn 35 = .ok (.getfield 166, 3) := by decide +kernel
theorem dX12_drawn_38 : decode cX12_drawn 38 = .ok (.goto 7, 3) := by decide +kernel
theorem dX12_drawn_41 : decode cX12_drawn 41 = .ok (.aload_n 0, 1) := by decide +kernel
theorem dX12_drawn_42 : decode cX12_drawn 42 = .ok (.invokevirtual 241, 3) := by decide +kernel
theorem dX12_drawn_45 : decode cX12_drawn 45 = .ok (.ireturn, 1) := by decide +kernel
theorem dX12_chance_0 : decode cX12_chance 0 = .ok (.iload_n 2, 1) := by decide +kernel
theorem dX12_chance_1 : decode cX12_chance 1 = .ok (.iconst 1, 1) := by decide +kernel
theorem dX12_chance_2 : decode cX12_chance 2 = .ok (.bipush 8, 2) := by decide +kernel
theorem dX12_chance_4 : decode cX12_chance 4 = .ok (.invokestatic 64, 3) := by decide +kernel
theorem dX12_chance_7 : decode cX12_chance 7 = .ok (.ifCond .eq 12, 3) := by decide +kernel
theorem dX12_chance_10 : decode cX12_chance 10 = .ok (.iload_n 3, 1) := by decide +kernel
theorem dX12_chance_11 : decode cX12_chance 11 = .ok (.iconst 0, 1) := by decide +kernel
theorem dX12_chance_12 : decode cX12_chance 12 = .ok (.iconst 1, 1) := by decide +kernel
theorem dX12_chance_13 : decode cX12_chance 13 = .ok (.invokestatic 64, 3) := by decide +kernel
theorem dX12_chance_16 : decode cX12_chance 16 = .ok (.ifCond .ne 6, 3) := by decide +kernel
theorem dX12_chance_19 : decode cX12_chance 19 = .ok (.bipush (-2), 2) := by decide +kernel
theorem dX12_chance_21 : decode cX12_chance 21 = .ok (.ireturn, 1) := by decide +kernel
theorem dX12_chance_22 : decode cX12_chance 22 = .ok (.aload_n 0, 1) := by decide +kernel
theorem dX12_chance_23 : decode cX12_chance 23 = .ok (.getfield 9, 3) := by decide +kernel
theorem dX12_chance_26 : decode cX12_chance 26 = .ok (.iconst 1, 1) := by decide +kernel
theorem dX12_chance_27 : decode cX12_chance 27 = .ok (.iaload, 1) := by decide +kernel
theorem dX12_chance_28 : decode cX12_chance 28 = .ok (.ifCond .ne 6, 3) := by decide +kernel
theorem dX12_chance_31 : decode cX12_chance 31 = .ok (.bipush (-3), 2) := by decide +kernel
theorem dX12_chance_33 : decode cX12_chance 33 = .ok (.ireturn, 1) := by decide +kernel
theorem dX12_chance_34 : decode cX12_chance 34 = .ok (.iconst 0, 1) := by decide +kernel
theorem dX12_chance_35 : decode cX12_chance 35 = .ok (.istore 4, 2) := by decide +kernel
theorem dX12_chance_37 : decode cX12_chance 37 = .ok (.iconst 0, 1) := by decide +kernel
theorem dX12_chance_38 : decode cX12_chance 38 = .ok (.istore 5, 2) := by decide +kernel
theorem dX12_chance_40 : decode cX12_chance 40 = .ok (.iload 5, 2) := by decide +kernel
theorem dX12_chance_42 : decode cX12_chance 42 = .ok (.iload_n 2, 1) := by decide +kernel
theorem dX12_chance_43 : decode cX12_chance 43 = .ok (.if_icmp .ge 35, 3) := by decide +kernel
theorem dX12_chance_46 : decode cX12_chance 46 = .ok (.aload_n 0, 1) := by decide +kernel
theorem dX12_chance_47 : decode cX12_chance 47 = .ok (.iload_n 1, 1) := by decide +kernel
theorem dX12_chance_48 : decode cX12_chance 48 = .ok (.iload 5, 2) := by decide +kernel
theorem dX12_chance_50 : decode cX12_chance 50 = .ok (.iadd, 1) := by decide +kernel
theorem dX12_chance_51 : decode cX12_chance 51 = .ok (.invokevirtual 251, 3) := by decide +kernel
theorem dX12_chance_54 : decode cX12_chance 54 = .ok (.iload 4, 2) := by decide +kernel
theorem dX12_chance_56 : decode cX12_chance 56 = .ok (.aload_n 0, 1) := by decide +kernel
theorem dX12_chance_57 : decode cX12_chance 57 = .ok (.invokevirtual 241, 3) := by decide +kernel
theorem dX12_chance_60 : decode cX12_chance 60 = .ok (.iconst 1, 1) := by decide +kernel
theorem dX12_chance_61 : decode cX12_chance 61 = .ok (.if_icmp .ne 7, 3) := by decide +kernel
theorem dX12_chance_64 : decode cX12_chance 64 = .ok (.iconst 1, 1) := by decide +kernel
theorem dX12_chance_65 : decode cX12_chance 65 = .ok (.goto 4, 3) := by decide +kernel
theorem dX12_chance_68 : decode cX12_chance 68 = .ok (.iconst 0, 1) := by decide +kernel
theorem dX12_chance_69 : decode cX12_chance 69 = .ok (.iadd, 1) := by decide +kernel
theorem dX12_chance_70 : decode cX12_chance 70 = .ok (.istore 4, 2) := by decide +kernel
theorem dX12_chance_72 : decode cX12_chance 72 = .ok (.iinc 5 1, 3) := by decide +kernel
theorem dX12_chance_75 : decode cX12_chance 75 = .ok (.goto (-35), 3) := by decide +kernel
theorem dX12_chance_78 : decode cX12_chance 78 = .ok (.iload_n 2, 1) := by decide +kernel
theorem dX12_chance_79 : decode cX12_chance 79 = .ok (.istore 5, 2) := by decide +kernel
theorem dX12_chance_81 : decode cX12_chance 81 = .ok (.iload 4, 2) := by decide +kernel
theorem dX12_chance_83 : decode cX12_chance 83 = .ok (.iload 5, 2) := by decide +kernel
theorem dX12_chance_85 : decode cX12_chance 85 = .ok (.irem, 1) := by decide +kernel
theorem dX12_chance_86 : decode cX12_chance 86 = .ok (.ifCond .ne 10, 3) := by decide +kernel
theorem dX12_chance_89 : decode cX12_chance 89 = .ok (.iload_n 2, 1) := by decide +kernel
theorem dX12_chance_90 : decode cX12_chance 90 = .ok (.iload 5, 2) := by decide +kernel
theorem dX12_chance_92 : decode cX12_chance 92 = .ok (.irem, 1) := by decide +kernel
theorem dX12_chance_93 : decode cX12_chance 93 = .ok (.ifCond .eq 9, 3) := by decide +kernel
theorem dX12_chance_96 : decode cX12_chance 96 = .ok (.iinc 5 (-1), 3) := by decide +kernel
theorem dX12_chance_99 : decode cX12_chance 99 = .ok (.goto (-18), 3) := by decide +kernel
theorem dX12_chance_102 : decode cX12_chance 102 = .ok (.iload_n 3, 1) := by decide +kernel
theorem dX12_chance_103 : decode cX12_chance 103 = .ok (.ifCond .ne 11, 3) := by decide +kernel
theorem dX12_chance_106 : decode cX12_chance 106 = .ok (.iload 4, 2) := by decide +kernel
theorem dX12_chance_108 : decode cX12_chance 108 = .ok (.iload 5, 2) := by decide +kernel
theorem dX12_chance_110 : decode cX12_chance 110 = .ok (.idiv, 1) := by decide +kernel
theorem dX12_chance_111 : decode cX12_chance 111 = .ok (.goto 7, 3) := by decide +kernel
theorem dX12_chance_114 : decode cX12_chance 114 = .ok (.iload_n 2, 1) := by decide +kernel
theorem dX12_chance_115 : decode cX12_chance 115 = .ok (.iload 5, 2) := by decide +kernel
theorem dX12_chance_117 : decode cX12_chance 117 = .ok (.idiv, 1) := by decide +kernel
theorem dX12_chance_118 : decode cX12_chance 118 = .ok (.ireturn, 1) := by decide +kernel
theorem dX12_tray_0 : decode cX12_tray 0 = .ok (.iload_n 1, 1) := by decide +kernel
theorem dX12_tray_1 : decode cX12_tray 1 = .ok (.iconst 0, 1) := by decide +kernel
theorem dX12_tray_2 : decode cX12_tray 2 = .ok (.iconst 3, 1) := by decide +kernel
theorem dX12_tray_3 : decode cX12_tray 3 = .ok (.invokestatic 64, 3) := by decide +kernel
theorem dX12_tray_6 : decode cX12_tray 6 = .ok (.ifCond .eq 18, 3) := by decide +kernel
theorem dX12_tray_9 : decode cX12_tray 9 = .ok (.iload_n 2, 1) := by decide +kernel
theorem dX12_tray_10 : decode cX12_tray 10 = .ok (.iconst 0, 1) := by decide +kernel
theorem dX12_tray_11 : decode cX12_tray 11 = .ok (.iconst 5, 1) := by decide +kernel
theorem dX12_tray_12 : decode cX12_tray 12 = .ok (.invokestatic 64, 3) := by decide +kernel
theorem dX12_tray_15 : decode cX12_tray 15 = .ok (.ifCond .eq 9, 3) := by decide +kernel
theorem dX12_tray_18 : decode cX12_tray 18 = .ok (.iload_n 3, 1) := by decide +kernel
theorem dX12_tray_19 : decode cX12_tray 19 = .ok (.bipush 20, 2) := by decide +kernel
theorem dX12_tray_21 : decode cX12_tray 21 = .ok (.if_icmp .le 6, 3) := by decide +kernel
theorem dX12_tray_24 : decode cX12_tray 24 = .ok (.bipush (-2), 2) := by decide +kernel
theorem dX12_tray_26 : decode cX12_tray 26 = .ok (.ireturn, 1) := by decide +kernel
theorem dX12_tray_27 : decode cX12_tray 27 = .ok (.iload_n 3, 1) := by decide +kernel
theorem dX12_tray_28 : decode cX12_tray 28 = .ok (.ifCond .ge 6, 3) := by decide +kernel
theorem dX12_tray_31 : decode cX12_tray 31 = .ok (.bipush (-14), 2) := by decide +kernel
theorem dX12_tray_33 : decode cX12_tray 33 = .ok (.ireturn, 1) := by decide +kernel
theorem dX12_tray_34 : decode cX12_tray 34 = .ok (.aload_n 0, 1) := by decide +kernel
theorem dX12_tray_35 : decode cX12_tray 35 = .ok (.getfield 43, 3) := by decide +kernel
theorem dX12_tray_38 : decode cX12_tray 38 = .ok (.iload_n 1, 1) := by decide +kernel
theorem dX12_tray_39 : decode cX12_tray 39 = .ok (.iload_n 2, 1) := by decide +kernel
theorem dX12_tray_40 : decode cX12_tray 40 = .ok (.iastore, 1) := by decide +kernel
theorem dX12_tray_41 : decode cX12_tray 41 = .ok (.aload_n 0, 1) := by decide +kernel
theorem dX12_tray_42 : decode cX12_tray 42 = .ok (.getfield 46, 3) := by decide +kernel
theorem dX12_tray_45 : decode cX12_tray 45 = .ok (.iload_n 1, 1) := by decide +kernel
theorem dX12_tray_46 : decode cX12_tray 46 = .ok (.iload_n 3, 1) := by decide +kernel
theorem dX12_tray_47 : decode cX12_tray 47 = .ok (.iastore, 1) := by decide +kernel
theorem dX12_tray_48 : decode cX12_tray 48 = .ok (.iconst 0, 1) := by decide +kernel
theorem dX12_tray_49 : decode cX12_tray 49 = .ok (.istore 4, 2) := by decide +kernel
theorem dX12_tray_51 : decode cX12_tray 51 = .ok (.iload 4, 2) := by decide +kernel
theorem dX12_tray_53 : decode cX12_tray 53 = .ok (.iload_n 3, 1) := by decide +kernel
theorem dX12_tray_54 : decode cX12_tray 54 = .ok (.if_icmp .ge 22, 3) := by decide +kernel
theorem dX12_tray_57 : decode cX12_tray 57 = .ok (.aload_n 0, 1) := by decide +kernel
theorem dX12_tray_58 : decode cX12_tray 58 = .ok (.getfield 49, 3) := by decide +kernel
theorem dX12_tray_61 : decode cX12_tray 61 = .ok (.bipush 20, 2) := by decide +kernel
theorem dX12_tray_63 : decode cX12_tray 63 = .ok (.iload_n 1, 1) := by decide +kernel
theorem dX12_tray_64 : decode cX12_tray 64 = .ok (.imul, 1) := by decide +kernel
theorem dX12_tray_65 : decode cX12_tray 65 = .ok (.iload 4, 2) := by decide +kernel
theorem dX12_tray_67 : decode cX12_tray 67 = .ok (.iadd, 1) := by decide +kernel
theorem dX12_tray_68 : decode cX12_tray 68 = .ok (.iconst (-1), 1) := by decide +kernel
theorem dX12_tray_69 : decode cX12_tray 69 = .ok (.iastore, 1) := by decide +kernel
theorem dX12_tray_70 : decode cX12_tray 70 = .ok (.iinc 4 1, 3) := by decide +kernel
theorem dX12_tray_73 : decode cX12_tray 73 = .ok (.goto (-22), 3) := by decide +kernel
theorem dX12_tray_76 : decode cX12_tray 76 = .ok (.iconst 1, 1) := by decide +kernel
theorem dX12_tray_77 : decode cX12_tray 77 = .ok (.ireturn, 1) := by decide +kernel
theorem dX12_wrongPlace_0 : decode cX12_wrongPlace 0 = .ok (.aload_n 0, 1) := by decide +kernel
theorem dX12_wrongPlace_1 : decode cX12_wrongPlace 1 = .ok (.getfield 43, 3) := by decide +kernel
theorem dX12_wrongPlace_4 : decode cX12_wrongPlace 4 = .ok (.iload_n 1, 1) := by decide +kernel
theorem dX12_wrongPlace_5 : decode cX12_wrongPlace 5 = .ok (.iaload, 1) := by decide +kernel
theorem dX12_wrongPlace_6 : decode cX12_wrongPlace 6 = .ok (.ifCond .ge 8, 3) := by decide +kernel
theorem dX12_wrongPlace_9 : decode cX12_wrongPlace 9 = .ok (.bipush (-11), 2) := by decide +kernel
theorem dX12_wrongPlace_11 : decode cX12_wrongPlace 11 = .ok (.goto 25, 3) := by decide +kernel
theorem dX12_wrongPlace_14 : decode cX12_wrongPlace 14 = .ok (.iload_n 2, 1) := by decide +kernel
theorem dX12_wrongPlace_15 : decode cX12_wrongPlace 15 = .ok (.iconst 0, 1) := by decide +kernel
theorem dX12_wrongPlace_16 : decode cX12_wrongPlace 16 = .ok (.aload_n 0, 1) := by decide +kernel
theorem dX12_wrongPlace_17 : decode cX12_wrongPlace 17 = .ok (.getfield 46, 3) := by decide +kernel
theorem dX12_wrongPlace_20 : decode cX12_wrongPlace 20 = .ok (.iload_n 1, 1) := by decide +kernel
theorem dX12_wrongPlace_21 : decode cX12_wrongPlace 21 = .ok (.iaload, 1) := by decide +kernel
theorem dX12_wrongPlace_22 : decode cX12_wrongPlace 22 = .ok (.iconst 1, 1) := by decide +kernel
theorem dX12_wrongPlace_23 : decode cX12_wrongPlace 23 = .ok (.isub, 1) := by decide +kernel
theorem dX12_wrongPlace_24 : decode cX12_wrongPlace 24 = .ok (.invokestatic 64, 3) := by decide +kernel
theorem dX12_wrongPlace_27 : decode cX12_wrongPlace 27 = .ok (.ifCond .eq 7, 3) := by decide +kernel
theorem dX12_wrongPlace_30 : decode cX12_wrongPlace 30 = .ok (.iconst 0, 1) := by decide +kernel
theorem dX12_wrongPlace_31 : decode cX12_wrongPlace 31 = .ok (.goto 5, 3) := by decide +kernel
theorem dX12_wrongPlace_34 : decode cX12_wrongPlace 34 = .ok (.bipush (-12), 2) := by decide +kernel
theorem dX12_wrongPlace_36 : decode cX12_wrongPlace 36 = .ok (.ireturn, 1) := by decide +kernel
theorem dX12_lays_0 : decode cX12_lays 0 = .ok (.iload_n 1, 1) := by decide +kernel
theorem dX12_lays_1 : decode cX12_lays 1 = .ok (.iconst 0, 1) := by decide +kernel
theorem dX12_lays_2 : decode cX12_lays 2 = .ok (.iconst 3, 1) := by decide +kernel
theorem dX12_lays_3 : decode cX12_lays 3 = .ok (.invokestatic 64, 3) := by decide +kernel
theorem dX12_lays_6 : decode cX12_lays 6 = .ok (.ifCond .eq 16, 3) := by decide +kernel
theorem dX12_lays_9 : decode cX12_lays 9 = .ok (.iload_n 3, 1) := by decide +kernel
theorem dX12_lays_10 : decode cX12_lays 10 = .ok (.iconst (-1), 1) := by decide +kernel
theorem dX12_lays_11 : decode cX12_lays 11 = .ok (.if_icmp .eq 14, 3) := by decide +kernel
theorem dX12_lays_14 : decode cX12_lays 14 = .ok (.aload_n 0, 1) := by decide +kernel
theorem dX12_lays_15 : decode cX12_lays 15 = .ok (.iload_n 3, 1) := by decide +kernel
theorem dX12_lays_16 : decode cX12_lays 16 = .ok (.invokevirtual 98, 3) := by decide +kernel
theorem dX12_lays_19 : decode cX12_lays 19 = .ok (.ifCond .ne 6, 3) := by decide +kernel
theorem dX12_lays_22 : decode cX12_lays 22 = .ok (.bipush (-2), 2) := by decide +kernel
theorem dX12_lays_24 : decode cX12_lays 24 = .ok (.ireturn, 1) := by decide +kernel
theorem dX12_lays_25 : decode cX12_lays 25 = .ok (.aload_n 0, 1) := by decide +kernel
theorem dX12_lays_26 : decode cX12_lays 26 = .ok (.iload_n 1, 1) := by decide +kernel
theorem dX12_lays_27 : decode cX12_lays 27 = .ok (.iload_n 2, 1) := by decide +kernel
theorem dX12_lays_28 : decode cX12_lays 28 = .ok (.invokevirtual 254, 3) := by decide +kernel
theorem dX12_lays_31 : decode cX12_lays 31 = .ok (.istore 4, 2) := by decide +kernel
theorem dX12_lays_33 : decode cX12_lays 33 = .ok (.iload 4, 2) := by decide +kernel
theorem dX12_lays_35 : decode cX12_lays 35 = .ok (.ifCond .eq 6, 3) := by decide +kernel
theorem dX12_lays_38 : decode cX12_lays 38 = .ok (.iload 4, 2) := by decide +kernel
theorem dX12_lays_40 : decode cX12_lays 40 = .ok (.ireturn, 1) := by decide +kernel
theorem dX12_lays_41 : decode cX12_lays 41 = .ok (.iload_n 3, 1) := by decide +kernel
theorem dX12_lays_42 : decode cX12_lays 42 = .ok (.iconst (-1), 1) := by decide +kernel
theorem dX12_lays_43 : decode cX12_lays 43 = .ok (.if_icmp .eq 23, 3) := by decide +kernel
theorem dX12_lays_46 : decode cX12_lays 46 = .ok (.aload_n 0, 1) := by decide +kernel
theorem dX12_lays_47 : decode cX12_lays 47 = .ok (.iload_n 3, 1) := by decide +kernel
theorem dX12_lays_48 : decode cX12_lays 48 = .ok (.invokevirtual 101, 3) := by decide +kernel
theorem dX12_lays_51 : decode cX12_lays 51 = .ok (.aload_n 0, 1) := by decide +kernel
theorem dX12_lays_52 : decode cX12_lays 52 = .ok (.getfield 43, 3) := by decide +kernel
theorem dX12_lays_55 : decode cX12_lays 55 = .ok (.iload_n 1, 1) := by decide +kernel
theorem dX12_lays_56 : decode cX12_lays 56 = .ok (.iaload, 1) := by decide +kernel
theorem dX12_lays_57 : decode cX12_lays 57 = .ok (.invokestatic 104, 3) := by decide +kernel
theorem dX12_lays_60 : decode cX12_lays 60 = .ok (.ifCond .ne 6, 3) := by decide +kernel
theorem dX12_lays_63 : decode cX12_lays 63 = .ok (.bipush (-16), 2) := by decide +kernel
theorem dX12_lays_65 : decode cX12_lays 65 = .ok (.ireturn, 1) := by decide +kernel
theorem dX12_lays_66 : decode cX12_lays 66 = .ok (.aload_n 0, 1) := by decide +kernel
theorem dX12_lays_67 : decode cX12_lays 67 = .ok (.getfield 49, 3) := by decide +kernel
theorem dX12_lays_70 : decode cX12_lays 70 = .ok (.bipush 20, 2) := by decide +kernel
theorem dX12_lays_72 : decode cX12_lays 72 = .ok (.iload_n 1, 1) := by decide +kernel
theorem dX12_lays_73 : decode cX12_lays 73 = .ok (.imul, 1) := by decide +kernel
theorem dX12_lays_74 : decode cX12_lays 74 = .ok (.iload_n 2, 1) := by decide +kernel
theorem dX12_lays_75 : decode cX12_lays 75 = .ok (.iadd, 1) := by decide +kernel
theorem dX12_lays_76 : decode cX12_lays 76 = .ok (.iload_n 3, 1) := by decide +kernel
theorem dX12_lays_77 : decode cX12_lays 77 = .ok (.iastore, 1) := by decide +kernel
theorem dX12_lays_78 : decode cX12_lays 78 = .ok (.iconst 1, 1) := by decide +kernel
theorem dX12_lays_79 : decode cX12_lays 79 = .ok (.ireturn, 1) := by decide +kernel
theorem dX12_laid_0 : decode cX12_laid 0 = .ok (.iload_n 1, 1) := by decide +kernel
theorem dX12_laid_1 : decode cX12_laid 1 = .ok (.iconst 0, 1) := by decide +kernel
theorem dX12_laid_2 : decode cX12_laid 2 = .ok (.iconst 3, 1) := by decide +kernel
theorem dX12_laid_3 : decode cX12_laid 3 = .ok (.invokestatic 64, 3) := by decide +kernel
theorem dX12_laid_6 : decode cX12_laid 6 = .ok (.ifCond .ne 6, 3) := by decide +kernel
theorem dX12_laid_9 : decode cX12_laid 9 = .ok (.bipush (-2), 2) := by decide +kernel
theorem dX12_laid_11 : decode cX12_laid 11 = .ok (.ireturn, 1) := by decide +kernel
theorem dX12_laid_12 : decode cX12_laid 12 = .ok (.aload_n 0, 1) := by decide +kernel
theorem dX12_laid_13 : decode cX12_laid 13 = .ok (.iload_n 1, 1) := by decide +kernel
theorem dX12_laid_14 : decode cX12_laid 14 = .ok (.iload_n 2, 1) := by decide +kernel
theorem dX12_laid_15 : decode cX12_laid 15 = .ok (.invokevirtual 254, 3) := by decide +kernel
theorem dX12_laid_18 : decode cX12_laid 18 = .ok (.istore_n 3, 1) := by decide +kernel
theorem dX12_laid_19 : decode cX12_laid 19 = .ok (.iload_n 3, 1) := by decide +kernel
theorem dX12_laid_20 : decode cX12_laid 20 = .ok (.ifCond .eq 7, 3) := by decide +kernel
theorem dX12_laid_23 : decode cX12_laid 23 = .ok (.iload_n 3, 1) := by decide +kernel
theorem dX12_laid_24 : decode cX12_laid 24 = .ok (.goto 14, 3) := by decide +kernel
theorem dX12_laid_27 : decode cX12_laid 27 = .ok (.aload_n 0, 1) := by decide +kernel
theorem dX12_laid_28 : decode cX12_laid 28 = .ok (.getfield 49, 3) := by decide +kernel
theorem dX12_laid_31 : decode cX12_laid 31 = .ok (.bipush 20, 2) := by decide +kernel
theorem dX12_laid_33 : decode cX12_laid 33 = .ok (.iload_n 1, 1) := by decide +kernel
theorem dX12_laid_34 : decode cX12_laid 34 = .ok (.imul, 1) := by decide +kernel
theorem dX12_laid_35 : decode cX12_laid 35 = .ok (.iload_n 2, 1) := by decide +kernel
theorem dX12_laid_36 : decode cX12_laid 36 = .ok (.iadd, 1) := by decide +kernel
theorem dX12_laid_37 : decode cX12_laid 37 = .ok (.iaload, 1) := by decide +kernel
theorem dX12_laid_38 : decode cX12_laid 38 = .ok (.ireturn, 1) := by decide +kernel
theorem dX12_like_0 : decode cX12_like 0 = .ok (.iload_n 1, 1) := by decide +kernel
theorem dX12_like_1 : decode cX12_like 1 = .ok (.iconst 0, 1) := by decide +kernel
theorem dX12_like_2 : decode cX12_like 2 = .ok (.iconst 3, 1) := by decide +kernel
theorem dX12_like_3 : decode cX12_like 3 = .ok (.invokestatic 64, 3) := by decide +kernel
theorem dX12_like_6 : decode cX12_like 6 = .ok (.ifCond .eq 12, 3) := by decide +kernel
theorem dX12_like_9 : decode cX12_like 9 = .ok (.iload_n 2, 1) := by decide +kernel
theorem dX12_like_10 : decode cX12_like 10 = .ok (.iconst 0, 1) := by decide +kernel
theorem dX12_like_11 : decode cX12_like 11 = .ok (.iconst 3, 1) := by decide +kernel
theorem dX12_like_12 : decode cX12_like 12 = .ok (.invokestatic 64, 3) := by decide +kernel
theorem dX12_like_15 : decode cX12_like 15 = .ok (.ifCond .ne 6, 3) := by decide +kernel
theorem dX12_like_18 : decode cX12_like 18 = .ok (.bipush (-2), 2) := by decide +kernel
theorem dX12_like_20 : decode cX12_like 20 = .ok (.ireturn, 1) := by decide +kernel
theorem dX12_like_21 : decode cX12_like 21 = .ok (.aload_n 0, 1) := by decide +kernel
theorem dX12_like_22 : decode cX12_like 22 = .ok (.getfield 43, 3) := by decide +kernel
theorem dX12_like_25 : decode cX12_like 25 = .ok (.iload_n 2, 1) := by decide +kernel
theorem dX12_like_26 : decode cX12_like 26 = .ok (.iaload, 1) := by decide +kernel
theorem dX12_like_27 : decode cX12_like 27 = .ok (.ifCond .ge 6, 3) := by decide +kernel
theorem dX12_like_30 : decode cX12_like 30 = .ok (.bipush (-11), 2) := by decide +kernel
theorem dX12_like_32 : decode cX12_like 32 = .ok (.ireturn, 1) := by decide +kernel
theorem dX12_like_33 : decode cX12_like 33 = .ok (.aload_n 0, 1) := by decide +kernel
theorem dX12_like_34 : decode cX12_like 34 = .ok (.getfield 43, 3) := by decide +kernel
theorem dX12_like_37 : decode cX12_like 37 = .ok (.iload_n 1, 1) := by decide +kernel
theorem dX12_like_38 : decode cX12_like 38 = .ok (.aload_n 0, 1) := by decide +kernel
theorem dX12_like_39 : decode cX12_like 39 = .ok (.getfield 43, 3) := by decide +kernel
theorem dX12_like_42 : decode cX12_like 42 = .ok (.iload_n 2, 1) := by decide +kernel
theorem dX12_like_43 : decode cX12_like 43 = .ok (.iaload, 1) := by decide +kernel
theorem dX12_like_44 : decode cX12_like 44 = .ok (.iastore, 1) := by decide +kernel
theorem dX12_like_45 : decode cX12_like 45 = .ok (.aload_n 0, 1) := by decide +kernel
theorem dX12_like_46 : decode cX12_like 46 = .ok (.getfield 46, 3) := by decide +kernel
theorem dX12_like_49 : decode cX12_like 49 = .ok (.iload_n 1, 1) := by decide +kernel
theorem dX12_like_50 : decode cX12_like 50 = .ok (.aload_n 0, 1) := by decide +kernel
theorem dX12_like_51 : decode cX12_like 51 = .ok (.getfield 46, 3) := by decide +kernel
theorem dX12_like_54 : decode cX12_like 54 = .ok (.iload_n 2, 1) := by decide +kernel
theorem dX12_like_55 : decode cX12_like 55 = .ok (.iaload, 1) := by decide +kernel
theorem dX12_like_56 : decode cX12_like 56 = .ok (.iastore, 1) := by decide +kernel
theorem dX12_like_57 : decode cX12_like 57 = .ok (.iconst 0, 1) := by decide +kernel
theorem dX12_like_58 : decode cX12_like 58 = .ok (.istore_n 3, 1) := by decide +kernel
theorem dX12_like_59 : decode cX12_like 59 = .ok (.iload_n 3, 1) := by decide +kernel
theorem dX12_like_60 : decode cX12_like 60 = .ok (.aload_n 0, 1) := by decide +kernel
theorem dX12_like_61 : decode cX12_like 61 = .ok (.getfield 46, 3) := by decide +kernel
theorem dX12_like_64 : decode cX12_like 64 = .ok (.iload_n 2, 1) := by decide +kernel
theorem dX12_like_65 : decode cX12_like 65 = .ok (.iaload, 1) := by decide +kernel
theorem dX12_like_66 : decode cX12_like 66 = .ok (.if_icmp .ge 31, 3) := by decide +kernel
theorem dX12_like_69 : decode cX12_like 69 = .ok (.aload_n 0, 1) := by decide +kernel
theorem dX12_like_70 : decode cX12_like 70 = .ok (.getfield 49, 3) := by decide +kernel
theorem dX12_like_73 : decode cX12_like 73 = .ok (.bipush 20, 2) := by decide +kernel
theorem dX12_like_75 : decode cX12_like 75 = .ok (.iload_n 1, 1) := by decide +kernel
theorem dX12_like_76 : decode cX12_like 76 = .ok (.imul, 1) := by decide +kernel
theorem dX12_like_77 : decode cX12_like 77 = .ok (.iload_n 3, 1) := by decide +kernel
theorem dX12_like_78 : decode cX12_like 78 = .ok (.iadd, 1) := by decide +kernel
theorem dX12_like_79 : decode cX12_like 79 = .ok (.aload_n 0, 1) := by decide +kernel
theorem dX12_like_80 : decode cX12_like 80 = .ok (.getfield 49, 3) := by decide +kernel
theorem dX12_like_83 : decode cX12_like 83 = .ok (.bipush 20, 2) := by decide +kernel
theorem dX12_like_85 : decode cX12_like 85 = .ok (.iload_n 2, 1) := by decide +kernel
theorem dX12_like_86 : decode cX12_like 86 = .ok (.imul, 1) := by decide +kernel
theorem dX12_like_87 : decode cX12_like 87 = .ok (.iload_n 3, 1) := by decide +kernel
theorem dX12_like_88 : decode cX12_like 88 = .ok (.iadd, 1) := by decide +kernel
theorem dX12_like_89 : decode cX12_like 89 = .ok (.iaload, 1) := by decide +kernel
theorem dX12_like_90 : decode cX12_like 90 = .ok (.iastore, 1) := by decide +kernel
theorem dX12_like_91 : decode cX12_like 91 = .ok (.iinc 3 1, 3) := by decide +kernel
theorem dX12_like_94 : decode cX12_like 94 = .ok (.goto (-35), 3) := by decide +kernel
theorem dX12_like_97 : decode cX12_like 97 = .ok (.aload_n 0, 1) := by decide +kernel
theorem dX12_like_98 : decode cX12_like 98 = .ok (.getfield 46, 3) := by decide +kernel
theorem dX12_like_101 : decode cX12_like 101 = .ok (.iload_n 1, 1) := by decide +kernel
theorem dX12_like_102 : decode cX12_like 102 = .ok (.iaload, 1) := by decide +kernel
theorem dX12_like_103 : decode cX12_like 103 = .ok (.ireturn, 1) := by decide +kernel
theorem dX12_unlike_0 : decode cX12_unlike 0 = .ok (.aload_n 0, 1) := by decide +kernel
theorem dX12_unlike_1 : decode cX12_unlike 1 = .ok (.invokevirtual 231, 3) := by decide +kernel
theorem dX12_unlike_4 : decode cX12_unlike 4 = .ok (.iconst 0, 1) := by decide +kernel
theorem dX12_unlike_5 : decode cX12_unlike 5 = .ok (.istore_n 2, 1) := by decide +kernel
theorem dX12_unlike_6 : decode cX12_unlike 6 = .ok (.iload_n 2, 1) := by decide +kernel
theorem dX12_unlike_7 : decode cX12_unlike 7 = .ok (.aload_n 0, 1) := by decide +kernel
theorem dX12_unlike_8 : decode cX12_unlike 8 = .ok (.getfield 55, 3) := by decide +kernel
theorem dX12_unlike_11 : decode cX12_unlike 11 = .ok (.iload_n 1, 1) := by decide +kernel
theorem dX12_unlike_12 : decode cX12_unlike 12 = .ok (.iaload, 1) := by decide +kernel
theorem dX12_unlike_13 : decode cX12_unlike 13 = .ok (.if_icmp .ge 44, 3) := by decide +kernel
theorem dX12_unlike_16 : decode cX12_unlike 16 = .ok (.iload_n 2, 1) := by decide +kernel
theorem dX12_unlike_17 : decode cX12_unlike 17 = .ok (.aload_n 0, 1) := by decide +kernel
theorem dX12_unlike_18 : decode cX12_unlike 18 = .ok (.getfield 204, 3) := by decide +kernel
theorem dX12_unlike_21 : decode cX12_unlike 21 = .ok (.if_icmp .ge 36, 3) := by decide +kernel
theorem dX12_unlike_24 : decode cX12_unlike 24 = .ok (.aload_n 0, 1) := by decide +kernel
theorem dX12_unlike_25 : decode cX12_unlike 25 = .ok (.getfield 58, 3) := by decide +kernel
theorem dX12_unlike_28 : decode cX12_unlike 28 = .ok (.bipush 40, 2) := by decide +kernel
theorem dX12_unlike_30 : decode cX12_unlike 30 = .ok (.iload_n 1, 1) := by decide +kernel
theorem dX12_unlike_31 : decode cX12_unlike 31 = .ok (.imul, 1) := by decide +kernel
theorem dX12_unlike_32 : decode cX12_unlike 32 = .ok (.iload_n 2, 1) := by decide +kernel
theorem dX12_unlike_33 : decode cX12_unlike 33 = .ok (.iadd, 1) := by decide +kernel
theorem dX12_unlike_34 : decode cX12_unlike 34 = .ok (.iaload, 1) := by decide +kernel
theorem dX12_unlike_35 : decode cX12_unlike 35 = .ok (.aload_n 0, 1) := by decide +kernel
theorem dX12_unlike_36 : decode cX12_unlike 36 = .ok (.getfield 31, 3) := by decide +kernel
theorem dX12_unlike_39 : decode cX12_unlike 39 = .ok (.iload_n 2, 1) := by decide +kernel
theorem dX12_unlike_40 : decode cX12_unlike 40 = .ok (.iaload, 1) := by decide +kernel
theorem dX12_unlike_41 : decode cX12_unlike 41 = .ok (.aload_n 0, 1) := by decide +kernel
theorem dX12_unlike_42 : decode cX12_unlike 42 = .ok (.getfield 28, 3) := by decide +kernel
theorem dX12_unlike_45 : decode cX12_unlike 45 = .ok (.iload_n 2, 1) := by decide +kernel
theorem dX12_unlike_46 : decode cX12_unlike 46 = .ok (.iaload, 1) := by decide +kernel
theorem dX12_unlike_47 : decode cX12_unlike 47 = .ok (.isub, 1) := by decide +kernel
theorem dX12_unlike_48 : decode cX12_unlike 48 = .ok (.if_icmp .ne 9, 3) := by decide +kernel
theorem dX12_unlike_51 : decode cX12_unlike 51 = .ok (.iinc 2 1, 3) := by decide +kernel
theorem dX12_unlike_54 : decode cX12_unlike 54 = .ok (.goto (-48), 3) := by decide +kernel
theorem dX12_unlike_57 : decode cX12_unlike 57 = .ok (.iload_n 2, 1) := by decide +kernel
theorem dX12_unlike_58 : decode cX12_unlike 58 = .ok (.aload_n 0, 1) := by decide +kernel
theorem dX12_unlike_59 : decode cX12_unlike 59 = .ok (.getfield 55, 3) := by decide +kernel
theorem dX12_unlike_62 : decode cX12_unlike 62 = .ok (.iload_n 1, 1) := by decide +kernel
theorem dX12_unlike_63 : decode cX12_unlike 63 = .ok (.iaload, 1) := by decide +kernel
theorem dX12_unlike_64 : decode cX12_unlike 64 = .ok (.if_icmp .ne 15, 3) := by decide +kernel
theorem dX12_unlike_67 : decode cX12_unlike 67 = .ok (.iload_n 2, 1) := by decide +kernel
theorem dX12_unlike_68 : decode cX12_unlike 68 = .ok (.aload_n 0, 1) := by decide +kernel
theorem dX12_unlike_69 : decode cX12_unlike 69 = .ok (.getfield 204, 3) := by decide +kernel
theorem dX12_unlike_72 : decode cX12_unlike 72 = .ok (.if_icmp .ne 7, 3) := by decide +kernel
theorem dX12_unlike_75 : decode cX12_unlike 75 = .ok (.iconst (-1), 1) := by decide +kernel
theorem dX12_unlike_76 : decode cX12_unlike 76 = .ok (.goto 4, 3) := by decide +kernel
theorem dX12_unlike_79 : decode cX12_unlike 79 = .ok (.iload_n 2, 1) := by decide +kernel
theorem dX12_unlike_80 : decode cX12_unlike 80 = .ok (.ireturn, 1) := by decide +kernel
theorem dX12_tells_0 : decode cX12_tells 0 = .ok (.iload_n 1, 1) := by decide +kernel
theorem dX12_tells_1 : decode cX12_tells 1 = .ok (.invokestatic 257, 3) := by decide +kernel
theorem dX12_tells_4 : decode cX12_tells 4 = .ok (.ifCond .eq 12, 3) := by decide +kernel
theorem dX12_tells_7 : decode cX12_tells 7 = .ok (.iload_n 2, 1) := by decide +kernel
theorem dX12_tells_8 : decode cX12_tells 8 = .ok (.iconst 0, 1) := by decide +kernel
theorem dX12_tells_9 : decode cX12_tells 9 = .ok (.iconst 2, 1) := by decide +kernel
theorem dX12_tells_10 : decode cX12_tells 10 = .ok (.invokestatic 64, 3) := by decide +kernel
theorem dX12_tells_13 : decode cX12_tells 13 = .ok (.ifCond .ne 6, 3) := by decide +kernel
theorem dX12_tells_16 : decode cX12_tells 16 = .ok (.bipush (-2), 2) := by decide +kernel
theorem dX12_tells_18 : decode cX12_tells 18 = .ok (.ireturn, 1) := by decide +kernel
theorem dX12_tells_19 : decode cX12_tells 19 = .ok (.aload_n 0, 1) := by decide +kernel
theorem dX12_tells_20 : decode cX12_tells 20 = .ok (.getfield 52, 3) := by decide +kernel
theorem dX12_tells_23 : decode cX12_tells 23 = .ok (.iload_n 1, 1) := by decide +kernel
theorem dX12_tells_24 : decode cX12_tells 24 = .ok (.iaload, 1) := by decide +kernel
theorem dX12_tells_25 : decode cX12_tells 25 = .ok (.ifCond .ge 6, 3) := by decide +kernel
theorem dX12_tells_28 : decode cX12_tells 28 = .ok (.bipush (-11), 2) := by decide +kernel
theorem dX12_tells_30 : decode cX12_tells 30 = .ok (.ireturn, 1) := by decide +kernel
theorem dX12_tells_31 : decode cX12_tells 31 = .ok (.aload_n 0, 1) := by decide +kernel
theorem dX12_tells_32 : decode cX12_tells 32 = .ok (.getfield 55, 3) := by decide +kernel
theorem dX12_tells_35 : decode cX12_tells 35 = .ok (.iload_n 1, 1) := by decide +kernel
theorem dX12_tells_36 : decode cX12_tells 36 = .ok (.iaload, 1) := by decide +kernel
theorem dX12_tells_37 : decode cX12_tells 37 = .ok (.bipush 6, 2) := by decide +kernel
theorem dX12_tells_39 : decode cX12_tells 39 = .ok (.if_icmp .le 6, 3) := by decide +kernel
theorem dX12_tells_42 : decode cX12_tells 42 = .ok (.bipush (-2), 2) := by decide +kernel
theorem dX12_tells_44 : decode cX12_tells 44 = .ok (.ireturn, 1) := by decide +kernel
theorem dX12_tells_45 : decode cX12_tells 45 = .ok (.aload_n 0, 1) := by decide +kernel
theorem dX12_tells_46 : decode cX12_tells 46 = .ok (.getfield 9, 3) := by decide +kernel
theorem dX12_tells_49 : decode cX12_tells 49 = .ok (.iconst 2, 1) := by decide +kernel
theorem dX12_tells_50 : decode cX12_tells 50 = .ok (.iaload, 1) := by decide +kernel
theorem dX12_tells_51 : decode cX12_tells 51 = .ok (.ifCond .lt 22, 3) := by decide +kernel
theorem dX12_tells_54 : decode cX12_tells 54 = .ok (.aload_n 0, 1) := by decide +kernel
theorem dX12_tells_55 : decode cX12_tells 55 = .ok (.aload_n 0, 1) := by decide +kernel
theorem dX12_tells_56 : decode cX12_tells 56 = .ok (.getfield 9, 3) := by decide +kernel
theorem dX12_tells_59 : decode cX12_tells 59 = .ok (.iconst 2, 1) := by decide +kernel
theorem dX12_tells_60 : decode cX12_tells 60 = .ok (.iaload, 1) := by decide +kernel
theorem dX12_tells_61 : decode cX12_tells 61 = .ok (.bipush 7, 2) := by decide +kernel
theorem dX12_tells_63 : decode cX12_tells 63 = .ok (.aload_n 0, 1) := by decide +kernel
theorem dX12_tells_64 : decode cX12_tells 64 = .ok (.getfield 9, 3) := by decide +kernel
theorem dX12_tells_67 : decode cX12_tells 67 = .ok (.invokevirtual 169, 3) := by decide +kernel
theorem dX12_tells_70 : decode cX12_tells 70 = .ok (.ifCond .ne 6, 3) := by decide +kernel
theorem dX12_tells_73 : decode cX12_tells 73 = .ok (.bipush (-3), 2) := by decide +kernel
theorem dX12_tells_75 : decode cX12_tells 75 = .ok (.ireturn, 1) := by decide +kernel
theorem dX12_tells_76 : decode cX12_tells 76 = .ok (.aload_n 0, 1) := by decide +kernel
theorem dX12_tells_77 : decode cX12_tells 77 = .ok (.invokevirtual 192, 3) := by decide +kernel
theorem dX12_tells_80 : decode cX12_tells 80 = .ok (.iload_n 2, 1) := by decide +kernel
theorem dX12_tells_81 : decode cX12_tells 81 = .ok (.ifCond .ne 9, 3) := by decide +kernel
theorem dX12_tells_84 : decode cX12_tells 84 = .ok (.aload_n 0, 1) := by decide +kernel
theorem dX12_tells_85 : decode cX12_tells 85 = .ok (.iload_n 1, 1) := by decide +kernel
theorem dX12_tells_86 : decode cX12_tells 86 = .ok (.invokevirtual 260, 3) := by decide +kernel
theorem dX12_tells_89 : decode cX12_tells 89 = .ok (.ireturn, 1) := by decide +kernel
theorem dX12_tells_90 : decode cX12_tells 90 = .ok (.iconst 0, 1) := by decide +kernel
theorem dX12_tells_91 : decode cX12_tells 91 = .ok (.istore_n 3, 1) := by decide +kernel
theorem dX12_tells_92 : decode cX12_tells 92 = .ok (.iconst 0, 1) := by decide +kernel
theorem dX12_tells_93 : decode cX12_tells 93 = .ok (.istore 4, 2) := by decide +kernel
theorem dX12_tells_95 : decode cX12_tells 95 = .ok (.iload 4, 2) := by decide +kernel
theorem dX12_tells_97 : decode cX12_tells 97 = .ok (.iload_n 2, 1) := by decide +kernel
theorem dX12_tells_98 : decode cX12_tells 98 = .ok (.iconst 1, 1) := by decide +kernel
theorem dX12_tells_99 : decode cX12_tells 99 = .ok (.if_icmp .ne 7, 3) := by decide +kernel
theorem dX12_tells_102 : decode cX12_tells 102 = .ok (.iconst 4, 1) := by decide +kernel
theorem dX12_tells_103 : decode cX12_tells 103 = .ok (.goto 5, 3) := by decide +kernel
theorem dX12_tells_106 : decode cX12_tells 106 = .ok (.bipush 8, 2) := by decide +kernel
theorem dX12_tells_108 : decode cX12_tells 108 = .ok (.if_icmp .ge 62, 3) := by decide +kernel
theorem dX12_tells_111 : decode cX12_tells 111 = .ok (.aload_n 0, 1) := by decide +kernel
theorem dX12_tells_112 : decode cX12_tells 112 = .ok (.iload_n 2, 1) := by decide +kernel
theorem dX12_tells_113 : decode cX12_tells 113 = .ok (.iconst 1, 1) := by decide +kernel
theorem dX12_tells_114 : decode cX12_tells 114 = .ok (.if_icmp .ne 10, 3) := by decide +kernel
theorem dX12_tells_117 : decode cX12_tells 117 = .ok (.aload_n 0, 1) := by decide +kernel
theorem dX12_tells_118 : decode cX12_tells 118 = .ok (.invokevirtual 181, 3) := by decide +kernel
theorem dX12_tells_121 : decode cX12_tells 121 = .ok (.goto 5, 3) := by decide +kernel
theorem dX12_tells_124 : decode cX12_tells 124 = .ok (.iload 4, 2) := by decide +kernel
theorem dX12_tells_126 : decode cX12_tells 126 = .ok (.iload_n 2, 1) := by decide +kernel
theorem dX12_tells_127 : decode cX12_tells 127 = .ok (.iconst 1, 1) := by decide +kernel
theorem dX12_tells_128 : decode cX12_tells 128 = .ok (.if_icmp .ne 8, 3) := by decide +kernel
theorem dX12_tells_131 : decode cX12_tells 131 = .ok (.iload 4, 2) := by decide +kernel
theorem dX12_tells_133 : decode cX12_tells 133 = .ok (.goto 9, 3) := by decide +kernel
theorem dX12_tells_136 : decode cX12_tells 136 = .ok (.aload_n 0, 1) := by decide +kernel
theorem dX12_tells_137 : decode cX12_tells 137 = .ok (.getfield 9, 3) := by decide +kernel
theorem dX12_tells_140 : decode cX12_tells 140 = .ok (.iconst 3, 1) := by decide +kernel
theorem dX12_tells_141 : decode cX12_tells 141 = .ok (.iaload, 1) := by decide +kernel
theorem dX12_tells_142 : decode cX12_tells 142 = .ok (.invokevirtual 185, 3) := by decide +kernel
theorem dX12_tells_145 : decode cX12_tells 145 = .ok (.iload_n 3, 1) := by decide +kernel
theorem dX12_tells_146 : decode cX12_tells 146 = .ok (.aload_n 0, 1) := by decide +kernel
theorem dX12_tells_147 : decode cX12_tells 147 = .ok (.iload_n 1, 1) := by decide +kernel
theorem dX12_tells_148 : decode cX12_tells 148 = .ok (.invokevirtual 260, 3) := by decide +kernel
theorem dX12_tells_151 : decode cX12_tells 151 = .ok (.ifCond .ge 10, 3) := by decide +kernel
theorem dX12_tells_154 : decode cX12_tells 154 = .ok (.iconst 1, 1) := by decide +kernel
theorem dX12_tells_155 : decode cX12_tells 155 = .ok (.iload 4, 2) := by decide +kernel
theorem dX12_tells_157 : decode cX12_tells 157 = .ok (.ishl, 1) := by decide +kernel
theorem dX12_tells_158 : decode cX12_tells 158 = .ok (.goto 4, 3) := by decide +kernel
theorem dX12_tells_161 : decode cX12_tells 161 = .ok (.iconst 0, 1) := by decide +kernel
theorem dX12_tells_162 : decode cX12_tells 162 = .ok (.ior, 1) := by decide +kernel
theorem dX12_tells_163 : decode cX12_tells 163 = .ok (.istore_n 3, 1) := by decide +kernel
theorem dX12_tells_164 : decode cX12_tells 164 = .ok (.iinc 4 1, 3) := by decide +kernel
theorem dX12_tells_167 : decode cX12_tells 167 = .ok (.goto (-72), 3) := by decide +kernel
theorem dX12_tells_170 : decode cX12_tells 170 = .ok (.iload_n 3, 1) := by decide +kernel
theorem dX12_tells_171 : decode cX12_tells 171 = .ok (.ireturn, 1) := by decide +kernel
theorem dX12_image_0 : decode cX12_image 0 = .ok (.iconst 0, 1) := by decide +kernel
theorem dX12_image_1 : decode cX12_image 1 = .ok (.istore_n 1, 1) := by decide +kernel
theorem dX12_image_2 : decode cX12_image 2 = .ok (.iload_n 1, 1) := by decide +kernel
theorem dX12_image_3 : decode cX12_image 3 = .ok (.sipush 517, 3) := by decide +kernel
theorem dX12_image_6 : decode cX12_image 6 = .ok (.if_icmp .ge 21, 3) := by decide +kernel
theorem dX12_image_9 : decode cX12_image 9 = .ok (.aload_n 0, 1) := by decide +kernel
theorem dX12_image_10 : decode cX12_image 10 = .ok (.getfield 13, 3) := by decide +kernel
theorem dX12_image_13 : decode cX12_image 13 = .ok (.iload_n 1, 1) := by decide +kernel
theorem dX12_image_14 : decode cX12_image 14 = .ok (.aload_n 0, 1) := by decide +kernel
theorem dX12_image_15 : decode cX12_image 15 = .ok (.getfield 9, 3) := by decide +kernel
theorem dX12_image_18 : decode cX12_image 18 = .ok (.iload_n 1, 1) := by decide +kernel
theorem dX12_image_19 : decode cX12_image 19 = .ok (.iaload, 1) := by decide +kernel
theorem dX12_image_20 : decode cX12_image 20 = .ok (.iastore, 1) := by decide +kernel
theorem dX12_image_21 : decode cX12_image 21 = .ok (.iinc 1 1, 3) := by decide +kernel
theorem dX12_image_24 : decode cX12_image 24 = .ok (.goto (-22), 3) := by decide +kernel
theorem dX12_image_27 : decode cX12_image 27 = .ok (.aload_n 0, 1) := by decide +kernel
theorem dX12_image_28 : decode cX12_image 28 = .ok (.iconst 1, 1) := by decide +kernel
theorem dX12_image_29 : decode cX12_image 29 = .ok (.putfield 263, 3) := by decide +kernel
theorem dX12_image_32 : decode cX12_image 32 = .ok (.aload_n 0, 1) := by decide +kernel
theorem dX12_image_33 : decode cX12_image 33 = .ok (.getfield 9, 3) := by decide +kernel
theorem dX12_image_36 : decode cX12_image 36 = .ok (.iconst 0, 1) := by decide +kernel
theorem dX12_image_37 : decode cX12_image 37 = .ok (.iaload, 1) := by decide +kernel
theorem dX12_image_38 : decode cX12_image 38 = .ok (.ireturn, 1) := by decide +kernel
theorem dX12_back_0 : decode cX12_back 0 = .ok (.aload_n 0, 1) := by decide +kernel
theorem dX12_back_1 : decode cX12_back 1 = .ok (.getfield 263, 3) := by decide +kernel
theorem dX12_back_4 : decode cX12_back 4 = .ok (.ifCond .ne 6, 3) := by decide +kernel
theorem dX12_back_7 : decode cX12_back 7 = .ok (.bipush (-3), 2) := by decide +kernel
theorem dX12_back_9 : decode cX12_back 9 = .ok (.ireturn, 1) := by decide +kernel
theorem dX12_back_10 : decode cX12_back 10 = .ok (.iconst 0, 1) := by decide +kernel
theorem dX12_back_11 : decode cX12_back 11 = .ok (.istore_n 1, 1) := by decide +kernel
theorem dX12_back_12 : decode cX12_back 12 = .ok (.iload_n 1, 1) := by decide +kernel
theorem dX12_back_13 : decode cX12_back 13 = .ok (.sipush 517, 3) := by decide +kernel
theorem dX12_back_16 : decode cX12_back 16 = .ok (.if_icmp .ge 21, 3) := by decide +kernel
theorem dX12_back_19 : decode cX12_back 19 = .ok (.aload_n 0, 1) := by decide +kernel
theorem dX12_back_20 : decode cX12_back 20 = .ok (.getfield 9, 3) := by decide +kernel
theorem dX12_back_23 : decode cX12_back 23 = .ok (.iload_n 1, 1) := by decide +kernel
theorem dX12_back_24 : decode cX12_back 24 = .ok (.aload_n 0, 1) := by decide +kernel
theorem dX12_back_25 : decode cX12_back 25 = .ok (.getfield 13, 3) := by decide +kernel
theorem dX12_back_28 : decode cX12_back 28 = .ok (.iload_n 1, 1) := by decide +kernel
theorem dX12_back_29 : decode cX12_back 29 = .ok (.iaload, 1) := by decide +kernel
theorem dX12_back_30 : decode cX12_back 30 = .ok (.iastore, 1) := by decide +kernel
theorem dX12_back_31 : decode cX12_back 31 = .ok (.iinc 1 1, 3) := by decide +kernel
theorem dX12_back_34 : decode cX12_back 34 = .ok (.goto (-22), 3) := by decide +kernel
theorem dX12_back_37 : decode cX12_back 37 = .ok (.aload_n 0, 1) := by decide +kernel
theorem dX12_back_38 : decode cX12_back 38 = .ok (.getfield 9, 3) := by decide +kernel
theorem dX12_back_41 : decode cX12_back 41 = .ok (.iconst 0, 1) := by decide +kernel
theorem dX12_back_42 : decode cX12_back 42 = .ok (.iaload, 1) := by decide +kernel
theorem dX12_back_43 : decode cX12_back 43 = .ok (.ireturn, 1) := by decide +kernel
theorem dX12_count_0 : decode cX12_count 0 = .ok (.iload_n 1, 1) := by decide +kernel
theorem dX12_count_1 : decode cX12_count 1 = .ok (.iconst 2, 1) := by decide +kernel
theorem dX12_count_2 : decode cX12_count 2 = .ok (.if_icmp .ne 16, 3) := by decide +kernel
theorem dX12_count_5 : decode cX12_count 5 = .ok (.aload_n 0, 1) := by decide +kernel
theorem dX12_count_6 : decode cX12_count 6 = .ok (.invokevirtual 238, 3) := by decide +kernel
theorem dX12_count_9 : decode cX12_count 9 = .ok (.aload_n 0, 1) := by decide +kernel
theorem dX12_count_10 : decode cX12_count 10 = .ok (.invokevirtual 231, 3) := by decide +kernel
theorem dX12_count_13 : decode cX12_count 13 = .ok (.aload_n 0, 1) := by decide +kernel
theorem dX12_count_14 : decode cX12_count 14 = .ok (.getfield 204, 3) := by decide +kernel
theorem dX12_count_17 : decode cX12_count 17 = .ok (.ireturn, 1) := by decide +kernel
theorem dX12_count_18 : decode cX12_count 18 = .ok (.iload_n 1, 1) := by decide +kernel
theorem dX12_count_19 : decode cX12_count 19 = .ok (.iconst 3, 1) := by decide +kernel
theorem dX12_count_20 : decode cX12_count 20 = .ok (.if_icmp .ne 7, 3) := by decide +kernel
theorem dX12_count_23 : decode cX12_count 23 = .ok (.aload_n 0, 1) := by decide +kernel
theorem dX12_count_24 : decode cX12_count 24 = .ok (.invokevirtual 192, 3) := by decide +kernel
theorem dX12_count_27 : decode cX12_count 27 = .ok (.iload_n 1, 1) := by decide +kernel
theorem dX12_count_28 : decode cX12_count 28 = .ok (.ifCond .ne 12, 3) := by decide +kernel
theorem dX12_count_31 : decode cX12_count 31 = .ok (.aload_n 0, 1) := by decide +kernel
theorem dX12_count_32 : decode cX12_count 32 = .ok (.getfield 9, 3) := by decide +kernel
theorem dX12_count_35 : decode cX12_count 35 = .ok (.iconst 0, 1) := by decide +kernel
theorem dX12_count_36 : decode cX12_count 36 = .ok (.iaload, 1) := by decide +kernel
theorem dX12_count_37 : decode cX12_count 37 = .ok (.goto 43, 3) := by decide +kernel
theorem dX12_count_40 : decode cX12_count 40 = .ok (.iload_n 1, 1) := by decide +kernel
theorem dX12_count_41 : decode cX12_count 41 = .ok (.iconst 1, 1) := by decide +kernel
theorem dX12_count_42 : decode cX12_count 42 = .ok (.if_icmp .ne 12, 3) := by decide +kernel
theorem dX12_count_45 : decode cX12_count 45 = .ok (.aload_n 0, 1) := by decide +kernel
theorem dX12_count_46 : decode cX12_count 46 = .ok (.getfield 9, 3) := by decide +kernel
theorem dX12_count_49 : decode cX12_count 49 = .ok (.iconst 1, 1) := by decide +kernel
theorem dX12_count_50 : decode cX12_count 50 = .ok (.iaload, 1) := by decide +kernel
theorem dX12_count_51 : decode cX12_count 51 = .ok (.goto 29, 3) := by decide +kernel
theorem dX12_count_54 : decode cX12_count 54 = .ok (.iload_n 1, 1) := by decide +kernel
theorem dX12_count_55 : decode cX12_count 55 = .ok (.iconst 3, 1) := by decide +kernel
theorem dX12_count_56 : decode cX12_count 56 = .ok (.if_icmp .ne 10, 3) := by decide +kernel
theorem dX12_count_59 : decode cX12_count 59 = .ok (.aload_n 0, 1) := by decide +kernel
theorem dX12_count_60 : decode cX12_count 60 = .ok (.getfield 166, 3) := by decide +kernel
theorem dX12_count_63 : decode cX12_count 63 = .ok (.goto 17, 3) := by decide +kernel
theorem dX12_count_66 : decode cX12_count 66 = .ok (.iload_n 1, 1) := by decide +kernel
theorem dX12_count_67 : decode cX12_count 67 = .ok (.iconst 4, 1) := by decide +kernel
theorem dX12_count_68 : decode cX12_count 68 = .ok (.if_icmp .ne 10, 3) := by decide +kernel
theorem dX12_count_71 : decode cX12_count 71 = .ok (.aload_n 0, 1) := by decide +kernel
theorem dX12_count_72 : decode cX12_count 72 = .ok (.getfield 72, 3) := by decide +kernel
theorem dX12_count_75 : decode cX12_count 75 = .ok (.goto 5, 3) := by decide +kernel
theorem dX12_count_78 : decode cX12_count 78 = .ok (.bipush (-2), 2) := by decide +kernel
theorem dX12_count_80 : decode cX12_count 80 = .ok (.ireturn, 1) := by decide +kernel
theorem dX12_isSheet_0 : decode cX12_isSheet 0 = .ok (.iload_n 0, 1) := by decide +kernel
theorem dX12_isSheet_1 : decode cX12_isSheet 1 = .ok (.iconst 0, 1) := by decide +kernel
theorem dX12_isSheet_2 : decode cX12_isSheet 2 = .ok (.iconst 3, 1) := by decide +kernel
theorem dX12_isSheet_3 : decode cX12_isSheet 3 = .ok (.invokestatic 64, 3) := by decide +kernel
theorem dX12_isSheet_6 : decode cX12_isSheet 6 = .ok (.ireturn, 1) := by decide +kernel
theorem dX12_sheet_0 : decode cX12_sheet 0 = .ok (.iload_n 1, 1) := by decide +kernel
theorem dX12_sheet_1 : decode cX12_sheet 1 = .ok (.invokestatic 257, 3) := by decide +kernel
theorem dX12_sheet_4 : decode cX12_sheet 4 = .ok (.ifCond .eq 22, 3) := by decide +kernel
theorem dX12_sheet_7 : decode cX12_sheet 7 = .ok (.iload_n 2, 1) := by decide +kernel
theorem dX12_sheet_8 : decode cX12_sheet 8 = .ok (.iconst (-1), 1) := by decide +kernel
theorem dX12_sheet_9 : decode cX12_sheet 9 = .ok (.iconst 1, 1) := by decide +kernel
theorem dX12_sheet_10 : decode cX12_sheet 10 = .ok (.invokestatic 64, 3) := by decide +kernel
theorem dX12_sheet_13 : decode cX12_sheet 13 = .ok (.ifCond .eq 13, 3) := by decide +kernel
theorem dX12_sheet_16 : decode cX12_sheet 16 = .ok (.iload_n 2, 1) := by decide +kernel
theorem dX12_sheet_17 : decode cX12_sheet 17 = .ok (.ifCond .lt 12, 3) := by decide +kernel
theorem dX12_sheet_20 : decode cX12_sheet 20 = .ok (.iload_n 3, 1) := by decide +kernel
theorem dX12_sheet_21 : decode cX12_sheet 21 = .ok (.bipush 40, 2) := by decide +kernel
theorem dX12_sheet_23 : decode cX12_sheet 23 = .ok (.if_icmp .le 6, 3) := by decide +kernel
theorem dX12_sheet_26 : decode cX12_sheet 26 = .ok (.bipush (-2), 2) := by decide +kernel
theorem dX12_sheet_28 : decode cX12_sheet 28 = .ok (.ireturn, 1) := by decide +kernel
theorem dX12_sheet_29 : decode cX12_sheet 29 = .ok (.iload_n 2, 1) := by decide +kernel
theorem dX12_sheet_30 : decode cX12_sheet 30 = .ok (.ifCond .lt 10, 3) := by decide +kernel
theorem dX12_sheet_33 : decode cX12_sheet 33 = .ok (.iload_n 3, 1) := by decide +kernel
theorem dX12_sheet_34 : decode cX12_sheet 34 = .ok (.ifCond .ge 6, 3) := by decide +kernel
theorem dX12_sheet_37 : decode cX12_sheet 37 = .ok (.bipush (-14), 2) := by decide +kernel
theorem dX12_sheet_39 : decode cX12_sheet 39 = .ok (.ireturn, 1) := by decide +kernel
theorem dX12_sheet_40 : decode cX12_sheet 40 = .ok (.aload_n 0, 1) := by decide +kernel
theorem dX12_sheet_41 : decode cX12_sheet 41 = .ok (.getfield 52, 3) := by decide +kernel
theorem dX12_sheet_44 : decode cX12_sheet 44 = .ok (.iload_n 1, 1) := by decide +kernel
theorem dX12_sheet_45 : decode cX12_sheet 45 = .ok (.iload_n 2, 1) := by decide +kernel
theorem dX12_sheet_46 : decode cX12_sheet 46 = .ok (.iastore, 1) := by decide +kernel
theorem dX12_sheet_47 : decode cX12_sheet 47 = .ok (.aload_n 0, 1) := by decide +kernel
theorem dX12_sheet_48 : decode cX12_sheet 48 = .ok (.getfield 55, 3) := by decide +kernel
theorem dX12_sheet_51 : decode cX12_sheet 51 = .ok (.iload_n 1, 1) := by decide +kernel
theorem dX12_sheet_52 : decode cX12_sheet 52 = .ok (.iload_n 2, 1) := by decide +kernel
theorem dX12_sheet_53 : decode cX12_sheet 53 = .ok (.ifCond .ge 7, 3) := by decide +kernel
theorem dX12_sheet_56 : decode cX12_sheet 56 = .ok (.iconst 0, 1) := by decide +kernel
theorem dX12_sheet_57 : decode cX12_sheet 57 = .ok (.goto 4, 3) := by decide +kernel
theorem dX12_sheet_60 : decode cX12_sheet 60 = .ok (.iload_n 3, 1) := by decide +kernel
theorem dX12_sheet_61 : decode cX12_sheet 61 = .ok (.iastore, 1) := by decide +kernel
theorem dX12_sheet_62 : decode cX12_sheet 62 = .ok (.iconst 0, 1) := by decide +kernel
theorem dX12_sheet_63 : decode cX12_sheet 63 = .ok (.istore 4, 2) := by decide +kernel
theorem dX12_sheet_65 : decode cX12_sheet 65 = .ok (.iload 4, 2) := by decide +kernel
theorem dX12_sheet_67 : decode cX12_sheet 67 = .ok (.aload_n 0, 1) := by decide +kernel
theorem dX12_sheet_68 : decode cX12_sheet 68 = .ok (.getfield 55, 3) := by decide +kernel
theorem dX12_sheet_71 : decode cX12_sheet 71 = .ok (.iload_n 1, 1) := by decide +kernel
theorem dX12_sheet_72 : decode cX12_sheet 72 = .ok (.iaload, 1) := by decide +kernel
theorem dX12_sheet_73 : decode cX12_sheet 73 = .ok (.if_icmp .ge 22, 3) := by decide +kernel
theorem dX12_sheet_76 : decode cX12_sheet 76 = .ok (.aload_n 0, 1) := by decide +kernel
theorem dX12_sheet_77 : decode cX12_sheet 77 = .ok (.getfield 58, 3) := by decide +kernel
theorem dX12_sheet_80 : decode cX12_sheet 80 = .ok (.bipush 40, 2) := by decide +kernel
theorem dX12_sheet_82 : decode cX12_sheet 82 = .ok (.iload_n 1, 1) := by decide +kernel
theorem dX12_sheet_83 : decode cX12_sheet 83 = .ok (.imul, 1) := by decide +kernel
theorem dX12_sheet_84 : decode cX12_sheet 84 = .ok (.iload 4, 2) := by decide +kernel
theorem dX12_sheet_86 : decode cX12_sheet 86 = .ok (.iadd, 1) := by decide +kernel
theorem dX12_sheet_87 : decode cX12_sheet 87 = .ok (.iconst 0, 1) := by decide +kernel
theorem dX12_sheet_88 : decode cX12_sheet 88 = .ok (.iastore, 1) := by decide +kernel
theorem dX12_sheet_89 : decode cX12_sheet 89 = .ok (.iinc 4 1, 3) := by decide +kernel
theorem dX12_sheet_92 : decode cX12_sheet 92 = .ok (.goto (-27), 3) := by decide +kernel
theorem dX12_sheet_95 : decode cX12_sheet 95 = .ok (.iconst 1, 1) := by decide +kernel
theorem dX12_sheet_96 : decode cX12_sheet 96 = .ok (.ireturn, 1) := by decide +kernel
theorem dX12_put_0 : decode cX12_put 0 = .ok (.iload_n 1, 1) := by decide +kernel
theorem dX12_put_1 : decode cX12_put 1 = .ok (.invokestatic 257, 3) := by decide +kernel
theorem dX12_put_4 : decode cX12_put 4 = .ok (.ifCond .ne 6, 3) := by decide +kernel
theorem dX12_put_7 : decode cX12_put 7 = .ok (.bipush (-2), 2) := by decide +kernel
theorem dX12_put_9 : decode cX12_put 9 = .ok (.ireturn, 1) := by decide +kernel
theorem dX12_put_10 : decode cX12_put 10 = .ok (.aload_n 0, 1) := by decide +kernel
theorem dX12_put_11 : decode cX12_put 11 = .ok (.getfield 52, 3) := by decide +kernel
theorem dX12_put_14 : decode cX12_put 14 = .ok (.iload_n 1, 1) := by decide +kernel
theorem dX12_put_15 : decode cX12_put 15 = .ok (.iaload, 1) := by decide +kernel
theorem dX12_put_16 : decode cX12_put 16 = .ok (.ifCond .ge 6, 3) := by decide +kernel
theorem dX12_put_19 : decode cX12_put 19 = .ok (.bipush (-11), 2) := by decide +kernel
theorem dX12_put_21 : decode cX12_put 21 = .ok (.ireturn, 1) := by decide +kernel
theorem dX12_put_22 : decode cX12_put 22 = .ok (.iload_n 2, 1) := by decide +kernel
theorem dX12_put_23 : decode cX12_put 23 = .ok (.iconst 0, 1) := by decide +kernel
theorem dX12_put_24 : decode cX12_put 24 = .ok (.aload_n 0, 1) := by decide +kernel
theorem dX12_put_25 : decode cX12_put 25 = .ok (.getfield 55, 3) := by decide +kernel
theorem dX12_put_28 : decode cX12_put 28 = .ok (.iload_n 1, 1) := by decide +kernel
theorem dX12_put_29 : decode cX12_put 29 = .ok (.iaload, 1) := by decide +kernel
theorem dX12_put_30 : decode cX12_put 30 = .ok (.iconst 1, 1) := by decide +kernel
theorem dX12_put_31 : decode cX12_put 31 = .ok (.isub, 1) := by decide +kernel
theorem dX12_put_32 : decode cX12_put 32 = .ok (.invokestatic 64, 3) := by decide +kernel
theorem dX12_put_35 : decode cX12_put 35 = .ok (.ifCond .ne 6, 3) := by decide +kernel
theorem dX12_put_38 : decode cX12_put 38 = .ok (.bipush (-12), 2) := by decide +kernel
theorem dX12_put_40 : decode cX12_put 40 = .ok (.ireturn, 1) := by decide +kernel
theorem dX12_put_41 : decode cX12_put 41 = .ok (.aload_n 0, 1) := by decide +kernel
theorem dX12_put_42 : decode cX12_put 42 = .ok (.getfield 58, 3) := by decide +kernel
theorem dX12_put_45 : decode cX12_put 45 = .ok (.bipush 40, 2) := by decide +kernel
theorem dX12_put_47 : decode cX12_put 47 = .ok (.iload_n 1, 1) := by decide +kernel
theorem dX12_put_48 : decode cX12_put 48 = .ok (.imul, 1) := by decide +kernel
theorem dX12_put_49 : decode cX12_put 49 = .ok (.iload_n 2, 1) := by decide +kernel
theorem dX12_put_50 : decode cX12_put 50 = .ok (.iadd, 1) := by decide +kernel
theorem dX12_put_51 : decode cX12_put 51 = .ok (.aload_n 0, 1) := by decide +kernel
theorem dX12_put_52 : decode cX12_put 52 = .ok (.getfield 52, 3) := by decide +kernel
theorem dX12_put_55 : decode cX12_put 55 = .ok (.iload_n 1, 1) := by decide +kernel
theorem dX12_put_56 : decode cX12_put 56 = .ok (.iaload, 1) := by decide +kernel
theorem dX12_put_57 : decode cX12_put 57 = .ok (.ifCond .ne 8, 3) := by decide +kernel
theorem dX12_put_60 : decode cX12_put 60 = .ok (.iload_n 3, 1) := by decide +kernel
theorem dX12_put_61 : decode cX12_put 61 = .ok (.i2s, 1) := by decide +kernel
theorem dX12_put_62 : decode cX12_put 62 = .ok (.goto 4, 3) := by decide +kernel
theorem dX12_put_65 : decode cX12_put 65 = .ok (.iload_n 3, 1) := by decide +kernel
theorem dX12_put_66 : decode cX12_put 66 = .ok (.iastore, 1) := by decide +kernel
theorem dX12_put_67 : decode cX12_put 67 = .ok (.iconst 1, 1) := by decide +kernel
theorem dX12_put_68 : decode cX12_put 68 = .ok (.ireturn, 1) := by decide +kernel
theorem dX12_copy_0 : decode cX12_copy 0 = .ok (.iload_n 1, 1) := by decide +kernel
theorem dX12_copy_1 : decode cX12_copy 1 = .ok (.invokestatic 257, 3) := by decide +kernel
theorem dX12_copy_4 : decode cX12_copy 4 = .ok (.ifCond .eq 10, 3) := by decide +kernel
theorem dX12_copy_7 : decode cX12_copy 7 = .ok (.iload_n 3, 1) := by decide +kernel
theorem dX12_copy_8 : decode cX12_copy 8 = .ok (.invokestatic 257, 3) := by decide +kernel
theorem dX12_copy_11 : decode cX12_copy 11 = .ok (.ifCond .ne 6, 3) := by decide +kernel
theorem dX12_copy_14 : decode cX12_copy 14 = .ok (.bipush (-2), 2) := by decide +kernel
theorem dX12_copy_16 : decode cX12_copy 16 = .ok (.ireturn, 1) := by decide +kernel
theorem dX12_copy_17 : decode cX12_copy 17 = .ok (.aload_n 0, 1) := by decide +kernel
theorem dX12_copy_18 : decode cX12_copy 18 = .ok (.getfield 52, 3) := by decide +kernel
theorem dX12_copy_21 : decode cX12_copy 21 = .ok (.iload_n 1, 1) := by decide +kernel
theorem dX12_copy_22 : decode cX12_copy 22 = .ok (.iaload, 1) := by decide +kernel
theorem dX12_copy_23 : decode cX12_copy 23 = .ok (.ifCond .lt 12, 3) := by decide +kernel
theorem dX12_copy_26 : decode cX12_copy 26 = .ok (.aload_n 0, 1) := by decide +kernel
theorem dX12_copy_27 : decode cX12_copy 27 = .ok (.getfield 52, 3) := by decide +kernel
theorem dX12_copy_30 : decode cX12_copy 30 = .ok (.iload_n 3, 1) := by decide +kernel
theorem dX12_copy_31 : decode cX12_copy 31 = .ok (.iaload, 1) := by decide +kernel
theorem dX12_copy_32 : decode cX12_copy 32 = .ok (.ifCond .ge 6, 3) := by decide +kernel
theorem dX12_copy_35 : decode cX12_copy 35 = .ok (.bipush (-11), 2) := by decide +kernel
theorem dX12_copy_37 : decode cX12_copy 37 = .ok (.ireturn, 1) := by decide +kernel
theorem dX12_copy_38 : decode cX12_copy 38 = .ok (.aload_n 0, 1) := by decide +kernel
theorem dX12_copy_39 : decode cX12_copy 39 = .ok (.getfield 52, 3) := by decide +kernel
theorem dX12_copy_42 : decode cX12_copy 42 = .ok (.iload_n 1, 1) := by decide +kernel
theorem dX12_copy_43 : decode cX12_copy 43 = .ok (.iaload, 1) := by decide +kernel
theorem dX12_copy_44 : decode cX12_copy 44 = .ok (.aload_n 0, 1) := by decide +kernel
theorem dX12_copy_45 : decode cX12_copy 45 = .ok (.getfield 52, 3) := by decide +kernel
theorem dX12_copy_48 : decode cX12_copy 48 = .ok (.iload_n 3, 1) := by decide +kernel
theorem dX12_copy_49 : decode cX12_copy 49 = .ok (.iaload, 1) := by decide +kernel
theorem dX12_copy_50 : decode cX12_copy 50 = .ok (.if_icmp .eq 6, 3) := by decide +kernel
theorem dX12_copy_53 : decode cX12_copy 53 = .ok (.bipush (-13), 2) := by decide +kernel
theorem dX12_copy_55 : decode cX12_copy 55 = .ok (.ireturn, 1) := by decide +kernel
theorem dX12_copy_56 : decode cX12_copy 56 = .ok (.iload 5, 2) := by decide +kernel
theorem dX12_copy_58 : decode cX12_copy 58 = .ok (.ifCond .lt 39, 3) := by decide +kernel
theorem dX12_copy_61 : decode cX12_copy 61 = .ok (.iload_n 2, 1) := by decide +kernel
theorem dX12_copy_62 : decode cX12_copy 62 = .ok (.ifCond .lt 35, 3) := by decide +kernel
theorem dX12_copy_65 : decode cX12_copy 65 = .ok (.iload 4, 2) := by decide +kernel
theorem dX12_copy_67 : decode cX12_copy 67 = .ok (.ifCond .lt 30, 3) := by decide +kernel
theorem dX12_copy_70 : decode cX12_copy 70 = .ok (.iload_n 2, 1) := by decide +kernel
theorem dX12_copy_71 : decode cX12_copy 71 = .ok (.aload_n 0, 1) := by decide +kernel
theorem dX12_copy_72 : decode cX12_copy 72 = .ok (.getfield 55, 3) := by decide +kernel
theorem dX12_copy_75 : decode cX12_copy 75 = .ok (.iload_n 1, 1) := by decide +kernel
theorem dX12_copy_76 : decode cX12_copy 76 = .ok (.iaload, 1) := by decide +kernel
theorem dX12_copy_77 : decode cX12_copy 77 = .ok (.iload 5, 2) := by decide +kernel
theorem dX12_copy_79 : decode cX12_copy 79 = .ok (.isub, 1) := by decide +kernel
theorem dX12_copy_80 : decode cX12_copy 80 = .ok (.if_icmp .gt 17, 3) := by decide +kernel
theorem dX12_copy_83 : decode cX12_copy 83 = .ok (.iload 4, 2) := by decide +kernel
theorem dX12_copy_85 : decode cX12_copy 85 = .ok (.aload_n 0, 1) := by decide +kernel
theorem dX12_copy_86 : decode cX12_copy 86 = .ok (.getfield 55, 3) := by decide +kernel
theorem dX12_copy_89 : decode cX12_copy 89 = .ok (.iload_n 3, 1) := by decide +kernel
theorem dX12_copy_90 : decode cX12_copy 90 = .ok (.iaload, 1) := by decide +kernel
theorem dX12_copy_91 : decode cX12_copy 91 = .ok (.iload 5, 2) := by decide +kernel
theorem dX12_copy_93 : decode cX12_copy 93 = .ok (.isub, 1) := by decide +kernel
theorem dX12_copy_94 : decode cX12_copy 94 = .ok (.if_icmp .le 6, 3) := by decide +kernel
end
section
theorem dX12_copy_97 : decode cX12_copy 97 = .ok (.bipush (-12), 2) := by decide +kernel
theorem dX12_copy_99 : decode cX12_copy 99 = .ok (.ireturn, 1) := by decide +kernel
theorem dX12_copy_100 : decode cX12_copy 100 = .ok (.iconst 0, 1) := by decide +kernel
theorem dX12_copy_101 : decode cX12_copy 101 = .ok (.istore 6, 2) := by decide +kernel
theorem dX12_copy_103 : decode cX12_copy 103 = .ok (.iload 6, 2) := by decide +kernel
theorem dX12_copy_105 : decode cX12_copy 105 = .ok (.iload 5, 2) := by decide +kernel
theorem dX12_copy_107 : decode cX12_copy 107 = .ok (.if_icmp .ge 30, 3) := by decide +kernel
theorem dX12_copy_110 : decode cX12_copy 110 = .ok (.aload_n 0, 1) := by decide +kernel
theorem dX12_copy_111 : decode cX12_copy 111 = .ok (.getfield 61, 3) := by decide +kernel
theorem dX12_copy_114 : decode cX12_copy 114 = .ok (.iload 6, 2) := by decide +kernel
theorem dX12_copy_116 : decode cX12_copy 116 = .ok (.aload_n 0, 1) := by decide +kernel
theorem dX12_copy_117 : decode cX12_copy 117 = .ok (.getfield 58, 3) := by decide +kernel
theorem dX12_copy_120 : decode cX12_copy 120 = .ok (.bipush 40, 2) := by decide +kernel
theorem dX12_copy_122 : decode cX12_copy 122 = .ok (.iload_n 1, 1) := by decide +kernel
theorem dX12_copy_123 : decode cX12_copy 123 = .ok (.imul, 1) := by decide +kernel
theorem dX12_copy_124 : decode cX12_copy 124 = .ok (.iload_n 2, 1) := by decide +kernel
theorem dX12_copy_125 : decode cX12_copy 125 = .ok (.iadd, 1) := by decide +kernel
theorem dX12_copy_126 : decode cX12_copy 126 = .ok (.iload 6, 2) := by decide +kernel
theorem dX12_copy_128 : decode cX12_copy 128 = .ok (.iadd, 1) := by decide +kernel
theorem dX12_copy_129 : decode cX12_copy 129 = .ok (.iaload, 1) := by decide +kernel
theorem dX12_copy_130 : decode cX12_copy 130 = .ok (.iastore, 1) := by decide +kernel
theorem dX12_copy_131 : decode cX12_copy 131 = .ok (.iinc 6 1, 3) := by decide +kernel
theorem dX12_copy_134 : decode cX12_copy 134 = .ok (.goto (-31), 3) := by decide +kernel
theorem dX12_copy_137 : decode cX12_copy 137 = .ok (.iconst 0, 1) := by decide +kernel
theorem dX12_copy_138 : decode cX12_copy 138 = .ok (.istore 6, 2) := by decide +kernel
theorem dX12_copy_140 : decode cX12_copy 140 = .ok (.iload 6, 2) := by decide +kernel
theorem dX12_copy_142 : decode cX12_copy 142 = .ok (.iload 5, 2) := by decide +kernel
theorem dX12_copy_144 : decode cX12_copy 144 = .ok (.if_icmp .ge 31, 3) := by decide +kernel
theorem dX12_copy_147 : decode cX12_copy 147 = .ok (.aload_n 0, 1) := by decide +kernel
theorem dX12_copy_148 : decode cX12_copy 148 = .ok (.getfield 58, 3) := by decide +kernel
theorem dX12_copy_151 : decode cX12_copy 151 = .ok (.bipush 40, 2) := by decide +kernel
theorem dX12_copy_153 : decode cX12_copy 153 = .ok (.iload_n 3, 1) := by decide +kernel
theorem dX12_copy_154 : decode cX12_copy 154 = .ok (.imul, 1) := by decide +kernel
theorem dX12_copy_155 : decode cX12_copy 155 = .ok (.iload 4, 2) := by decide +kernel
theorem dX12_copy_157 : decode cX12_copy 157 = .ok (.iadd, 1) := by decide +kernel
theorem dX12_copy_158 : decode cX12_copy 158 = .ok (.iload 6, 2) := by decide +kernel
theorem dX12_copy_160 : decode cX12_copy 160 = .ok (.iadd, 1) := by decide +kernel
theorem dX12_copy_161 : decode cX12_copy 161 = .ok (.aload_n 0, 1) := by decide +kernel
theorem dX12_copy_162 : decode cX12_copy 162 = .ok (.getfield 61, 3) := by decide +kernel
theorem dX12_copy_165 : decode cX12_copy 165 = .ok (.iload 6, 2) := by decide +kernel
theorem dX12_copy_167 : decode cX12_copy 167 = .ok (.iaload, 1) := by decide +kernel
theorem dX12_copy_168 : decode cX12_copy 168 = .ok (.iastore, 1) := by decide +kernel
theorem dX12_copy_169 : decode cX12_copy 169 = .ok (.iinc 6 1, 3) := by decide +kernel
theorem dX12_copy_172 : decode cX12_copy 172 = .ok (.goto (-32), 3) := by decide +kernel
theorem dX12_copy_175 : decode cX12_copy 175 = .ok (.iload 5, 2) := by decide +kernel
theorem dX12_copy_177 : decode cX12_copy 177 = .ok (.ireturn, 1) := by decide +kernel
theorem dJxf58ca_isNaN_12338_0 : decode cJxf58ca_isNaN_12338 0 = .ok (.fload_n 0, 1) := by decide +kernel
theorem dJxf58ca_isNaN_12338_1 : decode cJxf58ca_isNaN_12338 1 = .ok (.fload_n 0, 1) := by decide +kernel
theorem dJxf58ca_isNaN_12338_2 : decode cJxf58ca_isNaN_12338 2 = .ok (.fcmp .l, 1) := by decide +kernel
theorem dJxf58ca_isNaN_12338_3 : decode cJxf58ca_isNaN_12338 3 = .ok (.ifCond .eq 7, 3) := by decide +kernel
theorem dJxf58ca_isNaN_12338_6 : decode cJxf58ca_isNaN_12338 6 = .ok (.iconst 1, 1) := by decide +kernel
theorem dJxf58ca_isNaN_12338_7 : decode cJxf58ca_isNaN_12338 7 = .ok (.goto 4, 3) := by decide +kernel
theorem dJxf58ca_isNaN_12338_10 : decode cJxf58ca_isNaN_12338 10 = .ok (.iconst 0, 1) := by decide +kernel
theorem dJxf58ca_isNaN_12338_11 : decode cJxf58ca_isNaN_12338 11 = .ok (.ireturn, 1) := by decide +kernel
theorem dJxf58ca_floatToIntBits_5c35a_0 : decode cJxf58ca_floatToIntBits_5c35a 0 = .ok (.fload_n 0, 1) := by decide +kernel
theorem dJxf58ca_floatToIntBits_5c35a_1 : decode cJxf58ca_floatToIntBits_5c35a 1 = .ok (.invokestatic 59, 3) := by decide +kernel
theorem dJxf58ca_floatToIntBits_5c35a_4 : decode cJxf58ca_floatToIntBits_5c35a 4 = .ok (.ifCond .ne 8, 3) := by decide +kernel
theorem dJxf58ca_floatToIntBits_5c35a_7 : decode cJxf58ca_floatToIntBits_5c35a 7 = .ok (.fload_n 0, 1) := by decide +kernel
theorem dJxf58ca_floatToIntBits_5c35a_8 : decode cJxf58ca_floatToIntBits_5c35a 8 = .ok (.invokestatic 74, 3) := by decide +kernel
theorem dJxf58ca_floatToIntBits_5c35a_11 : decode cJxf58ca_floatToIntBits_5c35a 11 = .ok (.ireturn, 1) := by decide +kernel
theorem dJxf58ca_floatToIntBits_5c35a_12 : decode cJxf58ca_floatToIntBits_5c35a 12 = .ok (.ldc 77, 2) := by decide +kernel
theorem dJxf58ca_floatToIntBits_5c35a_14 : decode cJxf58ca_floatToIntBits_5c35a 14 = .ok (.ireturn, 1) := by decide +kernel
theorem dJ9_max_7cf53_0 : decode cJ9_max_7cf53 0 = .ok (.iload_n 0, 1) := by decide +kernel
theorem dJ9_max_7cf53_1 : decode cJ9_max_7cf53 1 = .ok (.iload_n 1, 1) := by decide +kernel
theorem dJ9_max_7cf53_2 : decode cJ9_max_7cf53 2 = .ok (.if_icmp .lt 7, 3) := by decide +kernel
theorem dJ9_max_7cf53_5 : decode cJ9_max_7cf53 5 = .ok (.iload_n 0, 1) := by decide +kernel
theorem dJ9_max_7cf53_6 : decode cJ9_max_7cf53 6 = .ok (.goto 4, 3) := by decide +kernel
theorem dJ9_max_7cf53_9 : decode cJ9_max_7cf53 9 = .ok (.iload_n 1, 1) := by decide +kernel
theorem dJ9_max_7cf53_10 : decode cJ9_max_7cf53 10 = .ok (.ireturn, 1) := by decide +kernel
theorem dJ9_min_7cf53_0 : decode cJ9_min_7cf53 0 = .ok (.iload_n 0, 1) := by decide +kernel
theorem dJ9_min_7cf53_1 : decode cJ9_min_7cf53 1 = .ok (.iload_n 1, 1) := by decide +kernel
theorem dJ9_min_7cf53_2 : decode cJ9_min_7cf53 2 = .ok (.if_icmp .gt 7, 3) := by decide +kernel
theorem dJ9_min_7cf53_5 : decode cJ9_min_7cf53 5 = .ok (.iload_n 0, 1) := by decide +kernel
theorem dJ9_min_7cf53_6 : decode cJ9_min_7cf53 6 = .ok (.goto 4, 3) := by decide +kernel
theorem dJ9_min_7cf53_9 : decode cJ9_min_7cf53 9 = .ok (.iload_n 1, 1) := by decide +kernel
theorem dJ9_min_7cf53_10 : decode cJ9_min_7cf53 10 = .ok (.ireturn, 1) := by decide +kernel
theorem dJ7_fill_53178_0 : decode cJ7_fill_53178 0 = .ok (.iconst 0, 1) := by decide +kernel
theorem dJ7_fill_53178_1 : decode cJ7_fill_53178 1 = .ok (.istore_n 2, 1) := by decide +kernel
theorem dJ7_fill_53178_2 : decode cJ7_fill_53178 2 = .ok (.aload_n 0, 1) := by decide +kernel
theorem dJ7_fill_53178_3 : decode cJ7_fill_53178 3 = .ok (.arraylength, 1) := by decide +kernel
theorem dJ7_fill_53178_4 : decode cJ7_fill_53178 4 = .ok (.istore_n 3, 1) := by decide +kernel
theorem dJ7_fill_53178_5 : decode cJ7_fill_53178 5 = .ok (.iload_n 2, 1) := by decide +kernel
theorem dJ7_fill_53178_6 : decode cJ7_fill_53178 6 = .ok (.iload_n 3, 1) := by decide +kernel
theorem dJ7_fill_53178_7 : decode cJ7_fill_53178 7 = .ok (.if_icmp .ge 13, 3) := by decide +kernel
theorem dJ7_fill_53178_10 : decode cJ7_fill_53178 10 = .ok (.aload_n 0, 1) := by decide +kernel
theorem dJ7_fill_53178_11 : decode cJ7_fill_53178 11 = .ok (.iload_n 2, 1) := by decide +kernel
theorem dJ7_fill_53178_12 : decode cJ7_fill_53178 12 = .ok (.iload_n 1, 1) := by decide +kernel
theorem dJ7_fill_53178_13 : decode cJ7_fill_53178 13 = .ok (.iastore, 1) := by decide +kernel
theorem dJ7_fill_53178_14 : decode cJ7_fill_53178 14 = .ok (.iinc 2 1, 3) := by decide +kernel
theorem dJ7_fill_53178_17 : decode cJ7_fill_53178 17 = .ok (.goto (-12), 3) := by decide +kernel
theorem dJ7_fill_53178_20 : decode cJ7_fill_53178 20 = .ok (.return_, 1) := by decide +kernel
theorem dL_law_0 : decode cL_law 0 = .ok (.new 7, 3) := by decide +kernel
theorem dL_law_3 : decode cL_law 3 = .ok (.dup, 1) := by decide +kernel
theorem dL_law_4 : decode cL_law 4 = .ok (.invokespecial 9, 3) := by decide +kernel
theorem dL_law_7 : decode cL_law 7 = .ok (.astore_n 1, 1) := by decide +kernel
theorem dL_law_8 : decode cL_law 8 = .ok (.new 10, 3) := by decide +kernel
theorem dL_law_11 : decode cL_law 11 = .ok (.dup, 1) := by decide +kernel
theorem dL_law_12 : decode cL_law 12 = .ok (.invokespecial 12, 3) := by decide +kernel
theorem dL_law_15 : decode cL_law 15 = .ok (.astore_n 2, 1) := by decide +kernel
theorem dL_law_16 : decode cL_law 16 = .ok (.iconst 0, 1) := by decide +kernel
theorem dL_law_17 : decode cL_law 17 = .ok (.istore_n 3, 1) := by decide +kernel
theorem dL_law_18 : decode cL_law 18 = .ok (.iload_n 3, 1) := by decide +kernel
theorem dL_law_19 : decode cL_law 19 = .ok (.aload_n 0, 1) := by decide +kernel
theorem dL_law_20 : decode cL_law 20 = .ok (.arraylength, 1) := by decide +kernel
theorem dL_law_21 : decode cL_law 21 = .ok (.bipush 7, 2) := by decide +kernel
theorem dL_law_23 : decode cL_law 23 = .ok (.isub, 1) := by decide +kernel
theorem dL_law_24 : decode cL_law 24 = .ok (.if_icmp .gt 1135, 3) := by decide +kernel
theorem dL_law_27 : decode cL_law 27 = .ok (.aload_n 0, 1) := by decide +kernel
theorem dL_law_28 : decode cL_law 28 = .ok (.iload_n 3, 1) := by decide +kernel
theorem dL_law_29 : decode cL_law 29 = .ok (.iaload, 1) := by decide +kernel
theorem dL_law_30 : decode cL_law 30 = .ok (.bipush 31, 2) := by decide +kernel
theorem dL_law_32 : decode cL_law 32 = .ok (.iand, 1) := by decide +kernel
theorem dL_law_33 : decode cL_law 33 = .ok (.tableswitch 1120 0 28 #[131, 206, 249, 292, 305, 338, 371, 414, 457, 490, 523, 556, 579, 602, 615, 638, 661, 694, 737, 780, 823, 856, 889, 922, 935, 948, 971, 1014, 1057], 131) := by decide +kernel
theorem dL_law_164 : decode cL_law 164 = .ok (.aload_n 1, 1) := by decide +kernel
theorem dL_law_165 : decode cL_law 165 = .ok (.aload_n 0, 1) := by decide +kernel
theorem dL_law_166 : decode cL_law 166 = .ok (.iload_n 3, 1) := by decide +kernel
theorem dL_law_167 : decode cL_law 167 = .ok (.iconst 1, 1) := by decide +kernel
theorem dL_law_168 : decode cL_law 168 = .ok (.iadd, 1) := by decide +kernel
theorem dL_law_169 : decode cL_law 169 = .ok (.iaload, 1) := by decide +kernel
theorem dL_law_170 : decode cL_law 170 = .ok (.aload_n 0, 1) := by decide +kernel
theorem dL_law_171 : decode cL_law 171 = .ok (.iload_n 3, 1) := by decide +kernel
theorem dL_law_172 : decode cL_law 172 = .ok (.iconst 2, 1) := by decide +kernel
theorem dL_law_173 : decode cL_law 173 = .ok (.iadd, 1) := by decide +kernel
theorem dL_law_174 : decode cL_law 174 = .ok (.iaload, 1) := by decide +kernel
theorem dL_law_175 : decode cL_law 175 = .ok (.aload_n 0, 1) := by decide +kernel
theorem dL_law_176 : decode cL_law 176 = .ok (.iload_n 3, 1) := by decide +kernel
theorem dL_law_177 : decode cL_law 177 = .ok (.iconst 3, 1) := by decide +kernel
theorem dL_law_178 : decode cL_law 178 = .ok (.iadd, 1) := by decide +kernel
theorem dL_law_179 : decode cL_law 179 = .ok (.iaload, 1) := by decide +kernel
theorem dL_law_180 : decode cL_law 180 = .ok (.aload_n 0, 1) := by decide +kernel
theorem dL_law_181 : decode cL_law 181 = .ok (.iload_n 3, 1) := by decide +kernel
theorem dL_law_182 : decode cL_law 182 = .ok (.iconst 4, 1) := by decide +kernel
theorem dL_law_183 : decode cL_law 183 = .ok (.iadd, 1) := by decide +kernel
theorem dL_law_184 : decode cL_law 184 = .ok (.iaload, 1) := by decide +kernel
theorem dL_law_185 : decode cL_law 185 = .ok (.aload_n 0, 1) := by decide +kernel
theorem dL_law_186 : decode cL_law 186 = .ok (.iload_n 3, 1) := by decide +kernel
theorem dL_law_187 : decode cL_law 187 = .ok (.iconst 5, 1) := by decide +kernel
theorem dL_law_188 : decode cL_law 188 = .ok (.iadd, 1) := by decide +kernel
theorem dL_law_189 : decode cL_law 189 = .ok (.iaload, 1) := by decide +kernel
theorem dL_law_190 : decode cL_law 190 = .ok (.aload_n 0, 1) := by decide +kernel
theorem dL_law_191 : decode cL_law 191 = .ok (.iload_n 3, 1) := by decide +kernel
theorem dL_law_192 : decode cL_law 192 = .ok (.bipush 6, 2) := by decide +kernel
theorem dL_law_194 : decode cL_law 194 = .ok (.iadd, 1) := by decide +kernel
theorem dL_law_195 : decode cL_law 195 = .ok (.iaload, 1) := by decide +kernel
theorem dL_law_196 : decode cL_law 196 = .ok (.invokevirtual 13, 3) := by decide +kernel
theorem dL_law_199 : decode cL_law 199 = .ok (.aload_n 2, 1) := by decide +kernel
theorem dL_law_200 : decode cL_law 200 = .ok (.aload_n 0, 1) := by decide +kernel
theorem dL_law_201 : decode cL_law 201 = .ok (.iload_n 3, 1) := by decide +kernel
theorem dL_law_202 : decode cL_law 202 = .ok (.iconst 1, 1) := by decide +kernel
theorem dL_law_203 : decode cL_law 203 = .ok (.iadd, 1) := by decide +kernel
theorem dL_law_204 : decode cL_law 204 = .ok (.iaload, 1) := by decide +kernel
theorem dL_law_205 : decode cL_law 205 = .ok (.aload_n 0, 1) := by decide +kernel
theorem dL_law_206 : decode cL_law 206 = .ok (.iload_n 3, 1) := by decide +kernel
theorem dL_law_207 : decode cL_law 207 = .ok (.iconst 2, 1) := by decide +kernel
theorem dL_law_208 : decode cL_law 208 = .ok (.iadd, 1) := by decide +kernel
theorem dL_law_209 : decode cL_law 209 = .ok (.iaload, 1) := by decide +kernel
theorem dL_law_210 : decode cL_law 210 = .ok (.aload_n 0, 1) := by decide +kernel
theorem dL_law_211 : decode cL_law 211 = .ok (.iload_n 3, 1) := by decide +kernel
theorem dL_law_212 : decode cL_law 212 = .ok (.iconst 3, 1) := by decide +kernel
theorem dL_law_213 : decode cL_law 213 = .ok (.iadd, 1) := by decide +kernel
theorem dL_law_214 : decode cL_law 214 = .ok (.iaload, 1) := by decide +kernel
theorem dL_law_215 : decode cL_law 215 = .ok (.aload_n 0, 1) := by decide +kernel
theorem dL_law_216 : decode cL_law 216 = .ok (.iload_n 3, 1) := by decide +kernel
theorem dL_law_217 : decode cL_law 217 = .ok (.iconst 4, 1) := by decide +kernel
theorem dL_law_218 : decode cL_law 218 = .ok (.iadd, 1) := by decide +kernel
theorem dL_law_219 : decode cL_law 219 = .ok (.iaload, 1) := by decide +kernel
theorem dL_law_220 : decode cL_law 220 = .ok (.aload_n 0, 1) := by decide +kernel
theorem dL_law_221 : decode cL_law 221 = .ok (.iload_n 3, 1) := by decide +kernel
theorem dL_law_222 : decode cL_law 222 = .ok (.iconst 5, 1) := by decide +kernel
theorem dL_law_223 : decode cL_law 223 = .ok (.iadd, 1) := by decide +kernel
theorem dL_law_224 : decode cL_law 224 = .ok (.iaload, 1) := by decide +kernel
theorem dL_law_225 : decode cL_law 225 = .ok (.aload_n 0, 1) := by decide +kernel
theorem dL_law_226 : decode cL_law 226 = .ok (.iload_n 3, 1) := by decide +kernel
theorem dL_law_227 : decode cL_law 227 = .ok (.bipush 6, 2) := by decide +kernel
theorem dL_law_229 : decode cL_law 229 = .ok (.iadd, 1) := by decide +kernel
theorem dL_law_230 : decode cL_law 230 = .ok (.iaload, 1) := by decide +kernel
theorem dL_law_231 : decode cL_law 231 = .ok (.invokevirtual 17, 3) := by decide +kernel
theorem dL_law_234 : decode cL_law 234 = .ok (.if_icmp .eq 919, 3) := by decide +kernel
theorem dL_law_237 : decode cL_law 237 = .ok (.iconst 0, 1) := by decide +kernel
theorem dL_law_238 : decode cL_law 238 = .ok (.ireturn, 1) := by decide +kernel
theorem dL_law_239 : decode cL_law 239 = .ok (.aload_n 1, 1) := by decide +kernel
theorem dL_law_240 : decode cL_law 240 = .ok (.aload_n 0, 1) := by decide +kernel
theorem dL_law_241 : decode cL_law 241 = .ok (.iload_n 3, 1) := by decide +kernel
theorem dL_law_242 : decode cL_law 242 = .ok (.iconst 1, 1) := by decide +kernel
theorem dL_law_243 : decode cL_law 243 = .ok (.iadd, 1) := by decide +kernel
theorem dL_law_244 : decode cL_law 244 = .ok (.iaload, 1) := by decide +kernel
theorem dL_law_245 : decode cL_law 245 = .ok (.aload_n 0, 1) := by decide +kernel
theorem dL_law_246 : decode cL_law 246 = .ok (.iload_n 3, 1) := by decide +kernel
theorem dL_law_247 : decode cL_law 247 = .ok (.iconst 2, 1) := by decide +kernel
theorem dL_law_248 : decode cL_law 248 = .ok (.iadd, 1) := by decide +kernel
theorem dL_law_249 : decode cL_law 249 = .ok (.iaload, 1) := by decide +kernel
theorem dL_law_250 : decode cL_law 250 = .ok (.aload_n 0, 1) := by decide +kernel
theorem dL_law_251 : decode cL_law 251 = .ok (.iload_n 3, 1) := by decide +kernel
theorem dL_law_252 : decode cL_law 252 = .ok (.iconst 3, 1) := by decide +kernel
theorem dL_law_253 : decode cL_law 253 = .ok (.iadd, 1) := by decide +kernel
theorem dL_law_254 : decode cL_law 254 = .ok (.iaload, 1) := by decide +kernel
theorem dL_law_255 : decode cL_law 255 = .ok (.invokevirtual 18, 3) := by decide +kernel
theorem dL_law_258 : decode cL_law 258 = .ok (.aload_n 2, 1) := by decide +kernel
theorem dL_law_259 : decode cL_law 259 = .ok (.aload_n 0, 1) := by decide +kernel
theorem dL_law_260 : decode cL_law 260 = .ok (.iload_n 3, 1) := by decide +kernel
theorem dL_law_261 : decode cL_law 261 = .ok (.iconst 1, 1) := by decide +kernel
theorem dL_law_262 : decode cL_law 262 = .ok (.iadd, 1) := by decide +kernel
theorem dL_law_263 : decode cL_law 263 = .ok (.iaload, 1) := by decide +kernel
theorem dL_law_264 : decode cL_law 264 = .ok (.aload_n 0, 1) := by decide +kernel
theorem dL_law_265 : decode cL_law 265 = .ok (.iload_n 3, 1) := by decide +kernel
theorem dL_law_266 : decode cL_law 266 = .ok (.iconst 2, 1) := by decide +kernel
theorem dL_law_267 : decode cL_law 267 = .ok (.iadd, 1) := by decide +kernel
theorem dL_law_268 : decode cL_law 268 = .ok (.iaload, 1) := by decide +kernel
theorem dL_law_269 : decode cL_law 269 = .ok (.aload_n 0, 1) := by decide +kernel
theorem dL_law_270 : decode cL_law 270 = .ok (.iload_n 3, 1) := by decide +kernel
theorem dL_law_271 : decode cL_law 271 = .ok (.iconst 3, 1) := by decide +kernel
theorem dL_law_272 : decode cL_law 272 = .ok (.iadd, 1) := by decide +kernel
theorem dL_law_273 : decode cL_law 273 = .ok (.iaload, 1) := by decide +kernel
theorem dL_law_274 : decode cL_law 274 = .ok (.invokevirtual 22, 3) := by decide +kernel
theorem dL_law_277 : decode cL_law 277 = .ok (.if_icmp .eq 876, 3) := by decide +kernel
theorem dL_law_280 : decode cL_law 280 = .ok (.iconst 0, 1) := by decide +kernel
theorem dL_law_281 : decode cL_law 281 = .ok (.ireturn, 1) := by decide +kernel
theorem dL_law_282 : decode cL_law 282 = .ok (.aload_n 1, 1) := by decide +kernel
theorem dL_law_283 : decode cL_law 283 = .ok (.aload_n 0, 1) := by decide +kernel
theorem dL_law_284 : decode cL_law 284 = .ok (.iload_n 3, 1) := by decide +kernel
theorem dL_law_285 : decode cL_law 285 = .ok (.iconst 1, 1) := by decide +kernel
theorem dL_law_286 : decode cL_law 286 = .ok (.iadd, 1) := by decide +kernel
theorem dL_law_287 : decode cL_law 287 = .ok (.iaload, 1) := by decide +kernel
theorem dL_law_288 : decode cL_law 288 = .ok (.aload_n 0, 1) := by decide +kernel
theorem dL_law_289 : decode cL_law 289 = .ok (.iload_n 3, 1) := by decide +kernel
theorem dL_law_290 : decode cL_law 290 = .ok (.iconst 2, 1) := by decide +kernel
theorem dL_law_291 : decode cL_law 291 = .ok (.iadd, 1) := by decide +kernel
theorem dL_law_292 : decode cL_law 292 = .ok (.iaload, 1) := by decide +kernel
theorem dL_law_293 : decode cL_law 293 = .ok (.aload_n 0, 1) := by decide +kernel
theorem dL_law_294 : decode cL_law 294 = .ok (.iload_n 3, 1) := by decide +kernel
theorem dL_law_295 : decode cL_law 295 = .ok (.iconst 3, 1) := by decide +kernel
theorem dL_law_296 : decode cL_law 296 = .ok (.iadd, 1) := by decide +kernel
theorem dL_law_297 : decode cL_law 297 = .ok (.iaload, 1) := by decide +kernel
theorem dL_law_298 : decode cL_law 298 = .ok (.invokevirtual 23, 3) := by decide +kernel
theorem dL_law_301 : decode cL_law 301 = .ok (.aload_n 2, 1) := by decide +kernel
theorem dL_law_302 : decode cL_law 302 = .ok (.aload_n 0, 1) := by decide +kernel
theorem dL_law_303 : decode cL_law 303 = .ok (.iload_n 3, 1) := by decide +kernel
theorem dL_law_304 : decode cL_law 304 = .ok (.iconst 1, 1) := by decide +kernel
theorem dL_law_305 : decode cL_law 305 = .ok (.iadd, 1) := by decide +kernel
theorem dL_law_306 : decode cL_law 306 = .ok (.iaload, 1) := by decide +kernel
theorem dL_law_307 : decode cL_law 307 = .ok (.aload_n 0, 1) := by decide +kernel
theorem dL_law_308 : decode cL_law 308 = .ok (.iload_n 3, 1) := by decide +kernel
theorem dL_law_309 : decode cL_law 309 = .ok (.iconst 2, 1) := by decide +kernel
theorem dL_law_310 : decode cL_law 310 = .ok (.iadd, 1) := by decide +kernel
theorem dL_law_311 : decode cL_law 311 = .ok (.iaload, 1) := by decide +kernel
theorem dL_law_312 : decode cL_law 312 = .ok (.aload_n 0, 1) := by decide +kernel
theorem dL_law_313 : decode cL_law 313 = .ok (.iload_n 3, 1) := by decide +kernel
theorem dL_law_314 : decode cL_law 314 = .ok (.iconst 3, 1) := by decide +kernel
theorem dL_law_315 : decode cL_law 315 = .ok (.iadd, 1) := by decide +kernel
theorem dL_law_316 : decode cL_law 316 = .ok (.iaload, 1) := by decide +kernel
theorem dL_law_317 : decode cL_law 317 = .ok (.invokevirtual 26, 3) := by decide +kernel
theorem dL_law_320 : decode cL_law 320 = .ok (.if_icmp .eq 833, 3) := by decide +kernel
theorem dL_law_323 : decode cL_law 323 = .ok (.iconst 0, 1) := by decide +kernel
theorem dL_law_324 : decode cL_law 324 = .ok (.ireturn, 1) := by decide +kernel
theorem dL_law_325 : decode cL_law 325 = .ok (.aload_n 1, 1) := by decide +kernel
theorem dL_law_326 : decode cL_law 326 = .ok (.invokevirtual 27, 3) := by decide +kernel
theorem dL_law_329 : decode cL_law 329 = .ok (.aload_n 2, 1) := by decide +kernel
theorem dL_law_330 : decode cL_law 330 = .ok (.invokevirtual 31, 3) := by decide +kernel
theorem dL_law_333 : decode cL_law 333 = .ok (.if_icmp .eq 820, 3) := by decide +kernel
theorem dL_law_336 : decode cL_law 336 = .ok (.iconst 0, 1) := by decide +kernel
theorem dL_law_337 : decode cL_law 337 = .ok (.ireturn, 1) := by decide +kernel
theorem dL_law_338 : decode cL_law 338 = .ok (.aload_n 1, 1) := by decide +kernel
theorem dL_law_339 : decode cL_law 339 = .ok (.aload_n 0, 1) := by decide +kernel
theorem dL_law_340 : decode cL_law 340 = .ok (.iload_n 3, 1) := by decide +kernel
theorem dL_law_341 : decode cL_law 341 = .ok (.iconst 1, 1) := by decide +kernel
theorem dL_law_342 : decode cL_law 342 = .ok (.iadd, 1) := by decide +kernel
theorem dL_law_343 : decode cL_law 343 = .ok (.iaload, 1) := by decide +kernel
theorem dL_law_344 : decode cL_law 344 = .ok (.aload_n 0, 1) := by decide +kernel
theorem dL_law_345 : decode cL_law 345 = .ok (.iload_n 3, 1) := by decide +kernel
theorem dL_law_346 : decode cL_law 346 = .ok (.iconst 2, 1) := by decide +kernel
theorem dL_law_347 : decode cL_law 347 = .ok (.iadd, 1) := by decide +kernel
theorem dL_law_348 : decode cL_law 348 = .ok (.iaload, 1) := by decide +kernel
theorem dL_law_349 : decode cL_law 349 = .ok (.invokevirtual 32, 3) := by decide +kernel
theorem dL_law_352 : decode cL_law 352 = .ok (.aload_n 2, 1) := by decide +kernel
theorem dL_law_353 : decode cL_law 353 = .ok (.aload_n 0, 1) := by decide +kernel
theorem dL_law_354 : decode cL_law 354 = .ok (.iload_n 3, 1) := by decide +kernel
theorem dL_law_355 : decode cL_law 355 = .ok (.iconst 1, 1) := by decide +kernel
theorem dL_law_356 : decode cL_law 356 = .ok (.iadd, 1) := by decide +kernel
theorem dL_law_357 : decode cL_law 357 = .ok (.iaload, 1) := by decide +kernel
theorem dL_law_358 : decode cL_law 358 = .ok (.aload_n 0, 1) := by decide +kernel
theorem dL_law_359 : decode cL_law 359 = .ok (.iload_n 3, 1) := by decide +kernel
theorem dL_law_360 : decode cL_law 360 = .ok (.iconst 2, 1) := by decide +kernel
theorem dL_law_361 : decode cL_law 361 = .ok (.iadd, 1) := by decide +kernel
theorem dL_law_362 : decode cL_law 362 = .ok (.iaload, 1) := by decide +kernel
theorem dL_law_363 : decode cL_law 363 = .ok (.invokevirtual 36, 3) := by decide +kernel
theorem dL_law_366 : decode cL_law 366 = .ok (.if_icmp .eq 787, 3) := by decide +kernel
theorem dL_law_369 : decode cL_law 369 = .ok (.iconst 0, 1) := by decide +kernel
theorem dL_law_370 : decode cL_law 370 = .ok (.ireturn, 1) := by decide +kernel
theorem dL_law_371 : decode cL_law 371 = .ok (.aload_n 1, 1) := by decide +kernel
theorem dL_law_372 : decode cL_law 372 = .ok (.aload_n 0, 1) := by decide +kernel
theorem dL_law_373 : decode cL_law 373 = .ok (.iload_n 3, 1) := by decide +kernel
theorem dL_law_374 : decode cL_law 374 = .ok (.iconst 1, 1) := by decide +kernel
theorem dL_law_375 : decode cL_law 375 = .ok (.iadd, 1) := by decide +kernel
theorem dL_law_376 : decode cL_law 376 = .ok (.iaload, 1) := by decide +kernel
theorem dL_law_377 : decode cL_law 377 = .ok (.aload_n 0, 1) := by decide +kernel
theorem dL_law_378 : decode cL_law 378 = .ok (.iload_n 3, 1) := by decide +kernel
theorem dL_law_379 : decode cL_law 379 = .ok (.iconst 2, 1) := by decide +kernel
theorem dL_law_380 : decode cL_law 380 = .ok (.iadd, 1) := by decide +kernel
theorem dL_law_381 : decode cL_law 381 = .ok (.iaload, 1) := by decide +kernel
theorem dL_law_382 : decode cL_law 382 = .ok (.invokevirtual 37, 3) := by decide +kernel
theorem dL_law_385 : decode cL_law 385 = .ok (.aload_n 2, 1) := by decide +kernel
theorem dL_law_386 : decode cL_law 386 = .ok (.aload_n 0, 1) := by decide +kernel
theorem dL_law_387 : decode cL_law 387 = .ok (.iload_n 3, 1) := by decide +kernel
theorem dL_law_388 : decode cL_law 388 = .ok (.iconst 1, 1) := by decide +kernel
theorem dL_law_389 : decode cL_law 389 = .ok (.iadd, 1) := by decide +kernel
theorem dL_law_390 : decode cL_law 390 = .ok (.iaload, 1) := by decide +kernel
theorem dL_law_391 : decode cL_law 391 = .ok (.aload_n 0, 1) := by decide +kernel
theorem dL_law_392 : decode cL_law 392 = .ok (.iload_n 3, 1) := by decide +kernel
theorem dL_law_393 : decode cL_law 393 = .ok (.iconst 2, 1) := by decide +kernel
theorem dL_law_394 : decode cL_law 394 = .ok (.iadd, 1) := by decide +kernel
theorem dL_law_395 : decode cL_law 395 = .ok (.iaload, 1) := by decide +kernel
theorem dL_law_396 : decode cL_law 396 = .ok (.invokevirtual 40, 3) := by decide +kernel
theorem dL_law_399 : decode cL_law 399 = .ok (.if_icmp .eq 754, 3) := by decide +kernel
theorem dL_law_402 : decode cL_law 402 = .ok (.iconst 0, 1) := by decide +kernel
theorem dL_law_403 : decode cL_law 403 = .ok (.ireturn, 1) := by decide +kernel
theorem dL_law_404 : decode cL_law 404 = .ok (.aload_n 1, 1) := by decide +kernel
theorem dL_law_405 : decode cL_law 405 = .ok (.aload_n 0, 1) := by decide +kernel
theorem dL_law_406 : decode cL_law 406 = .ok (.iload_n 3, 1) := by decide +kernel
theorem dL_law_407 : decode cL_law 407 = .ok (.iconst 1, 1) := by decide +kernel
theorem dL_law_408 : decode cL_law 408 = .ok (.iadd, 1) := by decide +kernel
theorem dL_law_409 : decode cL_law 409 = .ok (.iaload, 1) := by decide +kernel
theorem dL_law_410 : decode cL_law 410 = .ok (.aload_n 0, 1) := by decide +kernel
theorem dL_law_411 : decode cL_law 411 = .ok (.iload_n 3, 1) := by decide +kernel
theorem dL_law_412 : decode cL_law 412 = .ok (.iconst 2, 1) := by decide +kernel
theorem dL_law_413 : decode cL_law 413 = .ok (.iadd, 1) := by decide +kernel
theorem dL_law_414 : decode cL_law 414 = .ok (.iaload, 1) := by decide +kernel
theorem dL_law_415 : decode cL_law 415 = .ok (.aload_n 0, 1) := by decide +kernel
theorem dL_law_416 : decode cL_law 416 = .ok (.iload_n 3, 1) := by decide +kernel
theorem dL_law_417 : decode cL_law 417 = .ok (.iconst 3, 1) := by decide +kernel
theorem dL_law_418 : decode cL_law 418 = .ok (.iadd, 1) := by decide +kernel
theorem dL_law_419 : decode cL_law 419 = .ok (.iaload, 1) := by decide +kernel
theorem dL_law_420 : decode cL_law 420 = .ok (.invokevirtual 41, 3) := by decide +kernel
theorem dL_law_423 : decode cL_law 423 = .ok (.aload_n 2, 1) := by decide +kernel
theorem dL_law_424 : decode cL_law 424 = .ok (.aload_n 0, 1) := by decide +kernel
theorem dL_law_425 : decode cL_law 425 = .ok (.iload_n 3, 1) := by decide +kernel
theorem dL_law_426 : decode cL_law 426 = .ok (.iconst 1, 1) := by decide +kernel
theorem dL_law_427 : decode cL_law 427 = .ok (.iadd, 1) := by decide +kernel
theorem dL_law_428 : decode cL_law 428 = .ok (.iaload, 1) := by decide +kernel
theorem dL_law_429 : decode cL_law 429 = .ok (.aload_n 0, 1) := by decide +kernel
theorem dL_law_430 : decode cL_law 430 = .ok (.iload_n 3, 1) := by decide +kernel
theorem dL_law_431 : decode cL_law 431 = .ok (.iconst 2, 1) := by decide +kernel
theorem dL_law_432 : decode cL_law 432 = .ok (.iadd, 1) := by decide +kernel
theorem dL_law_433 : decode cL_law 433 = .ok (.iaload, 1) := by decide +kernel
theorem dL_law_434 : decode cL_law 434 = .ok (.aload_n 0, 1) := by decide +kernel
theorem dL_law_435 : decode cL_law 435 = .ok (.iload_n 3, 1) := by decide +kernel
theorem dL_law_436 : decode cL_law 436 = .ok (.iconst 3, 1) := by decide +kernel
theorem dL_law_437 : decode cL_law 437 = .ok (.iadd, 1) := by decide +kernel
theorem dL_law_438 : decode cL_law 438 = .ok (.iaload, 1) := by decide +kernel
theorem dL_law_439 : decode cL_law 439 = .ok (.invokevirtual 44, 3) := by decide +kernel
theorem dL_law_442 : decode cL_law 442 = .ok (.if_icmp .eq 711, 3) := by decide +kernel
theorem dL_law_445 : decode cL_law 445 = .ok (.iconst 0, 1) := by decide +kernel
theorem dL_law_446 : decode cL_law 446 = .ok (.ireturn, 1) := by decide +kernel
theorem dL_law_447 : decode cL_law 447 = .ok (.aload_n 1, 1) := by decide +kernel
theorem dL_law_448 : decode cL_law 448 = .ok (.aload_n 0, 1) := by decide +kernel
theorem dL_law_449 : decode cL_law 449 = .ok (.iload_n 3, 1) := by decide +kernel
theorem dL_law_450 : decode cL_law 450 = .ok (.iconst 1, 1) := by decide +kernel
theorem dL_law_451 : decode cL_law 451 = .ok (.iadd, 1) := by decide +kernel
theorem dL_law_452 : decode cL_law 452 = .ok (.iaload, 1) := by decide +kernel
theorem dL_law_453 : decode cL_law 453 = .ok (.aload_n 0, 1) := by decide +kernel
theorem dL_law_454 : decode cL_law 454 = .ok (.iload_n 3, 1) := by decide +kernel
theorem dL_law_455 : decode cL_law 455 = .ok (.iconst 2, 1) := by decide +kernel
theorem dL_law_456 : decode cL_law 456 = .ok (.iadd, 1) := by decide +kernel
theorem dL_law_457 : decode cL_law 457 = .ok (.iaload, 1) := by decide +kernel
theorem dL_law_458 : decode cL_law 458 = .ok (.aload_n 0, 1) := by decide +kernel
theorem dL_law_459 : decode cL_law 459 = .ok (.iload_n 3, 1) := by decide +kernel
theorem dL_law_460 : decode cL_law 460 = .ok (.iconst 3, 1) := by decide +kernel
theorem dL_law_461 : decode cL_law 461 = .ok (.iadd, 1) := by decide +kernel
theorem dL_law_462 : decode cL_law 462 = .ok (.iaload, 1) := by decide +kernel
theorem dL_law_463 : decode cL_law 463 = .ok (.invokevirtual 45, 3) := by decide +kernel
theorem dL_law_466 : decode cL_law 466 = .ok (.aload_n 2, 1) := by decide +kernel
theorem dL_law_467 : decode cL_law 467 = .ok (.aload_n 0, 1) := by decide +kernel
theorem dL_law_468 : decode cL_law 468 = .ok (.iload_n 3, 1) := by decide +kernel
theorem dL_law_469 : decode cL_law 469 = .ok (.iconst 1, 1) := by decide +kernel
theorem dL_law_470 : decode cL_law 470 = .ok (.iadd, 1) := by decide +kernel
theorem dL_law_471 : decode cL_law 471 = .ok (.iaload, 1) := by decide +kernel
theorem dL_law_472 : decode cL_law 472 = .ok (.aload_n 0, 1) := by decide +kernel
theorem dL_law_473 : decode cL_law 473 = .ok (.iload_n 3, 1) := by decide +kernel
theorem dL_law_474 : decode cL_law 474 = .ok (.iconst 2, 1) := by decide +kernel
theorem dL_law_475 : decode cL_law 475 = .ok (.iadd, 1) := by decide +kernel
theorem dL_law_476 : decode cL_law 476 = .ok (.iaload, 1) := by decide +kernel
theorem dL_law_477 : decode cL_law 477 = .ok (.aload_n 0, 1) := by decide +kernel
theorem dL_law_478 : decode cL_law 478 = .ok (.iload_n 3, 1) := by decide +kernel
theorem dL_law_479 : decode cL_law 479 = .ok (.iconst 3, 1) := by decide +kernel
theorem dL_law_480 : decode cL_law 480 = .ok (.iadd, 1) := by decide +kernel
theorem dL_law_481 : decode cL_law 481 = .ok (.iaload, 1) := by decide +kernel
theorem dL_law_482 : decode cL_law 482 = .ok (.invokevirtual 48, 3) := by decide +kernel
theorem dL_law_485 : decode cL_law 485 = .ok (.if_icmp .eq 668, 3) := by decide +kernel
theorem dL_law_488 : decode cL_law 488 = .ok (.iconst 0, 1) := by decide +kernel
theorem dL_law_489 : decode cL_law 489 = .ok (.ireturn, 1) := by decide +kernel
theorem dL_law_490 : decode cL_law 490 = .ok (.aload_n 1, 1) := by decide +kernel
theorem dL_law_491 : decode cL_law 491 = .ok (.aload_n 0, 1) := by decide +kernel
theorem dL_law_492 : decode cL_law 492 = .ok (.iload_n 3, 1) := by decide +kernel
theorem dL_law_493 : decode cL_law 493 = .ok (.iconst 1, 1) := by decide +kernel
theorem dL_law_494 : decode cL_law 494 = .ok (.iadd, 1) := by decide +kernel
theorem dL_law_495 : decode cL_law 495 = .ok (.iaload, 1) := by decide +kernel
theorem dL_law_496 : decode cL_law 496 = .ok (.aload_n 0, 1) := by decide +kernel
theorem dL_law_497 : decode cL_law 497 = .ok (.iload_n 3, 1) := by decide +kernel
theorem dL_law_498 : decode cL_law 498 = .ok (.iconst 2, 1) := by decide +kernel
theorem dL_law_499 : decode cL_law 499 = .ok (.iadd, 1) := by decide +kernel
theorem dL_law_500 : decode cL_law 500 = .ok (.iaload, 1) := by decide +kernel
theorem dL_law_501 : decode cL_law 501 = .ok (.invokevirtual 49, 3) := by decide +kernel
theorem dL_law_504 : decode cL_law 504 = .ok (.aload_n 2, 1) := by decide +kernel
theorem dL_law_505 : decode cL_law 505 = .ok (.aload_n 0, 1) := by decide +kernel
theorem dL_law_506 : decode cL_law 506 = .ok (.iload_n 3, 1) := by decide +kernel
theorem dL_law_507 : decode cL_law 507 = .ok (.iconst 1, 1) := by decide +kernel
theorem dL_law_508 : decode cL_law 508 = .ok (.iadd, 1) := by decide +kernel
theorem dL_law_509 : decode cL_law 509 = .ok (.iaload, 1) := by decide +kernel
theorem dL_law_510 : decode cL_law 510 = .ok (.aload_n 0, 1) := by decide +kernel
theorem dL_law_511 : decode cL_law 511 = .ok (.iload_n 3, 1) := by decide +kernel
theorem dL_law_512 : decode cL_law 512 = .ok (.iconst 2, 1) := by decide +kernel
theorem dL_law_513 : decode cL_law 513 = .ok (.iadd, 1) := by decide +kernel
theorem dL_law_514 : decode cL_law 514 = .ok (.iaload, 1) := by decide +kernel
theorem dL_law_515 : decode cL_law 515 = .ok (.invokevirtual 52, 3) := by decide +kernel
theorem dL_law_518 : decode cL_law 518 = .ok (.if_icmp .eq 635, 3) := by decide +kernel
theorem dL_law_521 : decode cL_law 521 = .ok (.iconst 0, 1) := by decide +kernel
theorem dL_law_522 : decode cL_law 522 = .ok (.ireturn, 1) := by decide +kernel
theorem dL_law_523 : decode cL_law 523 = .ok (.aload_n 1, 1) := by decide +kernel
theorem dL_law_524 : decode cL_law 524 = .ok (.aload_n 0, 1) := by decide +kernel
theorem dL_law_525 : decode cL_law 525 = .ok (.iload_n 3, 1) := by decide +kernel
theorem dL_law_526 : decode cL_law 526 = .ok (.iconst 1, 1) := by decide +kernel
theorem dL_law_527 : decode cL_law 527 = .ok (.iadd, 1) := by decide +kernel
theorem dL_law_528 : decode cL_law 528 = .ok (.iaload, 1) := by decide +kernel
theorem dL_law_529 : decode cL_law 529 = .ok (.aload_n 0, 1) := by decide +kernel
theorem dL_law_530 : decode cL_law 530 = .ok (.iload_n 3, 1) := by decide +kernel
theorem dL_law_531 : decode cL_law 531 = .ok (.iconst 2, 1) := by decide +kernel
theorem dL_law_532 : decode cL_law 532 = .ok (.iadd, 1) := by decide +kernel
theorem dL_law_533 : decode cL_law 533 = .ok (.iaload, 1) := by decide +kernel
theorem dL_law_534 : decode cL_law 534 = .ok (.invokevirtual 53, 3) := by decide +kernel
theorem dL_law_537 : decode cL_law 537 = .ok (.aload_n 2, 1) := by decide +kernel
theorem dL_law_538 : decode cL_law 538 = .ok (.aload_n 0, 1) := by decide +kernel
theorem dL_law_539 : decode cL_law 539 = .ok (.iload_n 3, 1) := by decide +kernel
theorem dL_law_540 : decode cL_law 540 = .ok (.iconst 1, 1) := by decide +kernel
theorem dL_law_541 : decode cL_law 541 = .ok (.iadd, 1) := by decide +kernel
theorem dL_law_542 : decode cL_law 542 = .ok (.iaload, 1) := by decide +kernel
theorem dL_law_543 : decode cL_law 543 = .ok (.aload_n 0, 1) := by decide +kernel
theorem dL_law_544 : decode cL_law 544 = .ok (.iload_n 3, 1) := by decide +kernel
theorem dL_law_545 : decode cL_law 545 = .ok (.iconst 2, 1) := by decide +kernel
theorem dL_law_546 : decode cL_law 546 = .ok (.iadd, 1) := by decide +kernel
theorem dL_law_547 : decode cL_law 547 = .ok (.iaload, 1) := by decide +kernel
theorem dL_law_548 : decode cL_law 548 = .ok (.invokevirtual 56, 3) := by decide +kernel
theorem dL_law_551 : decode cL_law 551 = .ok (.if_icmp .eq 602, 3) := by decide +kernel
theorem dL_law_554 : decode cL_law 554 = .ok (.iconst 0, 1) := by decide +kernel
theorem dL_law_555 : decode cL_law 555 = .ok (.ireturn, 1) := by decide +kernel
theorem dL_law_556 : decode cL_law 556 = .ok (.aload_n 1, 1) := by decide +kernel
theorem dL_law_557 : decode cL_law 557 = .ok (.aload_n 0, 1) := by decide +kernel
theorem dL_law_558 : decode cL_law 558 = .ok (.iload_n 3, 1) := by decide +kernel
theorem dL_law_559 : decode cL_law 559 = .ok (.iconst 1, 1) := by decide +kernel
theorem dL_law_560 : decode cL_law 560 = .ok (.iadd, 1) := by decide +kernel
theorem dL_law_561 : decode cL_law 561 = .ok (.iaload, 1) := by decide +kernel
theorem dL_law_562 : decode cL_law 562 = .ok (.aload_n 0, 1) := by decide +kernel
theorem dL_law_563 : decode cL_law 563 = .ok (.iload_n 3, 1) := by decide +kernel
theorem dL_law_564 : decode cL_law 564 = .ok (.iconst 2, 1) := by decide +kernel
theorem dL_law_565 : decode cL_law 565 = .ok (.iadd, 1) := by decide +kernel
theorem dL_law_566 : decode cL_law 566 = .ok (.iaload, 1) := by decide +kernel
theorem dL_law_567 : decode cL_law 567 = .ok (.invokevirtual 57, 3) := by decide +kernel
theorem dL_law_570 : decode cL_law 570 = .ok (.aload_n 2, 1) := by decide +kernel
theorem dL_law_571 : decode cL_law 571 = .ok (.aload_n 0, 1) := by decide +kernel
theorem dL_law_572 : decode cL_law 572 = .ok (.iload_n 3, 1) := by decide +kernel
theorem dL_law_573 : decode cL_law 573 = .ok (.iconst 1, 1) := by decide +kernel
theorem dL_law_574 : decode cL_law 574 = .ok (.iadd, 1) := by decide +kernel
theorem dL_law_575 : decode cL_law 575 = .ok (.iaload, 1) := by decide +kernel
theorem dL_law_576 : decode cL_law 576 = .ok (.aload_n 0, 1) := by decide +kernel
theorem dL_law_577 : decode cL_law 577 = .ok (.iload_n 3, 1) := by decide +kernel
theorem dL_law_578 : decode cL_law 578 = .ok (.iconst 2, 1) := by decide +kernel
theorem dL_law_579 : decode cL_law 579 = .ok (.iadd, 1) := by decide +kernel
theorem dL_law_580 : decode cL_law 580 = .ok (.iaload, 1) := by decide +kernel
theorem dL_law_581 : decode cL_law 581 = .ok (.invokevirtual 60, 3) := by decide +kernel
theorem dL_law_584 : decode cL_law 584 = .ok (.if_icmp .eq 569, 3) := by decide +kernel
theorem dL_law_587 : decode cL_law 587 = .ok (.iconst 0, 1) := by decide +kernel
theorem dL_law_588 : decode cL_law 588 = .ok (.ireturn, 1) := by decide +kernel
theorem dL_law_589 : decode cL_law 589 = .ok (.aload_n 1, 1) := by decide +kernel
theorem dL_law_590 : decode cL_law 590 = .ok (.aload_n 0, 1) := by decide +kernel
theorem dL_law_591 : decode cL_law 591 = .ok (.iload_n 3, 1) := by decide +kernel
theorem dL_law_592 : decode cL_law 592 = .ok (.iconst 1, 1) := by decide +kernel
theorem dL_law_593 : decode cL_law 593 = .ok (.iadd, 1) := by decide +kernel
theorem dL_law_594 : decode cL_law 594 = .ok (.iaload, 1) := by decide +kernel
theorem dL_law_595 : decode cL_law 595 = .ok (.invokevirtual 61, 3) := by decide +kernel
theorem dL_law_598 : decode cL_law 598 = .ok (.aload_n 2, 1) := by decide +kernel
theorem dL_law_599 : decode cL_law 599 = .ok (.aload_n 0, 1) := by decide +kernel
theorem dL_law_600 : decode cL_law 600 = .ok (.iload_n 3, 1) := by decide +kernel
theorem dL_law_601 : decode cL_law 601 = .ok (.iconst 1, 1) := by decide +kernel
theorem dL_law_602 : decode cL_law 602 = .ok (.iadd, 1) := by decide +kernel
theorem dL_law_603 : decode cL_law 603 = .ok (.iaload, 1) := by decide +kernel
theorem dL_law_604 : decode cL_law 604 = .ok (.invokevirtual 65, 3) := by decide +kernel
theorem dL_law_607 : decode cL_law 607 = .ok (.if_icmp .eq 546, 3) := by decide +kernel
theorem dL_law_610 : decode cL_law 610 = .ok (.iconst 0, 1) := by decide +kernel
theorem dL_law_611 : decode cL_law 611 = .ok (.ireturn, 1) := by decide +kernel
theorem dL_law_612 : decode cL_law 612 = .ok (.aload_n 1, 1) := by decide +kernel
theorem dL_law_613 : decode cL_law 613 = .ok (.aload_n 0, 1) := by decide +kernel
theorem dL_law_614 : decode cL_law 614 = .ok (.iload_n 3, 1) := by decide +kernel
theorem dL_law_615 : decode cL_law 615 = .ok (.iconst 1, 1) := by decide +kernel
theorem dL_law_616 : decode cL_law 616 = .ok (.iadd, 1) := by decide +kernel
theorem dL_law_617 : decode cL_law 617 = .ok (.iaload, 1) := by decide +kernel
theorem dL_law_618 : decode cL_law 618 = .ok (.invokevirtual 66, 3) := by decide +kernel
theorem dL_law_621 : decode cL_law 621 = .ok (.aload_n 2, 1) := by decide +kernel
theorem dL_law_622 : decode cL_law 622 = .ok (.aload_n 0, 1) := by decide +kernel
theorem dL_law_623 : decode cL_law 623 = .ok (.iload_n 3, 1) := by decide +kernel
theorem dL_law_624 : decode cL_law 624 = .ok (.iconst 1, 1) := by decide +kernel
theorem dL_law_625 : decode cL_law 625 = .ok (.iadd, 1) := by decide +kernel
theorem dL_law_626 : decode cL_law 626 = .ok (.iaload, 1) := by decide +kernel
theorem dL_law_627 : decode cL_law 627 = .ok (.invokevirtual 69, 3) := by decide +kernel
theorem dL_law_630 : decode cL_law 630 = .ok (.if_icmp .eq 523, 3) := by decide +kernel
theorem dL_law_633 : decode cL_law 633 = .ok (.iconst 0, 1) := by decide +kernel
theorem dL_law_634 : decode cL_law 634 = .ok (.ireturn, 1) := by decide +kernel
theorem dL_law_635 : decode cL_law 635 = .ok (.aload_n 1, 1) := by decide +kernel
theorem dL_law_636 : decode cL_law 636 = .ok (.invokevirtual 70, 3) := by decide +kernel
theorem dL_law_639 : decode cL_law 639 = .ok (.aload_n 2, 1) := by decide +kernel
theorem dL_law_640 : decode cL_law 640 = .ok (.invokevirtual 73, 3) := by decide +kernel
theorem dL_law_643 : decode cL_law 643 = .ok (.if_icmp .eq 510, 3) := by decide +kernel
theorem dL_law_646 : decode cL_law 646 = .ok (.iconst 0, 1) := by decide +kernel
theorem dL_law_647 : decode cL_law 647 = .ok (.ireturn, 1) := by decide +kernel
theorem dL_law_648 : decode cL_law 648 = .ok (.aload_n 1, 1) := by decide +kernel
theorem dL_law_649 : decode cL_law 649 = .ok (.aload_n 0, 1) := by decide +kernel
theorem dL_law_650 : decode cL_law 650 = .ok (.iload_n 3, 1) := by decide +kernel
theorem dL_law_651 : decode cL_law 651 = .ok (.iconst 1, 1) := by decide +kernel
theorem dL_law_652 : decode cL_law 652 = .ok (.iadd, 1) := by decide +kernel
theorem dL_law_653 : decode cL_law 653 = .ok (.iaload, 1) := by decide +kernel
theorem dL_law_654 : decode cL_law 654 = .ok (.invokevirtual 74, 3) := by decide +kernel
theorem dL_law_657 : decode cL_law 657 = .ok (.aload_n 2, 1) := by decide +kernel
theorem dL_law_658 : decode cL_law 658 = .ok (.aload_n 0, 1) := by decide +kernel
theorem dL_law_659 : decode cL_law 659 = .ok (.iload_n 3, 1) := by decide +kernel
theorem dL_law_660 : decode cL_law 660 = .ok (.iconst 1, 1) := by decide +kernel
theorem dL_law_661 : decode cL_law 661 = .ok (.iadd, 1) := by decide +kernel
theorem dL_law_662 : decode cL_law 662 = .ok (.iaload, 1) := by decide +kernel
theorem dL_law_663 : decode cL_law 663 = .ok (.invokevirtual 77, 3) := by decide +kernel
theorem dL_law_666 : decode cL_law 666 = .ok (.if_icmp .eq 487, 3) := by decide +kernel
theorem dL_law_669 : decode cL_law 669 = .ok (.iconst 0, 1) := by decide +kernel
theorem dL_law_670 : decode cL_law 670 = .ok (.ireturn, 1) := by decide +kernel
theorem dL_law_671 : decode cL_law 671 = .ok (.aload_n 1, 1) := by decide +kernel
theorem dL_law_672 : decode cL_law 672 = .ok (.aload_n 0, 1) := by decide +kernel
theorem dL_law_673 : decode cL_law 673 = .ok (.iload_n 3, 1) := by decide +kernel
theorem dL_law_674 : decode cL_law 674 = .ok (.iconst 1, 1) := by decide +kernel
theorem dL_law_675 : decode cL_law 675 = .ok (.iadd, 1) := by decide +kernel
theorem dL_law_676 : decode cL_law 676 = .ok (.iaload, 1) := by decide +kernel
theorem dL_law_677 : decode cL_law 677 = .ok (.invokevirtual 78, 3) := by decide +kernel
theorem dL_law_680 : decode cL_law 680 = .ok (.aload_n 2, 1) := by decide +kernel
theorem dL_law_681 : decode cL_law 681 = .ok (.aload_n 0, 1) := by decide +kernel
theorem dL_law_682 : decode cL_law 682 = .ok (.iload_n 3, 1) := by decide +kernel
theorem dL_law_683 : decode cL_law 683 = .ok (.iconst 1, 1) := by decide +kernel
theorem dL_law_684 : decode cL_law 684 = .ok (.iadd, 1) := by decide +kernel
theorem dL_law_685 : decode cL_law 685 = .ok (.iaload, 1) := by decide +kernel
theorem dL_law_686 : decode cL_law 686 = .ok (.invokevirtual 81, 3) := by decide +kernel
theorem dL_law_689 : decode cL_law 689 = .ok (.if_icmp .eq 464, 3) := by decide +kernel
theorem dL_law_692 : decode cL_law 692 = .ok (.iconst 0, 1) := by decide +kernel
theorem dL_law_693 : decode cL_law 693 = .ok (.ireturn, 1) := by decide +kernel
theorem dL_law_694 : decode cL_law 694 = .ok (.aload_n 1, 1) := by decide +kernel
theorem dL_law_695 : decode cL_law 695 = .ok (.aload_n 0, 1) := by decide +kernel
theorem dL_law_696 : decode cL_law 696 = .ok (.iload_n 3, 1) := by decide +kernel
theorem dL_law_697 : decode cL_law 697 = .ok (.iconst 1, 1) := by decide +kernel
theorem dL_law_698 : decode cL_law 698 = .ok (.iadd, 1) := by decide +kernel
theorem dL_law_699 : decode cL_law 699 = .ok (.iaload, 1) := by decide +kernel
theorem dL_law_700 : decode cL_law 700 = .ok (.aload_n 0, 1) := by decide +kernel
theorem dL_law_701 : decode cL_law 701 = .ok (.iload_n 3, 1) := by decide +kernel
theorem dL_law_702 : decode cL_law 702 = .ok (.iconst 2, 1) := by decide +kernel
theorem dL_law_703 : decode cL_law 703 = .ok (.iadd, 1) := by decide +kernel
theorem dL_law_704 : decode cL_law 704 = .ok (.iaload, 1) := by decide +kernel
theorem dL_law_705 : decode cL_law 705 = .ok (.invokevirtual 82, 3) := by decide +kernel
theorem dL_law_708 : decode cL_law 708 = .ok (.aload_n 2, 1) := by decide +kernel
theorem dL_law_709 : decode cL_law 709 = .ok (.aload_n 0, 1) := by decide +kernel
theorem dL_law_710 : decode cL_law 710 = .ok (.iload_n 3, 1) := by decide +kernel
theorem dL_law_711 : decode cL_law 711 = .ok (.iconst 1, 1) := by decide +kernel
theorem dL_law_712 : decode cL_law 712 = .ok (.iadd, 1) := by decide +kernel
theorem dL_law_713 : decode cL_law 713 = .ok (.iaload, 1) := by decide +kernel
theorem dL_law_714 : decode cL_law 714 = .ok (.aload_n 0, 1) := by decide +kernel
theorem dL_law_715 : decode cL_law 715 = .ok (.iload_n 3, 1) := by decide +kernel
theorem dL_law_716 : decode cL_law 716 = .ok (.iconst 2, 1) := by decide +kernel
theorem dL_law_717 : decode cL_law 717 = .ok (.iadd, 1) := by decide +kernel
theorem dL_law_718 : decode cL_law 718 = .ok (.iaload, 1) := by decide +kernel
theorem dL_law_719 : decode cL_law 719 = .ok (.invokevirtual 85, 3) := by decide +kernel
theorem dL_law_722 : decode cL_law 722 = .ok (.if_icmp .eq 431, 3) := by decide +kernel
theorem dL_law_725 : decode cL_law 725 = .ok (.iconst 0, 1) := by decide +kernel
theorem dL_law_726 : decode cL_law 726 = .ok (.ireturn, 1) := by decide +kernel
theorem dL_law_727 : decode cL_law 727 = .ok (.aload_n 1, 1) := by decide +kernel
theorem dL_law_728 : decode cL_law 728 = .ok (.aload_n 0, 1) := by decide +kernel
theorem dL_law_729 : decode cL_law 729 = .ok (.iload_n 3, 1) := by decide +kernel
theorem dL_law_730 : decode cL_law 730 = .ok (.iconst 1, 1) := by decide +kernel
theorem dL_law_731 : decode cL_law 731 = .ok (.iadd, 1) := by decide +kernel
theorem dL_law_732 : decode cL_law 732 = .ok (.iaload, 1) := by decide +kernel
theorem dL_law_733 : decode cL_law 733 = .ok (.aload_n 0, 1) := by decide +kernel
theorem dL_law_734 : decode cL_law 734 = .ok (.iload_n 3, 1) := by decide +kernel
theorem dL_law_735 : decode cL_law 735 = .ok (.iconst 2, 1) := by decide +kernel
theorem dL_law_736 : decode cL_law 736 = .ok (.iadd, 1) := by decide +kernel
theorem dL_law_737 : decode cL_law 737 = .ok (.iaload, 1) := by decide +kernel
theorem dL_law_738 : decode cL_law 738 = .ok (.aload_n 0, 1) := by decide +kernel
theorem dL_law_739 : decode cL_law 739 = .ok (.iload_n 3, 1) := by decide +kernel
theorem dL_law_740 : decode cL_law 740 = .ok (.iconst 3, 1) := by decide +kernel
theorem dL_law_741 : decode cL_law 741 = .ok (.iadd, 1) := by decide +kernel
theorem dL_law_742 : decode cL_law 742 = .ok (.iaload, 1) := by decide +kernel
theorem dL_law_743 : decode cL_law 743 = .ok (.invokevirtual 86, 3) := by decide +kernel
theorem dL_law_746 : decode cL_law 746 = .ok (.aload_n 2, 1) := by decide +kernel
theorem dL_law_747 : decode cL_law 747 = .ok (.aload_n 0, 1) := by decide +kernel
theorem dL_law_748 : decode cL_law 748 = .ok (.iload_n 3, 1) := by decide +kernel
theorem dL_law_749 : decode cL_law 749 = .ok (.iconst 1, 1) := by decide +kernel
theorem dL_law_750 : decode cL_law 750 = .ok (.iadd, 1) := by decide +kernel
theorem dL_law_751 : decode cL_law 751 = .ok (.iaload, 1) := by decide +kernel
theorem dL_law_752 : decode cL_law 752 = .ok (.aload_n 0, 1) := by decide +kernel
theorem dL_law_753 : decode cL_law 753 = .ok (.iload_n 3, 1) := by decide +kernel
theorem dL_law_754 : decode cL_law 754 = .ok (.iconst 2, 1) := by decide +kernel
theorem dL_law_755 : decode cL_law 755 = .ok (.iadd, 1) := by decide +kernel
theorem dL_law_756 : decode cL_law 756 = .ok (.iaload, 1) := by decide +kernel
theorem dL_law_757 : decode cL_law 757 = .ok (.aload_n 0, 1) := by decide +kernel
theorem dL_law_758 : decode cL_law 758 = .ok (.iload_n 3, 1) := by decide +kernel
theorem dL_law_759 : decode cL_law 759 = .ok (.iconst 3, 1) := by decide +kernel
theorem dL_law_760 : decode cL_law 760 = .ok (.iadd, 1) := by decide +kernel
theorem dL_law_761 : decode cL_law 761 = .ok (.iaload, 1) := by decide +kernel
theorem dL_law_762 : decode cL_law 762 = .ok (.invokevirtual 89, 3) := by decide +kernel
theorem dL_law_765 : decode cL_law 765 = .ok (.if_icmp .eq 388, 3) := by decide +kernel
theorem dL_law_768 : decode cL_law 768 = .ok (.iconst 0, 1) := by decide +kernel
theorem dL_law_769 : decode cL_law 769 = .ok (.ireturn, 1) := by decide +kernel
theorem dL_law_770 : decode cL_law 770 = .ok (.aload_n 1, 1) := by decide +kernel
theorem dL_law_771 : decode cL_law 771 = .ok (.aload_n 0, 1) := by decide +kernel
theorem dL_law_772 : decode cL_law 772 = .ok (.iload_n 3, 1) := by decide +kernel
theorem dL_law_773 : decode cL_law 773 = .ok (.iconst 1, 1) := by decide +kernel
theorem dL_law_774 : decode cL_law 774 = .ok (.iadd, 1) := by decide +kernel
theorem dL_law_775 : decode cL_law 775 = .ok (.iaload, 1) := by decide +kernel
theorem dL_law_776 : decode cL_law 776 = .ok (.aload_n 0, 1) := by decide +kernel
theorem dL_law_777 : decode cL_law 777 = .ok (.iload_n 3, 1) := by decide +kernel
theorem dL_law_778 : decode cL_law 778 = .ok (.iconst 2, 1) := by decide +kernel
theorem dL_law_779 : decode cL_law 779 = .ok (.iadd, 1) := by decide +kernel
theorem dL_law_780 : decode cL_law 780 = .ok (.iaload, 1) := by decide +kernel
theorem dL_law_781 : decode cL_law 781 = .ok (.aload_n 0, 1) := by decide +kernel
theorem dL_law_782 : decode cL_law 782 = .ok (.iload_n 3, 1) := by decide +kernel
theorem dL_law_783 : decode cL_law 783 = .ok (.iconst 3, 1) := by decide +kernel
theorem dL_law_784 : decode cL_law 784 = .ok (.iadd, 1) := by decide +kernel
theorem dL_law_785 : decode cL_law 785 = .ok (.iaload, 1) := by decide +kernel
theorem dL_law_786 : decode cL_law 786 = .ok (.invokevirtual 90, 3) := by decide +kernel
theorem dL_law_789 : decode cL_law 789 = .ok (.aload_n 2, 1) := by decide +kernel
theorem dL_law_790 : decode cL_law 790 = .ok (.aload_n 0, 1) := by decide +kernel
theorem dL_law_791 : decode cL_law 791 = .ok (.iload_n 3, 1) := by decide +kernel
theorem dL_law_792 : decode cL_law 792 = .ok (.iconst 1, 1) := by decide +kernel
theorem dL_law_793 : decode cL_law 793 = .ok (.iadd, 1) := by decide +kernel
theorem dL_law_794 : decode cL_law 794 = .ok (.iaload, 1) := by decide +kernel
theorem dL_law_795 : decode cL_law 795 = .ok (.aload_n 0, 1) := by decide +kernel
theorem dL_law_796 : decode cL_law 796 = .ok (.iload_n 3, 1) := by decide +kernel
theorem dL_law_797 : decode cL_law 797 = .ok (.iconst 2, 1) := by decide +kernel
theorem dL_law_798 : decode cL_law 798 = .ok (.iadd, 1) := by decide +kernel
theorem dL_law_799 : decode cL_law 799 = .ok (.iaload, 1) := by decide +kernel
theorem dL_law_800 : decode cL_law 800 = .ok (.aload_n 0, 1) := by decide +kernel
theorem dL_law_801 : decode cL_law 801 = .ok (.iload_n 3, 1) := by decide +kernel
theorem dL_law_802 : decode cL_law 802 = .ok (.iconst 3, 1) := by decide +kernel
theorem dL_law_803 : decode cL_law 803 = .ok (.iadd, 1) := by decide +kernel
theorem dL_law_804 : decode cL_law 804 = .ok (.iaload, 1) := by decide +kernel
theorem dL_law_805 : decode cL_law 805 = .ok (.invokevirtual 93, 3) := by decide +kernel
theorem dL_law_808 : decode cL_law 808 = .ok (.if_icmp .eq 345, 3) := by decide +kernel
theorem dL_law_811 : decode cL_law 811 = .ok (.iconst 0, 1) := by decide +kernel
theorem dL_law_812 : decode cL_law 812 = .ok (.ireturn, 1) := by decide +kernel
theorem dL_law_813 : decode cL_law 813 = .ok (.aload_n 1, 1) := by decide +kernel
theorem dL_law_814 : decode cL_law 814 = .ok (.aload_n 0, 1) := by decide +kernel
theorem dL_law_815 : decode cL_law 815 = .ok (.iload_n 3, 1) := by decide +kernel
theorem dL_law_816 : decode cL_law 816 = .ok (.iconst 1, 1) := by decide +kernel
theorem dL_law_817 : decode cL_law 817 = .ok (.iadd, 1) := by decide +kernel
theorem dL_law_818 : decode cL_law 818 = .ok (.iaload, 1) := by decide +kernel
theorem dL_law_819 : decode cL_law 819 = .ok (.aload_n 0, 1) := by decide +kernel
theorem dL_law_820 : decode cL_law 820 = .ok (.iload_n 3, 1) := by decide +kernel
theorem dL_law_821 : decode cL_law 821 = .ok (.iconst 2, 1) := by decide +kernel
theorem dL_law_822 : decode cL_law 822 = .ok (.iadd, 1) := by decide +kernel
theorem dL_law_823 : decode cL_law 823 = .ok (.iaload, 1) := by decide +kernel
theorem dL_law_824 : decode cL_law 824 = .ok (.aload_n 0, 1) := by decide +kernel
theorem dL_law_825 : decode cL_law 825 = .ok (.iload_n 3, 1) := by decide +kernel
theorem dL_law_826 : decode cL_law 826 = .ok (.iconst 3, 1) := by decide +kernel
theorem dL_law_827 : decode cL_law 827 = .ok (.iadd, 1) := by decide +kernel
theorem dL_law_828 : decode cL_law 828 = .ok (.iaload, 1) := by decide +kernel
theorem dL_law_829 : decode cL_law 829 = .ok (.invokevirtual 94, 3) := by decide +kernel
theorem dL_law_832 : decode cL_law 832 = .ok (.aload_n 2, 1) := by decide +kernel
theorem dL_law_833 : decode cL_law 833 = .ok (.aload_n 0, 1) := by decide +kernel
theorem dL_law_834 : decode cL_law 834 = .ok (.iload_n 3, 1) := by decide +kernel
theorem dL_law_835 : decode cL_law 835 = .ok (.iconst 1, 1) := by decide +kernel
theorem dL_law_836 : decode cL_law 836 = .ok (.iadd, 1) := by decide +kernel
theorem dL_law_837 : decode cL_law 837 = .ok (.iaload, 1) := by decide +kernel
theorem dL_law_838 : decode cL_law 838 = .ok (.aload_n 0, 1) := by decide +kernel
theorem dL_law_839 : decode cL_law 839 = .ok (.iload_n 3, 1) := by decide +kernel
theorem dL_law_840 : decode cL_law 840 = .ok (.iconst 2, 1) := by decide +kernel
theorem dL_law_841 : decode cL_law 841 = .ok (.iadd, 1) := by decide +kernel
theorem dL_law_842 : decode cL_law 842 = .ok (.iaload, 1) := by decide +kernel
theorem dL_law_843 : decode cL_law 843 = .ok (.aload_n 0, 1) := by decide +kernel
theorem dL_law_844 : decode cL_law 844 = .ok (.iload_n 3, 1) := by decide +kernel
theorem dL_law_845 : decode cL_law 845 = .ok (.iconst 3, 1) := by decide +kernel
theorem dL_law_846 : decode cL_law 846 = .ok (.iadd, 1) := by decide +kernel
theorem dL_law_847 : decode cL_law 847 = .ok (.iaload, 1) := by decide +kernel
theorem dL_law_848 : decode cL_law 848 = .ok (.invokevirtual 97, 3) := by decide +kernel
theorem dL_law_851 : decode cL_law 851 = .ok (.if_icmp .eq 302, 3) := by decide +kernel
theorem dL_law_854 : decode cL_law 854 = .ok (.iconst 0, 1) := by decide +kernel
theorem dL_law_855 : decode cL_law 855 = .ok (.ireturn, 1) := by decide +kernel
theorem dL_law_856 : decode cL_law 856 = .ok (.aload_n 1, 1) := by decide +kernel
theorem dL_law_857 : decode cL_law 857 = .ok (.aload_n 0, 1) := by decide +kernel
theorem dL_law_858 : decode cL_law 858 = .ok (.iload_n 3, 1) := by decide +kernel
theorem dL_law_859 : decode cL_law 859 = .ok (.iconst 1, 1) := by decide +kernel
theorem dL_law_860 : decode cL_law 860 = .ok (.iadd, 1) := by decide +kernel
theorem dL_law_861 : decode cL_law 861 = .ok (.iaload, 1) := by decide +kernel
theorem dL_law_862 : decode cL_law 862 = .ok (.aload_n 0, 1) := by decide +kernel
theorem dL_law_863 : decode cL_law 863 = .ok (.iload_n 3, 1) := by decide +kernel
theorem dL_law_864 : decode cL_law 864 = .ok (.iconst 2, 1) := by decide +kernel
theorem dL_law_865 : decode cL_law 865 = .ok (.iadd, 1) := by decide +kernel
theorem dL_law_866 : decode cL_law 866 = .ok (.iaload, 1) := by decide +kernel
theorem dL_law_867 : decode cL_law 867 = .ok (.invokevirtual 98, 3) := by decide +kernel
theorem dL_law_870 : decode cL_law 870 = .ok (.aload_n 2, 1) := by decide +kernel
theorem dL_law_871 : decode cL_law 871 = .ok (.aload_n 0, 1) := by decide +kernel
theorem dL_law_872 : decode cL_law 872 = .ok (.iload_n 3, 1) := by decide +kernel
theorem dL_law_873 : decode cL_law 873 = .ok (.iconst 1, 1) := by decide +kernel
theorem dL_law_874 : decode cL_law 874 = .ok (.iadd, 1) := by decide +kernel
theorem dL_law_875 : decode cL_law 875 = .ok (.iaload, 1) := by decide +kernel
theorem dL_law_876 : decode cL_law 876 = .ok (.aload_n 0, 1) := by decide +kernel
theorem dL_law_877 : decode cL_law 877 = .ok (.iload_n 3, 1) := by decide +kernel
theorem dL_law_878 : decode cL_law 878 = .ok (.iconst 2, 1) := by decide +kernel
theorem dL_law_879 : decode cL_law 879 = .ok (.iadd, 1) := by decide +kernel
theorem dL_law_880 : decode cL_law 880 = .ok (.iaload, 1) := by decide +kernel
theorem dL_law_881 : decode cL_law 881 = .ok (.invokevirtual 101, 3) := by decide +kernel
theorem dL_law_884 : decode cL_law 884 = .ok (.if_icmp .eq 269, 3) := by decide +kernel
theorem dL_law_887 : decode cL_law 887 = .ok (.iconst 0, 1) := by decide +kernel
theorem dL_law_888 : decode cL_law 888 = .ok (.ireturn, 1) := by decide +kernel
theorem dL_law_889 : decode cL_law 889 = .ok (.aload_n 1, 1) := by decide +kernel
theorem dL_law_890 : decode cL_law 890 = .ok (.aload_n 0, 1) := by decide +kernel
theorem dL_law_891 : decode cL_law 891 = .ok (.iload_n 3, 1) := by decide +kernel
theorem dL_law_892 : decode cL_law 892 = .ok (.iconst 1, 1) := by decide +kernel
theorem dL_law_893 : decode cL_law 893 = .ok (.iadd, 1) := by decide +kernel
theorem dL_law_894 : decode cL_law 894 = .ok (.iaload, 1) := by decide +kernel
theorem dL_law_895 : decode cL_law 895 = .ok (.aload_n 0, 1) := by decide +kernel
theorem dL_law_896 : decode cL_law 896 = .ok (.iload_n 3, 1) := by decide +kernel
theorem dL_law_897 : decode cL_law 897 = .ok (.iconst 2, 1) := by decide +kernel
theorem dL_law_898 : decode cL_law 898 = .ok (.iadd, 1) := by decide +kernel
theorem dL_law_899 : decode cL_law 899 = .ok (.iaload, 1) := by decide +kernel
theorem dL_law_900 : decode cL_law 900 = .ok (.invokevirtual 102, 3) := by decide +kernel
theorem dL_law_903 : decode cL_law 903 = .ok (.aload_n 2, 1) := by decide +kernel
theorem dL_law_904 : decode cL_law 904 = .ok (.aload_n 0, 1) := by decide +kernel
theorem dL_law_905 : decode cL_law 905 = .ok (.iload_n 3, 1) := by decide +kernel
theorem dL_law_906 : decode cL_law 906 = .ok (.iconst 1, 1) := by decide +kernel
theorem dL_law_907 : decode cL_law 907 = .ok (.iadd, 1) := by decide +kernel
theorem dL_law_908 : decode cL_law 908 = .ok (.iaload, 1) := by decide +kernel
theorem dL_law_909 : decode cL_law 909 = .ok (.aload_n 0, 1) := by decide +kernel
theorem dL_law_910 : decode cL_law 910 = .ok (.iload_n 3, 1) := by decide +kernel
theorem dL_law_911 : decode cL_law 911 = .ok (.iconst 2, 1) := by decide +kernel
theorem dL_law_912 : decode cL_law 912 = .ok (.iadd, 1) := by decide +kernel
theorem dL_law_913 : decode cL_law 913 = .ok (.iaload, 1) := by decide +kernel
theorem dL_law_914 : decode cL_law 914 = .ok (.invokevirtual 105, 3) := by decide +kernel
theorem dL_law_917 : decode cL_law 917 = .ok (.if_icmp .eq 236, 3) := by decide +kernel
theorem dL_law_920 : decode cL_law 920 = .ok (.iconst 0, 1) := by decide +kernel
theorem dL_law_921 : decode cL_law 921 = .ok (.ireturn, 1) := by decide +kernel
theorem dL_law_922 : decode cL_law 922 = .ok (.aload_n 1, 1) := by decide +kernel
theorem dL_law_923 : decode cL_law 923 = .ok (.aload_n 0, 1) := by decide +kernel
theorem dL_law_924 : decode cL_law 924 = .ok (.iload_n 3, 1) := by decide +kernel
theorem dL_law_925 : decode cL_law 925 = .ok (.iconst 1, 1) := by decide +kernel
theorem dL_law_926 : decode cL_law 926 = .ok (.iadd, 1) := by decide +kernel
theorem dL_law_927 : decode cL_law 927 = .ok (.iaload, 1) := by decide +kernel
theorem dL_law_928 : decode cL_law 928 = .ok (.aload_n 0, 1) := by decide +kernel
theorem dL_law_929 : decode cL_law 929 = .ok (.iload_n 3, 1) := by decide +kernel
theorem dL_law_930 : decode cL_law 930 = .ok (.iconst 2, 1) := by decide +kernel
theorem dL_law_931 : decode cL_law 931 = .ok (.iadd, 1) := by decide +kernel
theorem dL_law_932 : decode cL_law 932 = .ok (.iaload, 1) := by decide +kernel
theorem dL_law_933 : decode cL_law 933 = .ok (.invokevirtual 106, 3) := by decide +kernel
theorem dL_law_936 : decode cL_law 936 = .ok (.aload_n 2, 1) := by decide +kernel
theorem dL_law_937 : decode cL_law 937 = .ok (.aload_n 0, 1) := by decide +kernel
theorem dL_law_938 : decode cL_law 938 = .ok (.iload_n 3, 1) := by decide +kernel
theorem dL_law_939 : decode cL_law 939 = .ok (.iconst 1, 1) := by decide +kernel
theorem dL_law_940 : decode cL_law 940 = .ok (.iadd, 1) := by decide +kernel
theorem dL_law_941 : decode cL_law 941 = .ok (.iaload, 1) := by decide +kernel
theorem dL_law_942 : decode cL_law 942 = .ok (.aload_n 0, 1) := by decide +kernel
theorem dL_law_943 : decode cL_law 943 = .ok (.iload_n 3, 1) := by decide +kernel
theorem dL_law_944 : decode cL_law 944 = .ok (.iconst 2, 1) := by decide +kernel
theorem dL_law_945 : decode cL_law 945 = .ok (.iadd, 1) := by decide +kernel
theorem dL_law_946 : decode cL_law 946 = .ok (.iaload, 1) := by decide +kernel
theorem dL_law_947 : decode cL_law 947 = .ok (.invokevirtual 109, 3) := by decide +kernel
theorem dL_law_950 : decode cL_law 950 = .ok (.if_icmp .eq 203, 3) := by decide +kernel
theorem dL_law_953 : decode cL_law 953 = .ok (.iconst 0, 1) := by decide +kernel
theorem dL_law_954 : decode cL_law 954 = .ok (.ireturn, 1) := by decide +kernel
theorem dL_law_955 : decode cL_law 955 = .ok (.aload_n 1, 1) := by decide +kernel
theorem dL_law_956 : decode cL_law 956 = .ok (.invokevirtual 110, 3) := by decide +kernel
theorem dL_law_959 : decode cL_law 959 = .ok (.aload_n 2, 1) := by decide +kernel
theorem dL_law_960 : decode cL_law 960 = .ok (.invokevirtual 113, 3) := by decide +kernel
theorem dL_law_963 : decode cL_law 963 = .ok (.if_icmp .eq 190, 3) := by decide +kernel
theorem dL_law_966 : decode cL_law 966 = .ok (.iconst 0, 1) := by decide +kernel
theorem dL_law_967 : decode cL_law 967 = .ok (.ireturn, 1) := by decide +kernel
theorem dL_law_968 : decode cL_law 968 = .ok (.aload_n 1, 1) := by decide +kernel
theorem dL_law_969 : decode cL_law 969 = .ok (.invokevirtual 114, 3) := by decide +kernel
theorem dL_law_972 : decode cL_law 972 = .ok (.aload_n 2, 1) := by decide +kernel
theorem dL_law_973 : decode cL_law 973 = .ok (.invokevirtual 117, 3) := by decide +kernel
theorem dL_law_976 : decode cL_law 976 = .ok (.if_icmp .eq 177, 3) := by decide +kernel
theorem dL_law_979 : decode cL_law 979 = .ok (.iconst 0, 1) := by decide +kernel
theorem dL_law_980 : decode cL_law 980 = .ok (.ireturn, 1) := by decide +kernel
theorem dL_law_981 : decode cL_law 981 = .ok (.aload_n 1, 1) := by decide +kernel
theorem dL_law_982 : decode cL_law 982 = .ok (.aload_n 0, 1) := by decide +kernel
theorem dL_law_983 : decode cL_law 983 = .ok (.iload_n 3, 1) := by decide +kernel
theorem dL_law_984 : decode cL_law 984 = .ok (.iconst 1, 1) := by decide +kernel
theorem dL_law_985 : decode cL_law 985 = .ok (.iadd, 1) := by decide +kernel
theorem dL_law_986 : decode cL_law 986 = .ok (.iaload, 1) := by decide +kernel
theorem dL_law_987 : decode cL_law 987 = .ok (.invokevirtual 118, 3) := by decide +kernel
theorem dL_law_990 : decode cL_law 990 = .ok (.aload_n 2, 1) := by decide +kernel
theorem dL_law_991 : decode cL_law 991 = .ok (.aload_n 0, 1) := by decide +kernel
theorem dL_law_992 : decode cL_law 992 = .ok (.iload_n 3, 1) := by decide +kernel
theorem dL_law_993 : decode cL_law 993 = .ok (.iconst 1, 1) := by decide +kernel
theorem dL_law_994 : decode cL_law 994 = .ok (.iadd, 1) := by decide +kernel
theorem dL_law_995 : decode cL_law 995 = .ok (.iaload, 1) := by decide +kernel
theorem dL_law_996 : decode cL_law 996 = .ok (.invokevirtual 121, 3) := by decide +kernel
theorem dL_law_999 : decode cL_law 999 = .ok (.if_icmp .eq 154, 3) := by decide +kernel
theorem dL_law_1002 : decode cL_law 1002 = .ok (.iconst 0, 1) := by decide +kernel
theorem dL_law_1003 : decode cL_law 1003 = .ok (.ireturn, 1) := by decide +kernel
theorem dL_law_1004 : decode cL_law 1004 = .ok (.aload_n 1, 1) := by decide +kernel
theorem dL_law_1005 : decode cL_law 1005 = .ok (.aload_n 0, 1) := by decide +kernel
theorem dL_law_1006 : decode cL_law 1006 = .ok (.iload_n 3, 1) := by decide +kernel
theorem dL_law_1007 : decode cL_law 1007 = .ok (.iconst 1, 1) := by decide +kernel
theorem dL_law_1008 : decode cL_law 1008 = .ok (.iadd, 1) := by decide +kernel
theorem dL_law_1009 : decode cL_law 1009 = .ok (.iaload, 1) := by decide +kernel
theorem dL_law_1010 : decode cL_law 1010 = .ok (.aload_n 0, 1) := by decide +kernel
theorem dL_law_1011 : decode cL_law 1011 = .ok (.iload_n 3, 1) := by decide +kernel
theorem dL_law_1012 : decode cL_law 1012 = .ok (.iconst 2, 1) := by decide +kernel
theorem dL_law_1013 : decode cL_law 1013 = .ok (.iadd, 1) := by decide +kernel
theorem dL_law_1014 : decode cL_law 1014 = .ok (.iaload, 1) := by decide +kernel
theorem dL_law_1015 : decode cL_law 1015 = .ok (.aload_n 0, 1) := by decide +kernel
theorem dL_law_1016 : decode cL_law 1016 = .ok (.iload_n 3, 1) := by decide +kernel
theorem dL_law_1017 : decode cL_law 1017 = .ok (.iconst 3, 1) := by decide +kernel
theorem dL_law_1018 : decode cL_law 1018 = .ok (.iadd, 1) := by decide +kernel
theorem dL_law_1019 : decode cL_law 1019 = .ok (.iaload, 1) := by decide +kernel
theorem dL_law_1020 : decode cL_law 1020 = .ok (.invokevirtual 122, 3) := by decide +kernel
theorem dL_law_1023 : decode cL_law 1023 = .ok (.aload_n 2, 1) := by decide +kernel
theorem dL_law_1024 : decode cL_law 1024 = .ok (.aload_n 0, 1) := by decide +kernel
theorem dL_law_1025 : decode cL_law 1025 = .ok (.iload_n 3, 1) := by decide +kernel
theorem dL_law_1026 : decode cL_law 1026 = .ok (.iconst 1, 1) := by decide +kernel
theorem dL_law_1027 : decode cL_law 1027 = .ok (.iadd, 1) := by decide +kernel
theorem dL_law_1028 : decode cL_law 1028 = .ok (.iaload, 1) := by decide +kernel
theorem dL_law_1029 : decode cL_law 1029 = .ok (.aload_n 0, 1) := by decide +kernel
theorem dL_law_1030 : decode cL_law 1030 = .ok (.iload_n 3, 1) := by decide +kernel
theorem dL_law_1031 : decode cL_law 1031 = .ok (.iconst 2, 1) := by decide +kernel
theorem dL_law_1032 : decode cL_law 1032 = .ok (.iadd, 1) := by decide +kernel
theorem dL_law_1033 : decode cL_law 1033 = .ok (.iaload, 1) := by decide +kernel
theorem dL_law_1034 : decode cL_law 1034 = .ok (.aload_n 0, 1) := by decide +kernel
theorem dL_law_1035 : decode cL_law 1035 = .ok (.iload_n 3, 1) := by decide +kernel
theorem dL_law_1036 : decode cL_law 1036 = .ok (.iconst 3, 1) := by decide +kernel
theorem dL_law_1037 : decode cL_law 1037 = .ok (.iadd, 1) := by decide +kernel
theorem dL_law_1038 : decode cL_law 1038 = .ok (.iaload, 1) := by decide +kernel
theorem dL_law_1039 : decode cL_law 1039 = .ok (.invokevirtual 125, 3) := by decide +kernel
theorem dL_law_1042 : decode cL_law 1042 = .ok (.if_icmp .eq 111, 3) := by decide +kernel
theorem dL_law_1045 : decode cL_law 1045 = .ok (.iconst 0, 1) := by decide +kernel
theorem dL_law_1046 : decode cL_law 1046 = .ok (.ireturn, 1) := by decide +kernel
theorem dL_law_1047 : decode cL_law 1047 = .ok (.aload_n 1, 1) := by decide +kernel
theorem dL_law_1048 : decode cL_law 1048 = .ok (.aload_n 0, 1) := by decide +kernel
theorem dL_law_1049 : decode cL_law 1049 = .ok (.iload_n 3, 1) := by decide +kernel
theorem dL_law_1050 : decode cL_law 1050 = .ok (.iconst 1, 1) := by decide +kernel
theorem dL_law_1051 : decode cL_law 1051 = .ok (.iadd, 1) := by decide +kernel
theorem dL_law_1052 : decode cL_law 1052 = .ok (.iaload, 1) := by decide +kernel
theorem dL_law_1053 : decode cL_law 1053 = .ok (.aload_n 0, 1) := by decide +kernel
theorem dL_law_1054 : decode cL_law 1054 = .ok (.iload_n 3, 1) := by decide +kernel
theorem dL_law_1055 : decode cL_law 1055 = .ok (.iconst 2, 1) := by decide +kernel
theorem dL_law_1056 : decode cL_law 1056 = .ok (.iadd, 1) := by decide +kernel
theorem dL_law_1057 : decode cL_law 1057 = .ok (.iaload, 1) := by decide +kernel
theorem dL_law_1058 : decode cL_law 1058 = .ok (.aload_n 0, 1) := by decide +kernel
theorem dL_law_1059 : decode cL_law 1059 = .ok (.iload_n 3, 1) := by decide +kernel
theorem dL_law_1060 : decode cL_law 1060 = .ok (.iconst 3, 1) := by decide +kernel
theorem dL_law_1061 : decode cL_law 1061 = .ok (.iadd, 1) := by decide +kernel
theorem dL_law_1062 : decode cL_law 1062 = .ok (.iaload, 1) := by decide +kernel
theorem dL_law_1063 : decode cL_law 1063 = .ok (.invokevirtual 126, 3) := by decide +kernel
theorem dL_law_1066 : decode cL_law 1066 = .ok (.aload_n 2, 1) := by decide +kernel
theorem dL_law_1067 : decode cL_law 1067 = .ok (.aload_n 0, 1) := by decide +kernel
theorem dL_law_1068 : decode cL_law 1068 = .ok (.iload_n 3, 1) := by decide +kernel
theorem dL_law_1069 : decode cL_law 1069 = .ok (.iconst 1, 1) := by decide +kernel
theorem dL_law_1070 : decode cL_law 1070 = .ok (.iadd, 1) := by decide +kernel
theorem dL_law_1071 : decode cL_law 1071 = .ok (.iaload, 1) := by decide +kernel
theorem dL_law_1072 : decode cL_law 1072 = .ok (.aload_n 0, 1) := by decide +kernel
theorem dL_law_1073 : decode cL_law 1073 = .ok (.iload_n 3, 1) := by decide +kernel
theorem dL_law_1074 : decode cL_law 1074 = .ok (.iconst 2, 1) := by decide +kernel
theorem dL_law_1075 : decode cL_law 1075 = .ok (.iadd, 1) := by decide +kernel
theorem dL_law_1076 : decode cL_law 1076 = .ok (.iaload, 1) := by decide +kernel
theorem dL_law_1077 : decode cL_law 1077 = .ok (.aload_n 0, 1) := by decide +kernel
theorem dL_law_1078 : decode cL_law 1078 = .ok (.iload_n 3, 1) := by decide +kernel
theorem dL_law_1079 : decode cL_law 1079 = .ok (.iconst 3, 1) := by decide +kernel
theorem dL_law_1080 : decode cL_law 1080 = .ok (.iadd, 1) := by decide +kernel
theorem dL_law_1081 : decode cL_law 1081 = .ok (.iaload, 1) := by decide +kernel
theorem dL_law_1082 : decode cL_law 1082 = .ok (.invokevirtual 129, 3) := by decide +kernel
theorem dL_law_1085 : decode cL_law 1085 = .ok (.if_icmp .eq 68, 3) := by decide +kernel
theorem dL_law_1088 : decode cL_law 1088 = .ok (.iconst 0, 1) := by decide +kernel
theorem dL_law_1089 : decode cL_law 1089 = .ok (.ireturn, 1) := by decide +kernel
theorem dL_law_1090 : decode cL_law 1090 = .ok (.aload_n 1, 1) := by decide +kernel
theorem dL_law_1091 : decode cL_law 1091 = .ok (.aload_n 0, 1) := by decide +kernel
theorem dL_law_1092 : decode cL_law 1092 = .ok (.iload_n 3, 1) := by decide +kernel
theorem dL_law_1093 : decode cL_law 1093 = .ok (.iconst 1, 1) := by decide +kernel
theorem dL_law_1094 : decode cL_law 1094 = .ok (.iadd, 1) := by decide +kernel
theorem dL_law_1095 : decode cL_law 1095 = .ok (.iaload, 1) := by decide +kernel
theorem dL_law_1096 : decode cL_law 1096 = .ok (.aload_n 0, 1) := by decide +kernel
theorem dL_law_1097 : decode cL_law 1097 = .ok (.iload_n 3, 1) := by decide +kernel
theorem dL_law_1098 : decode cL_law 1098 = .ok (.iconst 2, 1) := by decide +kernel
theorem dL_law_1099 : decode cL_law 1099 = .ok (.iadd, 1) := by decide +kernel
theorem dL_law_1100 : decode cL_law 1100 = .ok (.iaload, 1) := by decide +kernel
theorem dL_law_1101 : decode cL_law 1101 = .ok (.aload_n 0, 1) := by decide +kernel
theorem dL_law_1102 : decode cL_law 1102 = .ok (.iload_n 3, 1) := by decide +kernel
theorem dL_law_1103 : decode cL_law 1103 = .ok (.iconst 3, 1) := by decide +kernel
theorem dL_law_1104 : decode cL_law 1104 = .ok (.iadd, 1) := by decide +kernel
theorem dL_law_1105 : decode cL_law 1105 = .ok (.iaload, 1) := by decide +kernel
theorem dL_law_1106 : decode cL_law 1106 = .ok (.aload_n 0, 1) := by decide +kernel
theorem dL_law_1107 : decode cL_law 1107 = .ok (.iload_n 3, 1) := by decide +kernel
theorem dL_law_1108 : decode cL_law 1108 = .ok (.iconst 4, 1) := by decide +kernel
theorem dL_law_1109 : decode cL_law 1109 = .ok (.iadd, 1) := by decide +kernel
theorem dL_law_1110 : decode cL_law 1110 = .ok (.iaload, 1) := by decide +kernel
theorem dL_law_1111 : decode cL_law 1111 = .ok (.aload_n 0, 1) := by decide +kernel
theorem dL_law_1112 : decode cL_law 1112 = .ok (.iload_n 3, 1) := by decide +kernel
theorem dL_law_1113 : decode cL_law 1113 = .ok (.iconst 5, 1) := by decide +kernel
theorem dL_law_1114 : decode cL_law 1114 = .ok (.iadd, 1) := by decide +kernel
theorem dL_law_1115 : decode cL_law 1115 = .ok (.iaload, 1) := by decide +kernel
theorem dL_law_1116 : decode cL_law 1116 = .ok (.invokevirtual 130, 3) := by decide +kernel
theorem dL_law_1119 : decode cL_law 1119 = .ok (.aload_n 2, 1) := by decide +kernel
theorem dL_law_1120 : decode cL_law 1120 = .ok (.aload_n 0, 1) := by decide +kernel
theorem dL_law_1121 : decode cL_law 1121 = .ok (.iload_n 3, 1) := by decide +kernel
theorem dL_law_1122 : decode cL_law 1122 = .ok (.iconst 1, 1) := by decide +kernel
theorem dL_law_1123 : decode cL_law 1123 = .ok (.iadd, 1) := by decide +kernel
theorem dL_law_1124 : decode cL_law 1124 = .ok (.iaload, 1) := by decide +kernel
theorem dL_law_1125 : decode cL_law 1125 = .ok (.aload_n 0, 1) := by decide +kernel
theorem dL_law_1126 : decode cL_law 1126 = .ok (.iload_n 3, 1) := by decide +kernel
theorem dL_law_1127 : decode cL_law 1127 = .ok (.iconst 2, 1) := by decide +kernel
theorem dL_law_1128 : decode cL_law 1128 = .ok (.iadd, 1) := by decide +kernel
theorem dL_law_1129 : decode cL_law 1129 = .ok (.iaload, 1) := by decide +kernel
theorem dL_law_1130 : decode cL_law 1130 = .ok (.aload_n 0, 1) := by decide +kernel
theorem dL_law_1131 : decode cL_law 1131 = .ok (.iload_n 3, 1) := by decide +kernel
theorem dL_law_1132 : decode cL_law 1132 = .ok (.iconst 3, 1) := by decide +kernel
theorem dL_law_1133 : decode cL_law 1133 = .ok (.iadd, 1) := by decide +kernel
theorem dL_law_1134 : decode cL_law 1134 = .ok (.iaload, 1) := by decide +kernel
theorem dL_law_1135 : decode cL_law 1135 = .ok (.aload_n 0, 1) := by decide +kernel
theorem dL_law_1136 : decode cL_law 1136 = .ok (.iload_n 3, 1) := by decide +kernel
theorem dL_law_1137 : decode cL_law 1137 = .ok (.iconst 4, 1) := by decide +kernel
theorem dL_law_1138 : decode cL_law 1138 = .ok (.iadd, 1) := by decide +kernel
theorem dL_law_1139 : decode cL_law 1139 = .ok (.iaload, 1) := by decide +kernel
theorem dL_law_1140 : decode cL_law 1140 = .ok (.aload_n 0, 1) := by decide +kernel
theorem dL_law_1141 : decode cL_law 1141 = .ok (.iload_n 3, 1) := by decide +kernel
theorem dL_law_1142 : decode cL_law 1142 = .ok (.iconst 5, 1) := by decide +kernel
theorem dL_law_1143 : decode cL_law 1143 = .ok (.iadd, 1) := by decide +kernel
theorem dL_law_1144 : decode cL_law 1144 = .ok (.iaload, 1) := by decide +kernel
theorem dL_law_1145 : decode cL_law 1145 = .ok (.invokevirtual 134, 3) := by decide +kernel
theorem dL_law_1148 : decode cL_law 1148 = .ok (.if_icmp .eq 5, 3) := by decide +kernel
theorem dL_law_1151 : decode cL_law 1151 = .ok (.iconst 0, 1) := by decide +kernel
theorem dL_law_1152 : decode cL_law 1152 = .ok (.ireturn, 1) := by decide +kernel
theorem dL_law_1153 : decode cL_law 1153 = .ok (.iinc 3 7, 3) := by decide +kernel
theorem dL_law_1156 : decode cL_law 1156 = .ok (.goto (-1138), 3) := by decide +kernel
theorem dL_law_1159 : decode cL_law 1159 = .ok (.iconst 1, 1) := by decide +kernel
theorem dL_law_1160 : decode cL_law 1160 = .ok (.ireturn, 1) := by decide +kernel
end
section
abbrev Mem : Type := Nat → Nat → Int32
def mw (σ : Mem) (i k : Nat) (v : Int32) : Mem := fun a b => if a = i ∧ b = k then v else σ a b
def mcp (σ : Mem) (s sp d dp n : Nat) : Mem := fun a b => if a = d ∧ dp ≤ b ∧ b < dp + n then σ s (sp + (b - dp)) else σ a b
def NN : Nat := 402
def knT : List Nat := [11, 5, 20, 0, 26, 23, 27, 22, 5, 20, 2, 21, 10, 5, 20, 10, 5, 20, 10, 5, 20, 10, 5, 20, 10, 5, 20, 10, 5, 20, 10, 5, 20, 10, 5, 20, 10, 5, 20, 10, 5, 20, 10, 5, 20, 10, 5, 20, 10, 5, 20, 10, 5, 20, 10, 5, 20, 10, 5, 20, 10, 5, 20, 10, 5, 20, 10, 5, 20, 10, 5, 20, 5, 20, 5, 20, 5, 20, 5, 20, 5, 20, 5, 20, 5, 20, 5, 20, 5, 20, 5, 20, 5, 20, 5, 20, 5, 20, 5, 20, 5, 20, 5, 20, 5, 20, 5, 20, 5, 20, 5, 20, 5, 20, 5, 20, 5, 20, 5, 20, 5, 20, 5, 20, 5, 20, 5, 20, 5, 20, 5, 20, 5, 20, 5, 20, 5, 20, 5, 20, 5, 20, 3, 21, 21, 21, 21, 21, 3, 21, 21, 21, 21, 21, 3, 21, 21, 21, 21, 21, 3, 21, 21, 21, 21, 21, 3, 21, 21, 21, 21, 21, 0, 26, 23, 27, 22, 5, 20, 2, 21, 10, 5, 20, 10, 5, 20, 10, 5, 20, 10, 5, 20, 10, 5, 20, 10, 5, 20, 10, 5, 20, 10, 5, 20, 10, 5, 20, 10, 5, 20, 10, 5, 20, 10, 5, 20, 10, 5, 20, 10, 5, 20, 10, 5, 20, 10, 5, 20, 10, 5, 20, 10, 5, 20, 10, 5, 20, 10, 5, 20, 5, 20, 5, 20, 5, 20, 5, 20, 5, 20, 5, 20, 5, 20, 5, 20, 5, 20, 5, 20, 5, 20, 5, 20, 5, 20, 5, 20, 5, 20, 5, 20, 5, 20, 5, 20, 5, 20, 5, 20, 5, 20, 5, 20, 5, 20, 5, 20, 5, 20, 5, 20, 5, 20, 5, 20, 5, 20, 5, 20, 5, 20, 5, 20, 5, 20, 5, 20, 5, 20, 3, 21, 21, 21, 21, 21, 3, 21, 21, 21, 21, 21, 3, 21, 21, 21, 21, 21, 3, 21, 21, 21, 21, 21, 3, 21, 21, 21, 21, 21, 4, 3, 21, 21, 21, 21, 21, 5, 20, 8, 5, 20, 5, 20, 21, 1, 2, 21, 6, 5, 20, 21, 21, 21, 24, 25, 7, 21, 7, 21, 7, 21, 7, 21, 9, 21, 9, 21, 9, 21, 9, 21, 12, 21, 21, 21, 21, 21, 21, 21, 21, 21, 21, 21, 21, 21, 21, 21, 21, 21, 21]
def kn (i : Nat) : Nat := knT.getD i 99
def lnT : List Nat := [0, 0, 50, 0, 20, 32, 3, 5, 0, 50, 0, 6, 0, 0, 6, 0, 0, 6, 0, 0, 6, 0, 0, 6, 0, 0, 6, 0, 0, 6, 0, 0, 6, 0, 0, 6, 0, 0, 6, 0, 0, 6, 0, 0, 6, 0, 0, 6, 0, 0, 6, 0, 0, 6, 0, 0, 6, 0, 0, 6, 0, 0, 6, 0, 0, 6, 0, 0, 6, 0, 0, 6, 0, 3, 0, 3, 0, 3, 0, 3, 0, 3, 0, 3, 0, 3, 0, 3, 0, 3, 0, 3, 0, 3, 0, 3, 0, 3, 0, 3, 0, 3, 0, 3, 0, 3, 0, 3, 0, 3, 0, 3, 0, 3, 0, 3, 0, 3, 0, 3, 0, 3, 0, 3, 0, 3, 0, 3, 0, 3, 0, 3, 0, 3, 0, 3, 0, 1, 0, 1, 0, 1, 0, 6, 6, 6, 6, 3, 0, 6, 6, 6, 6, 3, 0, 6, 6, 6, 6, 3, 0, 6, 6, 6, 6, 3, 0, 6, 6, 6, 6, 3, 0, 20, 32, 3, 5, 0, 50, 0, 6, 0, 0, 6, 0, 0, 6, 0, 0, 6, 0, 0, 6, 0, 0, 6, 0, 0, 6, 0, 0, 6, 0, 0, 6, 0, 0, 6, 0, 0, 6, 0, 0, 6, 0, 0, 6, 0, 0, 6, 0, 0, 6, 0, 0, 6, 0, 0, 6, 0, 0, 6, 0, 0, 6, 0, 0, 6, 0, 0, 6, 0, 3, 0, 3, 0, 3, 0, 3, 0, 3, 0, 3, 0, 3, 0, 3, 0, 3, 0, 3, 0, 3, 0, 3, 0, 3, 0, 3, 0, 3, 0, 3, 0, 3, 0, 3, 0, 3, 0, 3, 0, 3, 0, 3, 0, 3, 0, 3, 0, 3, 0, 3, 0, 3, 0, 3, 0, 3, 0, 3, 0, 3, 0, 3, 0, 1, 0, 1, 0, 1, 0, 6, 6, 6, 6, 3, 0, 6, 6, 6, 6, 3, 0, 6, 6, 6, 6, 3, 0, 6, 6, 6, 6, 3, 0, 6, 6, 6, 6, 3, 0, 0, 6, 6, 6, 6, 3, 0, 10, 0, 0, 10, 0, 66, 6, 0, 0, 6, 0, 0, 10, 6, 6, 11, 4, 4, 0, 40, 0, 40, 0, 40, 0, 40, 0, 20, 0, 20, 0, 20, 0, 20, 0, 517, 517, 50, 80, 25, 80, 80, 80, 80, 80, 6, 4, 4, 80, 4, 4, 160, 40]
def ln (i : Nat) : Nat := lnT.getD i 0
def fl (ci : Nat) : List (Option Nat) := match ci with
  | 0 => [some 1, none, some 2, some 3, some 4, none, some 5, some 7]
  | 1 => [some 1, none]
  | 2 => [none, none, none, some 1]
  | 3 => [none, some 1, some 2, some 3, some 4, some 5]
  | 4 => [some 1, none]
  | 5 => [some 1, none]
  | 6 => [some 1, some 3, some 4, none, some 5, none, none, none, none, none]
  | 7 => [none, none, some 1]
  | 8 => [some 1, some 3, some 5, none]
  | 9 => [none, none, some 1]
  | 10 => [none, some 1, none, none, none]
  | 11 => [some 1, some 3, some 172, none, some 341, some 348, some 350, some 356, some 359, some 365, some 366]
  | 12 => [some 1, some 2, none, some 3, none, some 4, none, none, none, some 5, some 6, some 7, some 8, none, none, some 9, some 10, none, none, some 11, none, some 12, some 13, some 14, some 15, some 16, some 17, some 18]
  | _ => []
def el (i j : Nat) : Nat := match kn i with
  | 22 => i + 135 + 6 * j
  | 23 => i + 67 + 2 * j
  | 24 => i + 2 + 2 * j
  | 25 => i + 9 + 2 * j
  | 26 => i + 8 + 3 * j
  | _ => i + 130 + 2 * j
abbrev vwCl : List vw_C := [(RX0, TX0, 8), (RX1, TX1, 2), (RX2, TX2, 4), (RX3, TX3, 6), (RX4, TX4, 2), (RX5, TX5, 2), (RX6, TX6, 10), (RX7, TX7, 3), (RX8, TX8, 4), (RX9, TX9, 3), (RX10, TX10, 5), (RX11, TX11, 11), (RX12, TX12, 28)]
theorem knT_len : knT.length = NN := by decide +kernel
theorem kn_lt {i c : Nat} (h : kn i = c) (hc : c < 99) : i < NN := by
  rcases Nat.lt_or_ge i NN with q | q
  · exact q
  · have : kn i = 99 := by
      unfold kn
      rw [List.getD_eq_getElem?_getD, List.getElem?_eq_none (by rw [knT_len]; exact q)]
      rfl
    omega
def fv (ad : Nat → Nat) (r : Nat → Int32) (id : Nat) : Nat → List (Option Nat) → List Value
  | _, [] => []
  | k, none :: t => .int (r k) :: fv ad r id (k + 1) t
  | k, some f :: t => .ref (ad (id + f)) :: fv ad r id (k + 1) t
theorem fv_len (ad : Nat → Nat) (r : Nat → Int32) (id : Nat) : ∀ (l : List (Option Nat)) (k : Nat), (fv ad r id k l).length = l.length
  | [], _ => rfl
  | none :: t, k => by simp [fv, fv_len ad r id t]
  | some f :: t, k => by simp [fv, fv_len ad r id t]
theorem fv_int (ad : Nat → Nat) (r : Nat → Int32) (id : Nat) : ∀ (l : List (Option Nat)) (k j : Nat), l[j]? = some none → (fv ad r id k l)[j]? = some (.int (r (k + j)))
  | [], _, _, h => by simp at h
  | none :: t, k, 0, h => by simp [fv]
  | some f :: t, k, 0, h => by simp at h
  | none :: t, k, j + 1, h => by
    simp only [fv, List.getElem?_cons_succ] at h ⊢
    rw [fv_int ad r id t (k + 1) j h]
    congr 3; omega
  | some f :: t, k, j + 1, h => by
    simp only [fv, List.getElem?_cons_succ] at h ⊢
    rw [fv_int ad r id t (k + 1) j h]
    congr 3; omega
theorem fv_ref (ad : Nat → Nat) (r : Nat → Int32) (id f : Nat) : ∀ (l : List (Option Nat)) (k j : Nat), l[j]? = some (some f) → (fv ad r id k l)[j]? = some (.ref (ad (id + f)))
  | [], _, _, h => by simp at h
  | none :: t, k, 0, h => by simp at h
  | some f :: t, k, 0, h => by simp at h; simp [fv, h]
  | none :: t, k, j + 1, h => by
    simp only [fv, List.getElem?_cons_succ] at h ⊢
    exact fv_ref ad r id f t (k + 1) j h
  | some f :: t, k, j + 1, h => by
    simp only [fv, List.getElem?_cons_succ] at h ⊢
    exact fv_ref ad r id _ t (k + 1) j h
theorem fv_congr (ad : Nat → Nat) (r r' : Nat → Int32) (id : Nat) : ∀ (l : List (Option Nat)) (k : Nat), (∀ j, k ≤ j → r' j = r j) → fv ad r' id k l = fv ad r id k l
  | [], _, _ => rfl
  | none :: t, k, h => by simp [fv, h k (Nat.le_refl _), fv_congr ad r r' id t (k + 1) (fun j hj => h j (by omega))]
  | some f :: t, k, h => by simp [fv, fv_congr ad r r' id t (k + 1) (fun j hj => h j (by omega))]
theorem fv_set (ad : Nat → Nat) (r r' : Nat → Int32) (id : Nat) (v : Int32) : ∀ (l : List (Option Nat)) (k j : Nat), l[j]? = some none → r' (k + j) = v → (∀ i, i ≠ k + j → r' i = r i) → (fv ad r id k l).set j (.int v) = fv ad r' id k l
  | [], _, _, h, _, _ => by simp at h
  | some f :: t, k, 0, h, _, _ => by simp at h
  | none :: t, k, 0, h, h1, h2 => by
    simp only [fv, List.set_cons_zero]
    rw [fv_congr ad r r' id t (k + 1) (fun j hj => h2 j (by omega))]
    rw [← h1]; rfl
  | none :: t, k, j + 1, h, h1, h2 => by
    simp only [fv, List.set_cons_succ]
    rw [fv_set ad r r' id v t (k + 1) j (by simpa using h) (by rw [← h1]; congr 1; omega) (fun i hi => h2 i (by omega)), h2 k (by omega)]
  | some f :: t, k, j + 1, h, h1, h2 => by
    simp only [fv, List.set_cons_succ]
    rw [fv_set ad r r' id v t (k + 1) j (by simpa using h) (by rw [← h1]; congr 1; omega) (fun i hi => h2 i (by omega))]
/-- the launch; classes' numbers and slots; array classes; addresses; where the table ABOVE lies -/
abbrev ZT : Type := Launch × va_G × (Nat → ClassId) × (Nat → Nat) × Nat
abbrev zl (Z : ZT) : Launch := Z.1
abbrev zD (Z : ZT) : va_G := Z.2.1
abbrev zc (Z : ZT) : Nat → ClassId := Z.2.2.1
abbrev za (Z : ZT) : Nat → Nat := Z.2.2.2.1
abbrev zt (Z : ZT) : Nat := Z.2.2.2.2
def ent (Z : ZT) (σ : Mem) (i : Nat) : va_E :=
  if kn i < 13 then .inr (kn i, fv (za Z) (σ i) i 0 (fl (kn i)))
  else if kn i = 20 then .inl (zc Z 0, (ln i, .inl (σ i)))
  else if kn i = 21 then .inl (zc Z 1, (ln i, .inl (σ i)))
  else .inl (zc Z (kn i - 20), (ln i, .inr (.inr (.inr (.inr (fun j => some (za Z (el i j))))))))
def wl (Z : ZT) (σ : Mem) : va_W := (List.range NN).map (fun i => (za Z i, ent Z σ i))
abbrev utys (Z : ZT) : List (ClassId × FieldType) := [(zc Z 0, .byte), (zc Z 1, .int), (zc Z 2, .object "PhraseMoods$Frame"), (zc Z 3, .object "PhraseMoods$Letters"), (zc Z 4, .object "PhraseMoods$Sheet"), (zc Z 5, .object "PhraseMoods$Tray"), (zc Z 6, .object "PhraseMoods$Word"), (zc Z 7, .object "PhraseMoods$Letters")]
def PW (Z : ZT) (σ : Mem) (H : Heap) : Prop := va_P (zD Z) vwCl (wl Z σ) H ∧ ∀ i, kn i = 20 → ∀ j, fits .byte (.int (σ i j)) = true
theorem wl_at (Z : ZT) (σ : Mem) {i : Nat} (h : i < NN) : (wl Z σ)[i]? = some (za Z i, ent Z σ i) := by
  unfold wl
  rw [List.getElem?_map, List.getElem?_range h]
  rfl
theorem wl_set (Z : ZT) (σ σ' : Mem) {i : Nat} {e : va_E} (he : e = ent Z σ' i) (h : ∀ j, j ≠ i → ent Z σ' j = ent Z σ j) : (wl Z σ).set i (za Z i, e) = wl Z σ' := by
  subst he
  apply List.ext_getElem?
  intro j
  rw [List.getElem?_set]
  by_cases hj : i = j
  · subst hj
    by_cases hl : i < NN
    · rw [wl_at Z σ' hl]
      simp [wl, hl]
    · simp [wl, hl]
  · rw [if_neg hj]
    by_cases hl : j < NN
    · rw [wl_at Z σ' hl, wl_at Z σ hl, h j (fun e => hj e.symm)]
    · simp [wl, hl]
theorem ent_row {Z : ZT} {σ σ' : Mem} {j : Nat} (h : σ' j = σ j) : ent Z σ' j = ent Z σ j := by
  unfold ent
  rw [h]
theorem mw_row {σ : Mem} {i k j : Nat} {v : Int32} (h : j ≠ i) : mw σ i k v j = σ j := by
  funext b
  simp [mw, h]
theorem mw_rowI {σ : Mem} {i k : Nat} {v : Int32} : mw σ i k v i = upd (σ i) k v := by
  funext b
  simp [mw, upd]
/-- the addresses are apart, and the law's or the method's own -/
def ZOk (Z : ZT) : Prop := ∀ i j, i < NN → j < NN → za Z i = za Z j → i = j
theorem wl_D {Z : ZT} {A : Nat → Prop} (hz : ZOk Z) (hA : ∀ i, i < NN → A (za Z i)) (σ : Mem) : va_D A (wl Z σ) := by
  have key : ∀ (k : Nat) (q : Nat × va_E), (wl Z σ)[k]? = some q → k < NN ∧ q.1 = za Z k := by
    intro k q hk
    have hl : k < NN := by
      have := (List.getElem?_eq_some_iff.mp hk).1
      simpa [wl] using this
    rw [wl_at Z σ hl] at hk
    exact ⟨hl, by rw [← Option.some.inj hk]⟩
  refine ⟨fun i j p q hi hj he => ?_, fun k q hk => ?_⟩
  · obtain ⟨h1, h2⟩ := key i p hi
    obtain ⟨h3, h4⟩ := key j q hj
    exact hz i j h1 h3 (by rw [← h2, ← h4, he])
  · obtain ⟨h1, h2⟩ := key k q hk
    rw [h2]
    exact hA k h1
def PA (Z : ZT) : Nat → Prop := fun q => ∃ i, i < NN ∧ q = za Z i
theorem pa_in {Z : ZT} {i : Nat} (h : i < NN) : PA Z (za Z i) := ⟨i, h, rfl⟩
def abv (j : Nat) : Int32 := match j with
  | 0 => -1
  | 1 => 0
  | 2 => 0
  | 3 => 1
  | 4 => 1
  | _ => 2
def ST (Z : ZT) (A : Nat → Prop) (U : State) (H : Heap) : Prop := va_Z "PhraseMoods$Word" "ABOVE" "[I" (.ref (zt Z)) A U H ∧ va_T .int (zt Z) 6 (fun j => .int (abv j)) A U H
def isNest (w : Cond) : Bool := match w with
  | .fieldLinkNest _ _ _ _ _ _ => true
  | .methodLinkNest _ _ _ _ => true
  | _ => false
def nW : List Cond := lw_tbl.filter isNest
theorem nw_in {w : Cond} (i : Nat) (h : lw_tbl[i]? = some w) (hg : isNest w = true) : w ∈ nW := List.mem_filter.mpr ⟨List.mem_of_getElem? h, hg⟩
theorem nest_warm {w : Cond} (hw : isNest w = true) {s U : State} (hW : s.WarmedH U.vm) (h : va_Nw w s) : va_Nw w U := by
  unfold isNest at hw
  split at hw
  · exact va_Nw.warmF hW h
  · exact va_Nw.warmM hW h
  · cases hw
theorem nest_on {w : Cond} (hw : isNest w = true) : w.onTables = true := by
  unfold isNest at hw
  split at hw
  · rfl
  · rfl
  · cases hw
def NW (U : State) : Prop := ∀ w ∈ nW, va_Nw w U
theorem NW.warm {s U : State} (hW : s.WarmedH U.vm) (h : NW s) : NW U := fun w hw => nest_warm (List.mem_filter.mp hw).2 hW (h w hw)
theorem NW.same {s U : State} (hv : s.vm = U.vm) (h : NW s) : NW U := fun w hw => va_Nw.same (nest_on (List.mem_filter.mp hw).2) hv (h w hw)
theorem NW.use {w : Cond} {args : Array Value} {s : State} (h : NW s) (hw : w ∈ nW) : w.before args s = true := va_Nw.use (nest_on (List.mem_filter.mp hw).2) (h w hw)
def BW (Z : ZT) (σ : Mem) (U : State) : Prop := PW Z σ U.heap ∧ va_K (zD Z) vwCl (utys Z) U ∧ ST Z (PA Z) U U.heap ∧ NW U
/-- the words that every method here is given -/
def uW : List Cond := lw_tbl.filter goodWord
theorem uw_in {w : Cond} (i : Nat) (h : lw_tbl[i]? = some w) (hg : goodWord w = true) : w ∈ uW := List.mem_filter.mpr ⟨List.mem_of_getElem? h, hg⟩
theorem uw_good {w : Cond} (h : w ∈ uW) : goodWord w = true := (List.mem_filter.mp h).2
/-- a method's end: what it answers, what it knows of that, the world -/
def Qm (ro : Option Value) (φ : Prop) (B : State → Prop) (A : Nat → Prop) : Array Value → State → Outcome → State → Prop := fun _ st oc t => (oc = .returned ro ∧ φ ∧ B t) ∧ va_F A st t
/-- the contract of a method: from σ with these arguments it answers ro and leaves σ' -/
def Ct (Z : ZT) (y : MethodName) (cc : ByteArray) (maxL : Nat) (ret : Option FieldType) (fr lo : Nat) (as : List Value) (σ : Mem) (ro : Option Value) (φ : Prop) (σ' : Mem) : Prop :=
  Met (zl Z) y (Cond.code y cc maxL ret :: uW) ({ frames := fr, cells := 0, slots := 0, locals := lo }) (va_Pc as (fun U => BW Z σ U)) (Qm ro φ (fun t => BW Z σ' t) (PA Z)) 0 0 (PA Z)
/-- where a walk stands: program, environment, room, start, method .. -/
abbrev CX : Type := Program × Env × Room × State × MethodId × Array Value × List Frame × Method × Code × Nat × Nat × (State → Prop) × (Nat → Prop)
abbrev c_p (C : CX) : Program := C.1
abbrev c_e (C : CX) : Env := C.2.1
abbrev c_R (C : CX) : Room := C.2.2.1
abbrev c_s (C : CX) : State := C.2.2.2.1
abbrev c_m (C : CX) : MethodId := C.2.2.2.2.1
abbrev c_a (C : CX) : Array Value := C.2.2.2.2.2.1
abbrev c_b (C : CX) : List Frame := C.2.2.2.2.2.2.1
abbrev c_h (C : CX) : Method := C.2.2.2.2.2.2.2.1
abbrev c_c (C : CX) : Code := C.2.2.2.2.2.2.2.2.1
abbrev c_k (C : CX) : Nat := C.2.2.2.2.2.2.2.2.2.1
abbrev c_n (C : CX) : Nat := C.2.2.2.2.2.2.2.2.2.2.1
abbrev c_Q (C : CX) : State → Prop := C.2.2.2.2.2.2.2.2.2.2.2.1
abbrev c_A (C : CX) : Nat → Prop := C.2.2.2.2.2.2.2.2.2.2.2.2
def WG (Z : ZT) (C : CX) (H : Heap) (locs : List Loc) (g : JFrame) : Prop := W (c_p C) (zl Z) (c_e C) (c_R C) (c_s C) (c_m C) (c_a C) (c_b C) (c_h C) (c_c C) H locs (c_k C) (c_n C) (c_Q C) g
/-- the walk's goal at a place: whatever heap holds σ, the run from here comes to its end -/
def G (Z : ZT) (C : CX) (σ : Mem) (pc : Nat) (L : List (Nat × Value)) (st : List Value) : Prop :=
  ∀ (H : Heap) (locs : List Loc) (ls : Array Slot), PW Z σ H → va_S (c_A C) (c_s C).heap H locs → lv_has ls (c_c C).maxLocals L → W (c_p C) (zl Z) (c_e C) (c_R C) (c_s C) (c_m C) (c_a C) (c_b C) (c_h C) (c_c C) H locs (c_k C) (c_n C) (c_Q C) (F0 (c_m C) pc ls st)
/-- what a walk may use: machine, code, class, words, tables, addresses, room -/
def Ok (Z : ZT) (C : CX) (own : String) (cc : ByteArray) (nL fr lo : Nat) : Prop :=
  (c_p C).tables.exec = Jvm.exec ∧ (c_c C).code = cc ∧ (c_c C).maxLocals = nL ∧ (c_s C).vm.findClass own = some (c_m C).cls ∧ (∀ w ∈ uW, w.before (c_a C) (c_s C) = true) ∧ va_K (zD Z) vwCl (utys Z) (c_s C) ∧ ST Z (c_A C) (c_s C) (c_s C).heap ∧ (∀ i, i < NN → c_A C (za Z i)) ∧ ZOk Z ∧ (fr ≤ (c_R C).frames ∧ lo ≤ (c_R C).locals ∧ c_k C ≤ (c_R C).cells ∧ c_n C ≤ (c_R C).slots ∧ NW (c_s C))
end
section
abbrev ix (i : Int32) : Nat := i.toNatClampNeg
def inb (i : Int32) (n : Nat) : Bool := decide (¬ (i < 0 ∨ n ≤ i.toNatClampNeg))
def irm (x y : Int32) : Int32 := x - x / y * y
def ius (x y : Int32) : Int32 := (x.toUInt32 >>> (y.toUInt32 &&& Int32.toUInt32 31)).toInt32
def imx (x y : Int32) : Int32 := if x < y then y else x
def cpk (sp dp n : Int32) (a b : Nat) : Bool := decide (¬ sp < 0 ∧ ¬ dp < 0 ∧ ¬ n < 0 ∧ ix sp + ix n ≤ a ∧ ix dp + ix n ≤ b)
def fnn (x : UInt32) : Bool := decide (x &&& 0x7fffffff ≤ 0x7f800000)
def bnd {α β : Type} (e : α) (k : α → Option β) : Option β := k e
def obd {α β : Type} (o : Option α) (k : α → Option β) : Option β := match o with
  | none => none
  | some x => k x
def grd {β : Type} (b : Bool) (k : Option β) : Option β := match b with
  | true => k
  | false => none
def oR {α β : Type} (o : Option β) : Option (α ⊕ β) := match o with
  | none => none
  | some x => some (.inr x)
def oL {α β : Type} (a : α) : Option (α ⊕ β) := some (.inl a)
/-- a loop: the step goes on, or ends it; at most so many steps -/
def lp {α β : Type} (step : α → Option (α ⊕ β)) (n : Nat) (a : α) : Option β :=
  if h : n = 0 then none else match step a with
  | none => none
  | some (.inl a') => lp step (n - 1) a'
  | some (.inr b) => some b
termination_by n
decreasing_by omega
def FU : Nat := 1000
theorem k_grd {β : Type} {K : Option β → Prop} (hN : ¬ K none) {b : Bool} {k : Option β} (hf : K (grd b k)) : b = true ∧ K k := by
  cases b with
  | false => exact absurd hf hN
  | true => exact ⟨rfl, hf⟩
theorem k_obd {α β : Type} {K : Option β → Prop} (hN : ¬ K none) {o : Option α} {k : α → Option β} (hf : K (obd o k)) : ∃ x, o = some x ∧ K (k x) := by
  cases o with
  | none => exact absurd hf hN
  | some x => exact ⟨x, rfl, hf⟩
theorem k_t {β : Type} {K : Option β → Prop} {c : Prop} [Decidable c] {a b : Option β} (h : c) (hf : K (if c then a else b)) : K a := by rwa [if_pos h] at hf
theorem k_f {β : Type} {K : Option β → Prop} {c : Prop} [Decidable c] {a b : Option β} (h : ¬ c) (hf : K (if c then a else b)) : K b := by rwa [if_neg h] at hf
/-- a loop: its head holds for every state from which the function goes through -/
theorem g_lp {α β : Type} {step : α → Option (α ⊕ β)} {K : Option β → Prop} (hN : ¬ K none) (P : α → Prop) {n : Nat} {a : α} (hf : K (lp step n a))
    (hs : ∀ (a : α) (K' : Option (α ⊕ β) → Prop), ¬ K' none → (∀ a', K' (oL a') → P a') → (∀ x, K' (oR x) → K x) → K' (step a) → P a) : P a := by
  induction n generalizing a with
  | zero =>
    unfold lp at hf
    simp at hf
    exact absurd hf hN
  | succ n ih =>
    unfold lp at hf
    simp only [Nat.add_one_ne_zero, dite_false, Nat.add_sub_cancel] at hf
    refine hs a (fun o => match o with | none => False | some (.inl a') => K (lp step n a') | some (.inr b) => K (some b)) (fun h => h) (fun a' h => ih h) (fun x h => ?_) ?_
    · cases x with
      | none => exact h.elim
      | some b => exact h
    · cases hst : step a with
      | none => rw [hst] at hf; exact absurd hf hN
      | some q =>
        rw [hst] at hf
        cases q with
        | inl a' => exact hf
        | inr b => exact hf
theorem g_jn {τ β : Type} {K : Option β → Prop} (P : τ → Prop) {goal : Prop} {kb : τ → Option β} {fb : (τ → Option β) → Option β} (hf : K (bnd kb fb)) (hj : ∀ x, K (kb x) → P x) (hm : ∀ k : τ → Option β, (∀ x, K (k x) → P x) → K (fb k) → goal) : goal := hm kb hj hf
/-- a field's row: own class and place in its pool, the class and the place of the field, its ref's way (none: an int) -/
def FX (own : String) (index ci k : Nat) (r : Option Nat) : Prop := ∃ (C : String) (T : u_T) (N : Nat), vwCl[ci]? = some (C, T, N) ∧ k < N ∧ ci < 13 ∧ (fl ci)[k]? = some r ∧ (∀ w ∈ u_ws C T N, w ∈ uW) ∧ (Cond.fieldLink own index (T k).1 (T k).2.1 (T k).2.2.1 ∈ uW ∨ ∃ host, Cond.fieldLinkNest own index (T k).1 (T k).2.1 (T k).2.2.1 host ∈ nW)
def FP (own : String) (index ci k : Nat) (ty : FieldType) : Prop := ∃ (C : String) (T : u_T) (N : Nat) (ty0 : Nat → FieldType), vwCl[ci]? = some (C, T, N) ∧ k < N ∧ ci < 13 ∧ (fl ci)[k]? = some none ∧ (∀ w ∈ u_ws C T N, w ∈ uW) ∧ (∀ k, k < N → parseFieldDescriptor (T k).2.2.1 = some (ty0 k)) ∧ (∀ a, a < N → ∀ b, b < N → a ≠ b → (T a).2.1 ≠ (T b).2.1) ∧ (T k).2.2.2 = false ∧ parseFieldDescriptor (T k).2.2.1 = some ty ∧ (Cond.fieldLink own index (T k).1 (T k).2.1 (T k).2.2.1 ∈ uW ∨ ∃ host, Cond.fieldLinkNest own index (T k).1 (T k).2.1 (T k).2.2.1 host ∈ nW)
theorem ent_obj {Z : ZT} {σ : Mem} {i ci : Nat} (h : kn i = ci) (hc : ci < 13) : ent Z σ i = .inr (ci, fv (za Z) (σ i) i 0 (fl ci)) := by
  unfold ent
  rw [h, if_pos hc]
theorem ent_byte {Z : ZT} {σ : Mem} {i : Nat} (h : kn i = 20) : ent Z σ i = .inl (zc Z 0, (ln i, .inl (σ i))) := by
  unfold ent
  rw [h, if_neg (by decide), if_pos rfl]
theorem ent_int {Z : ZT} {σ : Mem} {i : Nat} (h : kn i = 21) : ent Z σ i = .inl (zc Z 1, (ln i, .inl (σ i))) := by
  unfold ent
  rw [h, if_neg (by decide), if_neg (by decide), if_pos rfl]
theorem ent_ref {Z : ZT} {σ : Mem} {i c : Nat} (h : kn i = c) (h1 : 21 < c) : ent Z σ i = .inl (zc Z (c - 20), (ln i, .inr (.inr (.inr (.inr (fun j => some (za Z (el i j)))))))) := by
  unfold ent
  rw [h, if_neg (by omega), if_neg (by omega), if_neg (by omega)]
theorem wl_byte {Z : ZT} {σ : Mem} {id : Nat} (hk : kn id = 20) : (wl Z σ)[id]? = some (za Z id, .inl (zc Z 0, (ln id, .inl (σ id)))) := by rw [wl_at Z σ (kn_lt hk (by omega)), ent_byte hk]
theorem wl_int {Z : ZT} {σ : Mem} {id : Nat} (hk : kn id = 21) : (wl Z σ)[id]? = some (za Z id, .inl (zc Z 1, (ln id, .inl (σ id)))) := by rw [wl_at Z σ (kn_lt hk (by omega)), ent_int hk]
theorem wl_ref {Z : ZT} {σ : Mem} {id c : Nat} (hk : kn id = c) (h1 : 21 < c) (h2 : c < 28) : (wl Z σ)[id]? = some (za Z id, .inl (zc Z (c - 20), (ln id, .inr (.inr (.inr (.inr (fun j => some (za Z (el id j))))))))) := by rw [wl_at Z σ (kn_lt hk (by omega)), ent_ref hk h1]
section ROWS
variable {Z : ZT} {C : CX} {own : String} {cc : ByteArray} {nL fr lo : Nat} {σ : Mem} {pc : Nat} {L L' : List (Nat × Value)} {st : List Value} {β : Type} {K : Option β → Prop}
theorem g_sub (ks : List Nat) (hl : lv_pick L ks = L') (kk : G Z C σ pc L' st) : G Z C σ pc L st := fun H locs ls hP hS h => kk H locs ls hP hS (lv_sub h ks hl)
theorem g_wit {Cn : String} {T : u_T} {N index ci k : Nat} {r : Option Nat} {id : Nat} {v : Value} (O : Ok Z C own cc nL fr lo) (hk : kn id = ci) (F : FX own index ci k r) (hv : (fv (za Z) (σ id) id 0 (fl ci))[k]? = some v) (hd : decode cc pc = .ok (.getfield index, 3)) (kk : G Z C σ (pc + 3) L (v :: st)) : G Z C σ pc L (.ref (za Z id) :: st) := by
  intro H locs ls hP hS h
  obtain ⟨Cn, T, N, h1, h2, h3, h4, h5, h6⟩ := F
  have he : (wl Z σ)[id]? = some (za Z id, .inr (ci, fv (za Z) (σ id) id 0 (fl ci))) := by rw [wl_at Z σ (kn_lt hk (by omega)), ent_obj hk h3]
  rcases h6 with h6 | ⟨host, h6⟩
  · exact va_get O.1 O.2.1 (Ts := uW) O.2.2.2.2.1 h5 O.2.2.2.1 O.2.2.2.2.2.1 hP.1 id he h1 k h2 (O.2.2.2.2.1 _ h6) (fun _ h9 => h9) hv hd (kk H locs ls hP hS h)
  · exact va_getN O.1 O.2.1 (Ts := uW) O.2.2.2.2.1 h5 O.2.2.2.1 O.2.2.2.2.2.1 hP.1 id he h1 k h2 (NW.use O.2.2.2.2.2.2.2.2.2.2.2.2.2 h6) (fun _ h9 => h9) hv hd (kk H locs ls hP hS h)
theorem g_getI {index ci k id : Nat} (O : Ok Z C own cc nL fr lo) (hd : decode cc pc = .ok (.getfield index, 3)) (F : FX own index ci k none) (hk : kn id = ci) (kk : G Z C σ (pc + 3) L (.int (σ id k) :: st)) : G Z C σ pc L (.ref (za Z id) :: st) := by
  have hv := fv_int (za Z) (σ id) id (fl ci) 0 k F.choose_spec.choose_spec.choose_spec.2.2.2.1
  rw [Nat.zero_add] at hv
  exact g_wit (Cn := "") (T := TX0) (N := 0) O hk F hv hd kk
theorem g_getR {index ci k id f : Nat} (O : Ok Z C own cc nL fr lo) (hd : decode cc pc = .ok (.getfield index, 3)) (F : FX own index ci k (some f)) (hk : kn id = ci) (kk : G Z C σ (pc + 3) L (.ref (za Z (id + f)) :: st)) : G Z C σ pc L (.ref (za Z id) :: st) :=
  g_wit (Cn := "") (T := TX0) (N := 0) O hk F (fv_ref (za Z) (σ id) id f (fl ci) 0 k F.choose_spec.choose_spec.choose_spec.2.2.2.1) hd kk
theorem pw_mw {H : Heap} {id k : Nat} {v : Int32} (h : va_P (zD Z) vwCl (wl Z (mw σ id k v)) H) (hb : kn id = 20 → fits .byte (.int v) = true) (h0 : ∀ i, kn i = 20 → ∀ j, fits .byte (.int (σ i j)) = true) : PW Z (mw σ id k v) H := by
  refine ⟨h, fun i hi j => ?_⟩
  unfold mw
  split
  · rename_i q
    exact hb (by rw [← q.1]; exact hi)
  · exact h0 i hi j
theorem g_put {index ci k id : Nat} {ty : FieldType} {v : Int32} (O : Ok Z C own cc nL fr lo) (hd : decode cc pc = .ok (.putfield index, 3)) (F : FP own index ci k ty) (hk : kn id = ci) (hn : narrow ty (.int v) = .int v) (hfit : fits ty (.int v) = true) {t : Mem → Option β} (hf : K (bnd (mw σ id k v) t)) (kk : ∀ σ', K (t σ') → G Z C σ' (pc + 3) L st) : G Z C σ pc L (.int v :: .ref (za Z id) :: st) := by
  intro H locs ls hP hS h
  obtain ⟨Cn, T, N, ty0, h1, h2, h3, h4, h5, h6, h7, h8, h9, h10⟩ := F
  have he : (wl Z σ)[id]? = some (za Z id, .inr (ci, fv (za Z) (σ id) id 0 (fl ci))) := by rw [wl_at Z σ (kn_lt hk (by omega)), ent_obj hk h3]
  have hl : k < (fv (za Z) (σ id) id 0 (fl ci)).length := by
    rw [fv_len]
    exact (List.getElem?_eq_some_iff.mp h4).1
  have hset : (wl Z σ).set id (za Z id, .inr (ci, (fv (za Z) (σ id) id 0 (fl ci)).set k (.int v))) = wl Z (mw σ id k v) := by
    refine wl_set Z σ (mw σ id k v) ?_ (fun j hj => ent_row (mw_row hj))
    rw [ent_obj hk h3]
    congr 2
    exact fv_set (za Z) (σ id) (mw σ id k v id) id v (fl ci) 0 k h4 (by simp [mw]) (fun i hi => by simp [mw]; intro q; omega)
  have hD := wl_D (A := c_A C) O.2.2.2.2.2.2.2.2.1 O.2.2.2.2.2.2.2.1 σ
  have go : ∀ (H1 : Heap) (locs1 : List Loc), va_P (zD Z) vwCl ((wl Z σ).set id (za Z id, .inr (ci, (fv (za Z) (σ id) id 0 (fl ci)).set k (.int v)))) H1 → va_D (c_A C) ((wl Z σ).set id (za Z id, .inr (ci, (fv (za Z) (σ id) id 0 (fl ci)).set k (.int v)))) → va_S (c_A C) (c_s C).heap H1 locs1 → WG Z C H1 locs1 (F0 (c_m C) (pc + 3) ls st) := by
    intro H1 locs1 a1 a2 a3
    rw [hset] at a1
    exact kk _ hf H1 locs1 ls (pw_mw a1 (fun q => by omega) hP.2) a3 h
  rcases h10 with h10 | ⟨host, h10⟩
  · exact va_put O.1 O.2.1 (Ts := uW) O.2.2.2.2.1 h5 ty0 h6 h7 O.2.2.2.1 O.2.2.2.2.2.1 hP.1 hD hS id he h1 k h2 (O.2.2.2.2.1 _ h10) (fun _ h9 => h9) h8 h9 hn hfit hl hd go
  · exact va_putN O.1 O.2.1 (Ts := uW) O.2.2.2.2.1 h5 ty0 h6 h7 O.2.2.2.1 O.2.2.2.2.2.1 hP.1 hD hS id he h1 k h2 (NW.use O.2.2.2.2.2.2.2.2.2.2.2.2.2 h10) (fun _ h9 => h9) h8 h9 hn hfit hl hd go
theorem g_putI {index ci k id : Nat} {v : Int32} (O : Ok Z C own cc nL fr lo) (hd : decode cc pc = .ok (.putfield index, 3)) (F : FP own index ci k .int) (hk : kn id = ci) {t : Mem → Option β} (hf : K (bnd (mw σ id k v) t)) (kk : ∀ σ', K (t σ') → G Z C σ' (pc + 3) L st) : G Z C σ pc L (.int v :: .ref (za Z id) :: st) := g_put O hd F hk rfl rfl hf kk
theorem inb_in {i : Int32} {n : Nat} (h : inb i n = true) : vp_in i n := by
  unfold inb at h
  show ¬ (i < 0 ∨ n ≤ i.toNatClampNeg)
  exact of_decide_eq_true h
theorem g_iald {i : Int32} {id : Nat} (O : Ok Z C own cc nL fr lo) (hN : ¬ K none) (hd : decode cc pc = .ok (.iaload, 1)) (hk : kn id = 21) {t : Option β} (hf : K (grd (inb i (ln id)) t)) (kk : K t → G Z C σ (pc + 1) L (.int (σ id (ix i)) :: st)) : G Z C σ pc L (.int i :: .ref (za Z id) :: st) := by
  obtain ⟨hb, hf⟩ := k_grd hN hf
  intro H locs ls hP hS h
  exact va_iald O.1 O.2.1 O.2.2.2.2.2.1 hP.1 id 1 (f := σ id) (wl_int hk) rfl (inb_in hb) hd (kk hf H locs ls hP hS h)
theorem g_bald {i : Int32} {id : Nat} (O : Ok Z C own cc nL fr lo) (hN : ¬ K none) (hd : decode cc pc = .ok (.baload, 1)) (hk : kn id = 20) {t : Option β} (hf : K (grd (inb i (ln id)) t)) (kk : K t → G Z C σ (pc + 1) L (.int (σ id (ix i)) :: st)) : G Z C σ pc L (.int i :: .ref (za Z id) :: st) := by
  obtain ⟨hb, hf⟩ := k_grd hN hf
  intro H locs ls hP hS h
  exact va_bald O.1 O.2.1 O.2.2.2.2.2.1 hP.1 id 0 (f := σ id) (wl_byte hk) rfl (inb_in hb) hd (kk hf H locs ls hP hS h)
theorem g_alen {id c : Nat} (O : Ok Z C own cc nL fr lo) (hd : decode cc pc = .ok (.arraylength, 1)) (hk : kn id = c) (hc : 19 < c ∧ c < 28) (kk : G Z C σ (pc + 1) L (.int (nI (ln id)) :: st)) : G Z C σ pc L (.ref (za Z id) :: st) := by
  intro H locs ls hP hS h
  have hlt := kn_lt hk (by omega)
  rcases (show c = 20 ∨ c = 21 ∨ c = 22 ∨ c = 23 ∨ c = 24 ∨ c = 25 ∨ c = 26 ∨ c = 27 by omega) with e | e | e | e | e | e | e | e <;> subst e
  · exact va_alen O.1 O.2.1 O.2.2.2.2.2.1 hP.1 id 0 (wl_byte hk) rfl rfl hd (kk H locs ls hP hS h)
  · exact va_alen O.1 O.2.1 O.2.2.2.2.2.1 hP.1 id 1 (wl_int hk) rfl rfl hd (kk H locs ls hP hS h)
  · exact va_alen O.1 O.2.1 O.2.2.2.2.2.1 hP.1 id 2 (wl_ref hk (by omega) (by omega)) rfl rfl hd (kk H locs ls hP hS h)
  · exact va_alen O.1 O.2.1 O.2.2.2.2.2.1 hP.1 id 3 (wl_ref hk (by omega) (by omega)) rfl rfl hd (kk H locs ls hP hS h)
  · exact va_alen O.1 O.2.1 O.2.2.2.2.2.1 hP.1 id 4 (wl_ref hk (by omega) (by omega)) rfl rfl hd (kk H locs ls hP hS h)
  · exact va_alen O.1 O.2.1 O.2.2.2.2.2.1 hP.1 id 5 (wl_ref hk (by omega) (by omega)) rfl rfl hd (kk H locs ls hP hS h)
  · exact va_alen O.1 O.2.1 O.2.2.2.2.2.1 hP.1 id 6 (wl_ref hk (by omega) (by omega)) rfl rfl hd (kk H locs ls hP hS h)
  · exact va_alen O.1 O.2.1 O.2.2.2.2.2.1 hP.1 id 7 (wl_ref hk (by omega) (by omega)) rfl rfl hd (kk H locs ls hP hS h)
theorem g_aald {i : Int32} {id c a b : Nat} (O : Ok Z C own cc nL fr lo) (hN : ¬ K none) (hd : decode cc pc = .ok (.aaload, 1)) (hk : kn id = c) (hc : 21 < c ∧ c < 28) (he : ∀ j, el id j = id + a + b * j) {t : Option β} (hf : K (grd (inb i (ln id)) t)) (kk : inb i (ln id) = true → K t → G Z C σ (pc + 1) L (.ref (za Z (id + a + b * ix i)) :: st)) : G Z C σ pc L (.int i :: .ref (za Z id) :: st) := by
  obtain ⟨hb, hf⟩ := k_grd hN hf
  intro H locs ls hP hS h
  have hlt := kn_lt hk (by omega)
  have hg := kk hb hf H locs ls hP hS h
  rw [← he (ix i)] at hg
  rcases (show c = 22 ∨ c = 23 ∨ c = 24 ∨ c = 25 ∨ c = 26 ∨ c = 27 by omega) with e | e | e | e | e | e <;> subst e
  · exact va_aldq O.1 O.2.1 O.2.2.2.2.2.1 hP.1 id 2 (f := fun j => some (za Z (el id j))) (wl_ref hk (by omega) (by omega)) rfl (inb_in hb) hd hg
  · exact va_aldq O.1 O.2.1 O.2.2.2.2.2.1 hP.1 id 3 (f := fun j => some (za Z (el id j))) (wl_ref hk (by omega) (by omega)) rfl (inb_in hb) hd hg
  · exact va_aldq O.1 O.2.1 O.2.2.2.2.2.1 hP.1 id 4 (f := fun j => some (za Z (el id j))) (wl_ref hk (by omega) (by omega)) rfl (inb_in hb) hd hg
  · exact va_aldq O.1 O.2.1 O.2.2.2.2.2.1 hP.1 id 5 (f := fun j => some (za Z (el id j))) (wl_ref hk (by omega) (by omega)) rfl (inb_in hb) hd hg
  · exact va_aldq O.1 O.2.1 O.2.2.2.2.2.1 hP.1 id 6 (f := fun j => some (za Z (el id j))) (wl_ref hk (by omega) (by omega)) rfl (inb_in hb) hd hg
  · exact va_aldq O.1 O.2.1 O.2.2.2.2.2.1 hP.1 id 7 (f := fun j => some (za Z (el id j))) (wl_ref hk (by omega) (by omega)) rfl (inb_in hb) hd hg
theorem g_iast {i x : Int32} {id : Nat} (O : Ok Z C own cc nL fr lo) (hN : ¬ K none) (hd : decode cc pc = .ok (.iastore, 1)) (hk : kn id = 21) {t : Mem → Option β} (hf : K (grd (inb i (ln id)) (bnd (mw σ id (ix i) x) t))) (kk : ∀ σ', K (t σ') → G Z C σ' (pc + 1) L st) : G Z C σ pc L (.int x :: .int i :: .ref (za Z id) :: st) := by
  obtain ⟨hb, hf⟩ := k_grd hN hf
  intro H locs ls hP hS h
  have hD := wl_D (A := c_A C) O.2.2.2.2.2.2.2.2.1 O.2.2.2.2.2.2.2.1 σ
  refine va_iast O.1 O.2.1 O.2.2.2.2.2.1 hP.1 hD hS id 1 (n := ln id) (f := σ id) (wl_int hk) rfl (inb_in hb) hd (fun H1 locs1 a1 a2 a3 => ?_)
  rw [wl_set Z σ (mw σ id (ix i) x) (by rw [ent_int hk, mw_rowI]) (fun j hj => ent_row (mw_row hj))] at a1
  exact kk _ hf H1 locs1 ls (pw_mw a1 (fun q => by omega) hP.2) a3 h
theorem g_bast {i x : Int32} {id : Nat} (O : Ok Z C own cc nL fr lo) (hN : ¬ K none) (hd : decode cc pc = .ok (.bastore, 1)) (hk : kn id = 20) {t : Mem → Option β} (hf : K (grd (inb i (ln id)) (bnd (mw σ id (ix i) x.toInt8.toInt32) t))) (kk : ∀ σ', K (t σ') → G Z C σ' (pc + 1) L st) : G Z C σ pc L (.int x :: .int i :: .ref (za Z id) :: st) := by
  obtain ⟨hb, hf⟩ := k_grd hN hf
  intro H locs ls hP hS h
  have hD := wl_D (A := c_A C) O.2.2.2.2.2.2.2.2.1 O.2.2.2.2.2.2.2.1 σ
  refine va_bast O.1 O.2.1 O.2.2.2.2.2.1 hP.1 hD hS id 0 (n := ln id) (f := σ id) (wl_byte hk) rfl (inb_in hb) hd (fun H1 locs1 a1 a2 a3 => ?_)
  rw [vp_nar_byte, wl_set Z σ (mw σ id (ix i) x.toInt8.toInt32) (by rw [ent_byte hk, mw_rowI]) (fun j hj => ent_row (mw_row hj))] at a1
  exact kk _ hf H1 locs1 ls (pw_mw a1 (fun q => pk_fb x) hP.2) a3 h
end ROWS
end
section
theorem fnn_n {x : UInt32} (h : fnn x = true) : vf_n32 x := by
  unfold fnn at h
  show x &&& 0x7fffffff ≤ 0x7f800000
  exact of_decide_eq_true h
def imn (x y : Int32) : Int32 := if y < x then y else x
section ROWS2
variable {Z : ZT} {C : CX} {own : String} {cc : ByteArray} {nL fr lo : Nat} {σ : Mem} {pc : Nat} {L L' : List (Nat × Value)} {st : List Value} {β : Type} {K : Option β → Prop}
theorem g_iload_n {k : Fin 4} {i : Nat} {x : Int32} (O : Ok Z C own cc nL fr lo) (hd : decode cc pc = .ok (.iload_n k, 1)) (j : Nat) (hl : L[j]? = some (i, .int x)) (hi : (k : Nat) = i) (kk : G Z C σ (pc + 1) L (.int x :: st)) : G Z C σ pc L st := fun H locs ls hP hS h => lv_iload_n O.1 O.2.1 hd hi (lv_at h j hl) (kk H locs ls hP hS h)
theorem g_iload {i : Nat} {x : Int32} (O : Ok Z C own cc nL fr lo) (hd : decode cc pc = .ok (.iload i, 2)) (j : Nat) (hl : L[j]? = some (i, .int x)) (kk : G Z C σ (pc + 2) L (.int x :: st)) : G Z C σ pc L st := fun H locs ls hP hS h => lv_iload O.1 O.2.1 hd (lv_at h j hl) (kk H locs ls hP hS h)
theorem g_aload_n {k : Fin 4} {i : Nat} {x : Nat} (O : Ok Z C own cc nL fr lo) (hd : decode cc pc = .ok (.aload_n k, 1)) (j : Nat) (hl : L[j]? = some (i, .ref x)) (hi : (k : Nat) = i) (kk : G Z C σ (pc + 1) L (.ref x :: st)) : G Z C σ pc L st := fun H locs ls hP hS h => lv_aload_n O.1 O.2.1 hd hi (lv_at h j hl) (kk H locs ls hP hS h)
theorem g_aload {i : Nat} {x : Nat} (O : Ok Z C own cc nL fr lo) (hd : decode cc pc = .ok (.aload i, 2)) (j : Nat) (hl : L[j]? = some (i, .ref x)) (kk : G Z C σ (pc + 2) L (.ref x :: st)) : G Z C σ pc L st := fun H locs ls hP hS h => lv_aload O.1 O.2.1 hd (lv_at h j hl) (kk H locs ls hP hS h)
theorem g_fload_n {k : Fin 4} {i : Nat} {x : UInt32} (O : Ok Z C own cc nL fr lo) (hd : decode cc pc = .ok (.fload_n k, 1)) (j : Nat) (hl : L[j]? = some (i, .float x)) (hi : (k : Nat) = i) (kk : G Z C σ (pc + 1) L (.float x :: st)) : G Z C σ pc L st := fun H locs ls hP hS h => lv_fload_n O.1 O.2.1 hd hi (lv_at h j hl) (kk H locs ls hP hS h)
theorem g_fload {i : Nat} {x : UInt32} (O : Ok Z C own cc nL fr lo) (hd : decode cc pc = .ok (.fload i, 2)) (j : Nat) (hl : L[j]? = some (i, .float x)) (kk : G Z C σ (pc + 2) L (.float x :: st)) : G Z C σ pc L st := fun H locs ls hP hS h => lv_fload O.1 O.2.1 hd (lv_at h j hl) (kk H locs ls hP hS h)
theorem g_aload_nN {k : Fin 4} {i : Nat} (O : Ok Z C own cc nL fr lo) (hd : decode cc pc = .ok (.aload_n k, 1)) (j : Nat) (hl : L[j]? = some (i, .null)) (hi : (k : Nat) = i) (kk : G Z C σ (pc + 1) L (.null :: st)) : G Z C σ pc L st := fun H locs ls hP hS h => lv_aload_nN O.1 O.2.1 hd hi (lv_at h j hl) (kk H locs ls hP hS h)
theorem g_aloadN {i : Nat} (O : Ok Z C own cc nL fr lo) (hd : decode cc pc = .ok (.aload i, 2)) (j : Nat) (hl : L[j]? = some (i, .null)) (kk : G Z C σ (pc + 2) L (.null :: st)) : G Z C σ pc L st := fun H locs ls hP hS h => lv_aloadN O.1 O.2.1 hd (lv_at h j hl) (kk H locs ls hP hS h)
theorem g_istore_n {k : Fin 4} {i : Nat} {x : Int32} (O : Ok Z C own cc nL fr lo) (hd : decode cc pc = .ok (.istore_n k, 1)) (hi : (k : Nat) = i) (hn : i < nL) (M : Int32 → List (Nat × Value)) (hl : ∀ y, (i, Value.int y) :: L.filter (fun q => !(q.1 == i) && !(q.1 + 1 == i && q.2.category == 2)) = M y) {t : Int32 → Option β} (hf : K (bnd x t)) (kk : ∀ y, K (t y) → G Z C σ (pc + 1) (M y) st) : G Z C σ pc L (.int x :: st) := fun H locs ls hP hS h => lv_istore_n O.1 O.2.1 hd hi h (by rw [O.2.2.1]; exact hn) (hl x) (fun ls' h' => kk x hf H locs ls' hP hS h')
theorem g_istore {i : Nat} {x : Int32} (O : Ok Z C own cc nL fr lo) (hd : decode cc pc = .ok (.istore i, 2)) (hn : i < nL) (M : Int32 → List (Nat × Value)) (hl : ∀ y, (i, Value.int y) :: L.filter (fun q => !(q.1 == i) && !(q.1 + 1 == i && q.2.category == 2)) = M y) {t : Int32 → Option β} (hf : K (bnd x t)) (kk : ∀ y, K (t y) → G Z C σ (pc + 2) (M y) st) : G Z C σ pc L (.int x :: st) := fun H locs ls hP hS h => lv_istore O.1 O.2.1 hd h (by rw [O.2.2.1]; exact hn) (hl x) (fun ls' h' => kk x hf H locs ls' hP hS h')
theorem g_fstore_n {k : Fin 4} {i : Nat} {x : UInt32} (O : Ok Z C own cc nL fr lo) (hd : decode cc pc = .ok (.fstore_n k, 1)) (hi : (k : Nat) = i) (hn : i < nL) (M : UInt32 → List (Nat × Value)) (hl : ∀ y, (i, Value.float y) :: L.filter (fun q => !(q.1 == i) && !(q.1 + 1 == i && q.2.category == 2)) = M y) {t : UInt32 → Option β} (hf : K (bnd x t)) (kk : ∀ y, K (t y) → G Z C σ (pc + 1) (M y) st) : G Z C σ pc L (.float x :: st) := fun H locs ls hP hS h => lv_fstore_n O.1 O.2.1 hd hi h (by rw [O.2.2.1]; exact hn) (hl x) (fun ls' h' => kk x hf H locs ls' hP hS h')
theorem g_fstore {i : Nat} {x : UInt32} (O : Ok Z C own cc nL fr lo) (hd : decode cc pc = .ok (.fstore i, 2)) (hn : i < nL) (M : UInt32 → List (Nat × Value)) (hl : ∀ y, (i, Value.float y) :: L.filter (fun q => !(q.1 == i) && !(q.1 + 1 == i && q.2.category == 2)) = M y) {t : UInt32 → Option β} (hf : K (bnd x t)) (kk : ∀ y, K (t y) → G Z C σ (pc + 2) (M y) st) : G Z C σ pc L (.float x :: st) := fun H locs ls hP hS h => lv_fstore O.1 O.2.1 hd h (by rw [O.2.2.1]; exact hn) (hl x) (fun ls' h' => kk x hf H locs ls' hP hS h')
theorem g_istore_nP {k : Fin 4} {i : Nat} {x : Int32} (O : Ok Z C own cc nL fr lo) (hd : decode cc pc = .ok (.istore_n k, 1)) (hi : (k : Nat) = i) (hn : i < nL) (M : List (Nat × Value)) (hl : (i, Value.int x) :: L.filter (fun q => !(q.1 == i) && !(q.1 + 1 == i && q.2.category == 2)) = M) (kk : G Z C σ (pc + 1) M st) : G Z C σ pc L (.int x :: st) := fun H locs ls hP hS h => lv_istore_n O.1 O.2.1 hd hi h (by rw [O.2.2.1]; exact hn) hl (fun ls' h' => kk H locs ls' hP hS h')
theorem g_istoreP {i : Nat} {x : Int32} (O : Ok Z C own cc nL fr lo) (hd : decode cc pc = .ok (.istore i, 2)) (hn : i < nL) (M : List (Nat × Value)) (hl : (i, Value.int x) :: L.filter (fun q => !(q.1 == i) && !(q.1 + 1 == i && q.2.category == 2)) = M) (kk : G Z C σ (pc + 2) M st) : G Z C σ pc L (.int x :: st) := fun H locs ls hP hS h => lv_istore O.1 O.2.1 hd h (by rw [O.2.2.1]; exact hn) hl (fun ls' h' => kk H locs ls' hP hS h')
theorem g_fstore_nP {k : Fin 4} {i : Nat} {x : UInt32} (O : Ok Z C own cc nL fr lo) (hd : decode cc pc = .ok (.fstore_n k, 1)) (hi : (k : Nat) = i) (hn : i < nL) (M : List (Nat × Value)) (hl : (i, Value.float x) :: L.filter (fun q => !(q.1 == i) && !(q.1 + 1 == i && q.2.category == 2)) = M) (kk : G Z C σ (pc + 1) M st) : G Z C σ pc L (.float x :: st) := fun H locs ls hP hS h => lv_fstore_n O.1 O.2.1 hd hi h (by rw [O.2.2.1]; exact hn) hl (fun ls' h' => kk H locs ls' hP hS h')
theorem g_fstoreP {i : Nat} {x : UInt32} (O : Ok Z C own cc nL fr lo) (hd : decode cc pc = .ok (.fstore i, 2)) (hn : i < nL) (M : List (Nat × Value)) (hl : (i, Value.float x) :: L.filter (fun q => !(q.1 == i) && !(q.1 + 1 == i && q.2.category == 2)) = M) (kk : G Z C σ (pc + 2) M st) : G Z C σ pc L (.float x :: st) := fun H locs ls hP hS h => lv_fstore O.1 O.2.1 hd h (by rw [O.2.2.1]; exact hn) hl (fun ls' h' => kk H locs ls' hP hS h')
theorem g_astore_nP {k : Fin 4} {i : Nat} {x : Nat} (O : Ok Z C own cc nL fr lo) (hd : decode cc pc = .ok (.astore_n k, 1)) (hi : (k : Nat) = i) (hn : i < nL) (M : List (Nat × Value)) (hl : (i, Value.ref x) :: L.filter (fun q => !(q.1 == i) && !(q.1 + 1 == i && q.2.category == 2)) = M) (kk : G Z C σ (pc + 1) M st) : G Z C σ pc L (.ref x :: st) := fun H locs ls hP hS h => lv_astore_n O.1 O.2.1 hd hi h (by rw [O.2.2.1]; exact hn) hl (fun ls' h' => kk H locs ls' hP hS h')
theorem g_astoreP {i : Nat} {x : Nat} (O : Ok Z C own cc nL fr lo) (hd : decode cc pc = .ok (.astore i, 2)) (hn : i < nL) (M : List (Nat × Value)) (hl : (i, Value.ref x) :: L.filter (fun q => !(q.1 == i) && !(q.1 + 1 == i && q.2.category == 2)) = M) (kk : G Z C σ (pc + 2) M st) : G Z C σ pc L (.ref x :: st) := fun H locs ls hP hS h => lv_astore O.1 O.2.1 hd h (by rw [O.2.2.1]; exact hn) hl (fun ls' h' => kk H locs ls' hP hS h')
theorem g_astore_nN {k : Fin 4} {i : Nat} (O : Ok Z C own cc nL fr lo) (hd : decode cc pc = .ok (.astore_n k, 1)) (hi : (k : Nat) = i) (hn : i < nL) (M : List (Nat × Value)) (hl : (i, Value.null) :: L.filter (fun q => !(q.1 == i) && !(q.1 + 1 == i && q.2.category == 2)) = M) (kk : G Z C σ (pc + 1) M st) : G Z C σ pc L (.null :: st) := fun H locs ls hP hS h => lv_astore_nN O.1 O.2.1 hd hi h (by rw [O.2.2.1]; exact hn) hl (fun ls' h' => kk H locs ls' hP hS h')
theorem g_astoreN {i : Nat} (O : Ok Z C own cc nL fr lo) (hd : decode cc pc = .ok (.astore i, 2)) (hn : i < nL) (M : List (Nat × Value)) (hl : (i, Value.null) :: L.filter (fun q => !(q.1 == i) && !(q.1 + 1 == i && q.2.category == 2)) = M) (kk : G Z C σ (pc + 2) M st) : G Z C σ pc L (.null :: st) := fun H locs ls hP hS h => lv_astoreN O.1 O.2.1 hd h (by rw [O.2.2.1]; exact hn) hl (fun ls' h' => kk H locs ls' hP hS h')
theorem g_iinc {i : Nat} {n : Int} {x : Int32} (O : Ok Z C own cc nL fr lo) (hd : decode cc pc = .ok (.iinc i n, 3)) (j : Nat) (hj : L[j]? = some (i, .int x)) (hn : i < nL) (d : Int32) (hd2 : Int32.ofInt n = d) (M : Int32 → List (Nat × Value)) (hl : ∀ y, (i, Value.int y) :: L.filter (fun q => !(q.1 == i) && !(q.1 + 1 == i && q.2.category == 2)) = M y) {t : Int32 → Option β} (hf : K (bnd (x + d) t)) (kk : ∀ y, K (t y) → G Z C σ (pc + 3) (M y) st) : G Z C σ pc L st := fun H locs ls hP hS h => lv_iinc O.1 O.2.1 hd h hj rfl (by rw [O.2.2.1]; exact hn) (hl _) (fun ls' h' => kk (x + Int32.ofInt n) (by rw [hd2]; exact hf) H locs ls' hP hS h')
theorem g_iconst {n : Int} (O : Ok Z C own cc nL fr lo) (hd : decode cc pc = .ok (.iconst n, 1)) (v : Int32) (hv : Int32.ofInt n = v) (kk : G Z C σ (pc + 1) L (.int v :: st)) : G Z C σ pc L st := fun H locs ls hP hS h => lv_iconst O.1 O.2.1 hd hv (kk H locs ls hP hS h)
theorem g_bipush {n : Int} (O : Ok Z C own cc nL fr lo) (hd : decode cc pc = .ok (.bipush n, 2)) (v : Int32) (hv : (Int8.ofInt n).toInt32 = v) (kk : G Z C σ (pc + 2) L (.int v :: st)) : G Z C σ pc L st := fun H locs ls hP hS h => lv_bipush O.1 O.2.1 hd hv (kk H locs ls hP hS h)
theorem g_sipush {n : Int} (O : Ok Z C own cc nL fr lo) (hd : decode cc pc = .ok (.sipush n, 3)) (v : Int32) (hv : (Int16.ofInt n).toInt32 = v) (kk : G Z C σ (pc + 3) L (.int v :: st)) : G Z C σ pc L st := fun H locs ls hP hS h => lv_sipush O.1 O.2.1 hd hv (kk H locs ls hP hS h)
theorem g_ldc {index : Nat} {v : Int32} (O : Ok Z C own cc nL fr lo) (hd : decode cc pc = .ok (.ldc index, 2)) (hc : Cond.constant own index v ∈ uW) (kk : G Z C σ (pc + 2) L (.int v :: st)) : G Z C σ pc L st := fun H locs ls hP hS h => lv_ldc O.1 O.2.1 O.2.2.2.1 (O.2.2.2.2.1 _ hc) hd (kk H locs ls hP hS h)
theorem g_ldc_w {index : Nat} {v : Int32} (O : Ok Z C own cc nL fr lo) (hd : decode cc pc = .ok (.ldc_w index, 3)) (hc : Cond.constant own index v ∈ uW) (kk : G Z C σ (pc + 3) L (.int v :: st)) : G Z C σ pc L st := fun H locs ls hP hS h => lv_ldcw O.1 O.2.1 O.2.2.2.1 (O.2.2.2.2.1 _ hc) hd (kk H locs ls hP hS h)
theorem g_ldcf {index : Nat} {v : UInt32} (O : Ok Z C own cc nL fr lo) (hd : decode cc pc = .ok (.ldc index, 2)) (hc : Cond.constantFloat own index v ∈ uW) (kk : G Z C σ (pc + 2) L (.float v :: st)) : G Z C σ pc L st := fun H locs ls hP hS h => lv_ldcf O.1 O.2.1 O.2.2.2.1 (O.2.2.2.2.1 _ hc) hd (kk H locs ls hP hS h)
theorem g_fconst0 (O : Ok Z C own cc nL fr lo) (hd : decode cc pc = .ok (.fconst 0, 1)) (kk : G Z C σ (pc + 1) L (.float FP.fconst0 :: st)) : G Z C σ pc L st := fun H locs ls hP hS h => lv_fconst0 O.1 O.2.1 hd (kk H locs ls hP hS h)
theorem g_fconst2 (O : Ok Z C own cc nL fr lo) (hd : decode cc pc = .ok (.fconst 2, 1)) (kk : G Z C σ (pc + 1) L (.float FP.fconst2 :: st)) : G Z C σ pc L st := fun H locs ls hP hS h => lv_fconst2 O.1 O.2.1 hd (kk H locs ls hP hS h)
theorem g_null (O : Ok Z C own cc nL fr lo) (hd : decode cc pc = .ok (.aconst_null, 1)) (kk : G Z C σ (pc + 1) L (.null :: st)) : G Z C σ pc L st := fun H locs ls hP hS h => lv_null O.1 O.2.1 hd (kk H locs ls hP hS h)
theorem g_iadd {x y : Int32} (O : Ok Z C own cc nL fr lo) (hd : decode cc pc = .ok (.iadd, 1)) (kk : G Z C σ (pc + 1) L (.int (x + y) :: st)) : G Z C σ pc L (.int y :: .int x :: st) := fun H locs ls hP hS h => lv_iadd O.1 O.2.1 hd (kk H locs ls hP hS h)
theorem g_isub {x y : Int32} (O : Ok Z C own cc nL fr lo) (hd : decode cc pc = .ok (.isub, 1)) (kk : G Z C σ (pc + 1) L (.int (x - y) :: st)) : G Z C σ pc L (.int y :: .int x :: st) := fun H locs ls hP hS h => lv_isub O.1 O.2.1 hd (kk H locs ls hP hS h)
theorem g_imul {x y : Int32} (O : Ok Z C own cc nL fr lo) (hd : decode cc pc = .ok (.imul, 1)) (kk : G Z C σ (pc + 1) L (.int (x * y) :: st)) : G Z C σ pc L (.int y :: .int x :: st) := fun H locs ls hP hS h => lv_imul O.1 O.2.1 hd (kk H locs ls hP hS h)
theorem g_iand {x y : Int32} (O : Ok Z C own cc nL fr lo) (hd : decode cc pc = .ok (.iand, 1)) (kk : G Z C σ (pc + 1) L (.int (x &&& y) :: st)) : G Z C σ pc L (.int y :: .int x :: st) := fun H locs ls hP hS h => lv_iand O.1 O.2.1 hd (kk H locs ls hP hS h)
theorem g_ior {x y : Int32} (O : Ok Z C own cc nL fr lo) (hd : decode cc pc = .ok (.ior, 1)) (kk : G Z C σ (pc + 1) L (.int (x ||| y) :: st)) : G Z C σ pc L (.int y :: .int x :: st) := fun H locs ls hP hS h => lv_ior O.1 O.2.1 hd (kk H locs ls hP hS h)
theorem g_ixor {x y : Int32} (O : Ok Z C own cc nL fr lo) (hd : decode cc pc = .ok (.ixor, 1)) (kk : G Z C σ (pc + 1) L (.int (x ^^^ y) :: st)) : G Z C σ pc L (.int y :: .int x :: st) := fun H locs ls hP hS h => lv_ixor O.1 O.2.1 hd (kk H locs ls hP hS h)
theorem g_ishl {x y : Int32} (O : Ok Z C own cc nL fr lo) (hd : decode cc pc = .ok (.ishl, 1)) (kk : G Z C σ (pc + 1) L (.int (x <<< (y &&& 31)) :: st)) : G Z C σ pc L (.int y :: .int x :: st) := fun H locs ls hP hS h => lv_ishl O.1 O.2.1 hd (kk H locs ls hP hS h)
theorem g_ishr {x y : Int32} (O : Ok Z C own cc nL fr lo) (hd : decode cc pc = .ok (.ishr, 1)) (kk : G Z C σ (pc + 1) L (.int (x >>> (y &&& 31)) :: st)) : G Z C σ pc L (.int y :: .int x :: st) := fun H locs ls hP hS h => lv_ishr O.1 O.2.1 hd (kk H locs ls hP hS h)
theorem g_iushr {x y : Int32} (O : Ok Z C own cc nL fr lo) (hd : decode cc pc = .ok (.iushr, 1)) (kk : G Z C σ (pc + 1) L (.int (ius x y) :: st)) : G Z C σ pc L (.int y :: .int x :: st) := fun H locs ls hP hS h => lv_iushr O.1 O.2.1 hd rfl (kk H locs ls hP hS h)
theorem g_idiv {x y : Int32} (O : Ok Z C own cc nL fr lo) (hN : ¬ K none) (hd : decode cc pc = .ok (.idiv, 1)) {t : Option β} (hf : K (grd (!decide (y = 0)) t)) (kk : K t → G Z C σ (pc + 1) L (.int (x / y) :: st)) : G Z C σ pc L (.int y :: .int x :: st) := fun H locs ls hP hS h => lv_idiv O.1 O.2.1 hd (by simpa using (k_grd hN hf).1) (kk (k_grd hN hf).2 H locs ls hP hS h)
theorem g_irem {x y : Int32} (O : Ok Z C own cc nL fr lo) (hN : ¬ K none) (hd : decode cc pc = .ok (.irem, 1)) {t : Option β} (hf : K (grd (!decide (y = 0)) t)) (kk : K t → G Z C σ (pc + 1) L (.int (irm x y) :: st)) : G Z C σ pc L (.int y :: .int x :: st) := fun H locs ls hP hS h => lv_irem O.1 O.2.1 hd (by simpa using (k_grd hN hf).1) (kk (k_grd hN hf).2 H locs ls hP hS h)
theorem g_i2b {x : Int32} (O : Ok Z C own cc nL fr lo) (hd : decode cc pc = .ok (.i2b, 1)) (kk : G Z C σ (pc + 1) L (.int x.toInt8.toInt32 :: st)) : G Z C σ pc L (.int x :: st) := fun H locs ls hP hS h => lv_i2b O.1 O.2.1 hd rfl (kk H locs ls hP hS h)
theorem g_i2s {x : Int32} (O : Ok Z C own cc nL fr lo) (hd : decode cc pc = .ok (.i2s, 1)) (kk : G Z C σ (pc + 1) L (.int x.toInt16.toInt32 :: st)) : G Z C σ pc L (.int x :: st) := fun H locs ls hP hS h => lv_i2s O.1 O.2.1 hd rfl (kk H locs ls hP hS h)
theorem g_i2f {x : Int32} (O : Ok Z C own cc nL fr lo) (hd : decode cc pc = .ok (.i2f, 1)) (kk : G Z C σ (pc + 1) L (.float (FP.i2f x) :: st)) : G Z C σ pc L (.int x :: st) := fun H locs ls hP hS h => lv_i2f O.1 O.2.1 hd (kk H locs ls hP hS h)
theorem g_f2i {x : UInt32} (O : Ok Z C own cc nL fr lo) (hd : decode cc pc = .ok (.f2i, 1)) (kk : G Z C σ (pc + 1) L (.int (FP.f2i x) :: st)) : G Z C σ pc L (.float x :: st) := fun H locs ls hP hS h => lv_f2i O.1 O.2.1 hd (kk H locs ls hP hS h)
theorem g_fmul {x y : UInt32} (O : Ok Z C own cc nL fr lo) (hN : ¬ K none) (hd : decode cc pc = .ok (.fmul, 1)) {t : Option β} (hf : K (grd (fnn (FP.fmul x y)) t)) (kk : K t → G Z C σ (pc + 1) L (.float (FP.fmul x y) :: st)) : G Z C σ pc L (.float y :: .float x :: st) := fun H locs ls hP hS h => lv_fmul O.1 O.2.1 hd (fnn_n (k_grd hN hf).1) (kk (k_grd hN hf).2 H locs ls hP hS h)
theorem g_fadd {x y : UInt32} (O : Ok Z C own cc nL fr lo) (hN : ¬ K none) (hd : decode cc pc = .ok (.fadd, 1)) {t : Option β} (hf : K (grd (fnn (FP.fadd x y)) t)) (kk : K t → G Z C σ (pc + 1) L (.float (FP.fadd x y) :: st)) : G Z C σ pc L (.float y :: .float x :: st) := fun H locs ls hP hS h => lv_fadd O.1 O.2.1 hd (fnn_n (k_grd hN hf).1) (kk (k_grd hN hf).2 H locs ls hP hS h)
theorem g_fdiv {x y : UInt32} (O : Ok Z C own cc nL fr lo) (hN : ¬ K none) (hd : decode cc pc = .ok (.fdiv, 1)) {t : Option β} (hf : K (grd (fnn (FP.fdiv x y)) t)) (kk : K t → G Z C σ (pc + 1) L (.float (FP.fdiv x y) :: st)) : G Z C σ pc L (.float y :: .float x :: st) := fun H locs ls hP hS h => lv_fdiv O.1 O.2.1 hd (fnn_n (k_grd hN hf).1) (kk (k_grd hN hf).2 H locs ls hP hS h)
theorem g_fcmp {x y : UInt32} {op : CmpOp} (O : Ok Z C own cc nL fr lo) (hd : decode cc pc = .ok (.fcmp op, 1)) (kk : G Z C σ (pc + 1) L (.int (Op.cmpValue (FP.fcmp x y) op) :: st)) : G Z C σ pc L (.float y :: .float x :: st) := fun H locs ls hP hS h => lv_fcmp O.1 O.2.1 hd (kk H locs ls hP hS h)
theorem g_dup {v : Value} (O : Ok Z C own cc nL fr lo) (hd : decode cc pc = .ok (.dup, 1)) (hv : v.category = 1) (kk : G Z C σ (pc + 1) L (v :: v :: st)) : G Z C σ pc L (v :: st) := fun H locs ls hP hS h => lv_dup O.1 O.2.1 hd hv (kk H locs ls hP hS h)
theorem g_dup2 {v u : Value} (O : Ok Z C own cc nL fr lo) (hd : decode cc pc = .ok (.dup2, 1)) (hv : v.category = 1) (hu : u.category = 1) (kk : G Z C σ (pc + 1) L (v :: u :: v :: u :: st)) : G Z C σ pc L (v :: u :: st) := fun H locs ls hP hS h => lv_dup2_11 O.1 O.2.1 hd hv hu (kk H locs ls hP hS h)
theorem g_pop {v : Value} (O : Ok Z C own cc nL fr lo) (hd : decode cc pc = .ok (.pop, 1)) (hv : v.category = 1) (kk : G Z C σ (pc + 1) L st) : G Z C σ pc L (v :: st) := fun H locs ls hP hS h => lv_pop O.1 O.2.1 hd hv (kk H locs ls hP hS h)
theorem g_goto {off : Int} (tgt : Nat) (O : Ok Z C own cc nL fr lo) (hd : decode cc pc = .ok (.goto off, 3)) (ht : (pc : Int) + off = (tgt : Int)) (kk : G Z C σ tgt L st) : G Z C σ pc L st := fun H locs ls hP hS h => lv_goto O.1 O.2.1 hd ht (kk H locs ls hP hS h)
theorem g_icmp_ge {x y : Int32} {off : Int} (tgt : Nat) (O : Ok Z C own cc nL fr lo) (hd : decode cc pc = .ok (.if_icmp .ge off, 3)) (ht : (pc : Int) + off = (tgt : Int)) {t e : Option β} (hf : K (if y ≤ x then t else e)) (kt : y ≤ x → K t → G Z C σ tgt L st) (kf : ¬ y ≤ x → K e → G Z C σ (pc + 3) L st) : G Z C σ pc L (.int y :: .int x :: st) := fun H locs ls hP hS h => lv_icmp_ge O.1 O.2.1 hd ht (fun q => kt q (k_t q hf) H locs ls hP hS h) (fun q => kf q (k_f q hf) H locs ls hP hS h)
theorem g_icmp_gt {x y : Int32} {off : Int} (tgt : Nat) (O : Ok Z C own cc nL fr lo) (hd : decode cc pc = .ok (.if_icmp .gt off, 3)) (ht : (pc : Int) + off = (tgt : Int)) {t e : Option β} (hf : K (if y < x then t else e)) (kt : y < x → K t → G Z C σ tgt L st) (kf : ¬ y < x → K e → G Z C σ (pc + 3) L st) : G Z C σ pc L (.int y :: .int x :: st) := fun H locs ls hP hS h => lv_icmp_gt O.1 O.2.1 hd ht (fun q => kt q (k_t q hf) H locs ls hP hS h) (fun q => kf q (k_f q hf) H locs ls hP hS h)
theorem g_icmp_le {x y : Int32} {off : Int} (tgt : Nat) (O : Ok Z C own cc nL fr lo) (hd : decode cc pc = .ok (.if_icmp .le off, 3)) (ht : (pc : Int) + off = (tgt : Int)) {t e : Option β} (hf : K (if x ≤ y then t else e)) (kt : x ≤ y → K t → G Z C σ tgt L st) (kf : ¬ x ≤ y → K e → G Z C σ (pc + 3) L st) : G Z C σ pc L (.int y :: .int x :: st) := fun H locs ls hP hS h => lv_icmp_le O.1 O.2.1 hd ht (fun q => kt q (k_t q hf) H locs ls hP hS h) (fun q => kf q (k_f q hf) H locs ls hP hS h)
theorem g_icmp_lt {x y : Int32} {off : Int} (tgt : Nat) (O : Ok Z C own cc nL fr lo) (hd : decode cc pc = .ok (.if_icmp .lt off, 3)) (ht : (pc : Int) + off = (tgt : Int)) {t e : Option β} (hf : K (if x < y then t else e)) (kt : x < y → K t → G Z C σ tgt L st) (kf : ¬ x < y → K e → G Z C σ (pc + 3) L st) : G Z C σ pc L (.int y :: .int x :: st) := fun H locs ls hP hS h => lv_icmp_lt O.1 O.2.1 hd ht (fun q => kt q (k_t q hf) H locs ls hP hS h) (fun q => kf q (k_f q hf) H locs ls hP hS h)
theorem g_icmp_eq {x y : Int32} {off : Int} (tgt : Nat) (O : Ok Z C own cc nL fr lo) (hd : decode cc pc = .ok (.if_icmp .eq off, 3)) (ht : (pc : Int) + off = (tgt : Int)) {t e : Option β} (hf : K (if x = y then t else e)) (kt : x = y → K t → G Z C σ tgt L st) (kf : ¬ x = y → K e → G Z C σ (pc + 3) L st) : G Z C σ pc L (.int y :: .int x :: st) := fun H locs ls hP hS h => lv_icmp_eq O.1 O.2.1 hd ht (fun q => kt q (k_t q hf) H locs ls hP hS h) (fun q => kf q (k_f q hf) H locs ls hP hS h)
theorem g_icmp_ne {x y : Int32} {off : Int} (tgt : Nat) (O : Ok Z C own cc nL fr lo) (hd : decode cc pc = .ok (.if_icmp .ne off, 3)) (ht : (pc : Int) + off = (tgt : Int)) {t e : Option β} (hf : K (if x = y then t else e)) (kt : x = y → K t → G Z C σ (pc + 3) L st) (kf : ¬ x = y → K e → G Z C σ tgt L st) : G Z C σ pc L (.int y :: .int x :: st) := fun H locs ls hP hS h => lv_icmp_ne O.1 O.2.1 hd ht (fun q => kf q (k_f q hf) H locs ls hP hS h) (fun q => kt q (k_t q hf) H locs ls hP hS h)
theorem g_if_ge {x : Int32} {off : Int} (tgt : Nat) (O : Ok Z C own cc nL fr lo) (hd : decode cc pc = .ok (.ifCond .ge off, 3)) (ht : (pc : Int) + off = (tgt : Int)) {t e : Option β} (hf : K (if 0 ≤ x then t else e)) (kt : 0 ≤ x → K t → G Z C σ tgt L st) (kf : ¬ 0 ≤ x → K e → G Z C σ (pc + 3) L st) : G Z C σ pc L (.int x :: st) := fun H locs ls hP hS h => lv_if_ge O.1 O.2.1 hd ht (fun q => kt q (k_t q hf) H locs ls hP hS h) (fun q => kf q (k_f q hf) H locs ls hP hS h)
theorem g_if_gt {x : Int32} {off : Int} (tgt : Nat) (O : Ok Z C own cc nL fr lo) (hd : decode cc pc = .ok (.ifCond .gt off, 3)) (ht : (pc : Int) + off = (tgt : Int)) {t e : Option β} (hf : K (if 0 < x then t else e)) (kt : 0 < x → K t → G Z C σ tgt L st) (kf : ¬ 0 < x → K e → G Z C σ (pc + 3) L st) : G Z C σ pc L (.int x :: st) := fun H locs ls hP hS h => lv_if_gt O.1 O.2.1 hd ht (fun q => kt q (k_t q hf) H locs ls hP hS h) (fun q => kf q (k_f q hf) H locs ls hP hS h)
theorem g_if_le {x : Int32} {off : Int} (tgt : Nat) (O : Ok Z C own cc nL fr lo) (hd : decode cc pc = .ok (.ifCond .le off, 3)) (ht : (pc : Int) + off = (tgt : Int)) {t e : Option β} (hf : K (if x ≤ 0 then t else e)) (kt : x ≤ 0 → K t → G Z C σ tgt L st) (kf : ¬ x ≤ 0 → K e → G Z C σ (pc + 3) L st) : G Z C σ pc L (.int x :: st) := fun H locs ls hP hS h => lv_if_le O.1 O.2.1 hd ht (fun q => kt q (k_t q hf) H locs ls hP hS h) (fun q => kf q (k_f q hf) H locs ls hP hS h)
theorem g_if_lt {x : Int32} {off : Int} (tgt : Nat) (O : Ok Z C own cc nL fr lo) (hd : decode cc pc = .ok (.ifCond .lt off, 3)) (ht : (pc : Int) + off = (tgt : Int)) {t e : Option β} (hf : K (if x < 0 then t else e)) (kt : x < 0 → K t → G Z C σ tgt L st) (kf : ¬ x < 0 → K e → G Z C σ (pc + 3) L st) : G Z C σ pc L (.int x :: st) := fun H locs ls hP hS h => lv_if_lt O.1 O.2.1 hd ht (fun q => kt q (k_t q hf) H locs ls hP hS h) (fun q => kf q (k_f q hf) H locs ls hP hS h)
theorem g_if_eq {x : Int32} {off : Int} (tgt : Nat) (O : Ok Z C own cc nL fr lo) (hd : decode cc pc = .ok (.ifCond .eq off, 3)) (ht : (pc : Int) + off = (tgt : Int)) {t e : Option β} (hf : K (if x = 0 then t else e)) (kt : x = 0 → K t → G Z C σ tgt L st) (kf : ¬ x = 0 → K e → G Z C σ (pc + 3) L st) : G Z C σ pc L (.int x :: st) := fun H locs ls hP hS h => lv_if_eq O.1 O.2.1 hd ht (fun q => kt q (k_t q hf) H locs ls hP hS h) (fun q => kf q (k_f q hf) H locs ls hP hS h)
theorem g_if_ne {x : Int32} {off : Int} (tgt : Nat) (O : Ok Z C own cc nL fr lo) (hd : decode cc pc = .ok (.ifCond .ne off, 3)) (ht : (pc : Int) + off = (tgt : Int)) {t e : Option β} (hf : K (if x = 0 then t else e)) (kt : x = 0 → K t → G Z C σ (pc + 3) L st) (kf : ¬ x = 0 → K e → G Z C σ tgt L st) : G Z C σ pc L (.int x :: st) := fun H locs ls hP hS h => lv_if_ne O.1 O.2.1 hd ht (fun q => kf q (k_f q hf) H locs ls hP hS h) (fun q => kt q (k_t q hf) H locs ls hP hS h)
theorem g_ifnullR {x : Nat} {off : Int} (O : Ok Z C own cc nL fr lo) (hd : decode cc pc = .ok (.ifnull off, 3)) (kk : G Z C σ (pc + 3) L st) : G Z C σ pc L (.ref x :: st) := fun H locs ls hP hS h => lv_ifnull O.1 O.2.1 hd (kk H locs ls hP hS h)
theorem g_ifnullN {off : Int} (tgt : Nat) (O : Ok Z C own cc nL fr lo) (hd : decode cc pc = .ok (.ifnull off, 3)) (ht : (pc : Int) + off = (tgt : Int)) (kk : G Z C σ tgt L st) : G Z C σ pc L (.null :: st) := fun H locs ls hP hS h => lv_ifnullN O.1 O.2.1 hd ht (kk H locs ls hP hS h)
theorem g_ifnonnullR {x : Nat} {off : Int} (tgt : Nat) (O : Ok Z C own cc nL fr lo) (hd : decode cc pc = .ok (.ifnonnull off, 3)) (ht : (pc : Int) + off = (tgt : Int)) (kk : G Z C σ tgt L st) : G Z C σ pc L (.ref x :: st) := fun H locs ls hP hS h => lv_ifnonnull O.1 O.2.1 hd ht (kk H locs ls hP hS h)
theorem g_ifnonnullN {off : Int} (O : Ok Z C own cc nL fr lo) (hd : decode cc pc = .ok (.ifnonnull off, 3)) (kk : G Z C σ (pc + 3) L st) : G Z C σ pc L (.null :: st) := fun H locs ls hP hS h => lv_ifnonnullN O.1 O.2.1 hd (kk H locs ls hP hS h)
theorem ti_ne {x v : Int32} {n : Int} (h : ¬ x = v) (hv : v.toInt = n) : x.toInt ≠ n := fun q => h (Int32.toInt_inj.mp (q.trans hv.symm))
theorem k_if {c : Prop} [Decidable c] {t e : Option β} {g : Prop} (hf : K (if c then t else e)) (kt : c → K t → g) (kf : ¬ c → K e → g) : g := by
  by_cases h : c
  · exact kt h (k_t h hf)
  · exact kf h (k_f h hf)
theorem g_tabIn {dflt lo' hi' : Int} {offs : Array Int} {len : Nat} {x v : Int32} {off : Int} (tgt : Nat) (O : Ok Z C own cc nL fr lo) (hd : decode cc pc = .ok (.tableswitch dflt lo' hi' offs, len)) (hx : x = v) (h1 : ¬ v.toInt < lo') (h2 : ¬ hi' < v.toInt) (ho : offs[(v.toInt - lo').toNat]? = some off) (ht : (pc : Int) + off = (tgt : Int)) (kk : G Z C σ tgt L st) : G Z C σ pc L (.int x :: st) := by
  subst hx
  exact fun H locs ls hP hS h => lv_tableIn O.1 O.2.1 hd h1 h2 ho ht (kk H locs ls hP hS h)
theorem g_tabOut {dflt lo' hi' : Int} {offs : Array Int} {len : Nat} {x : Int32} (tgt : Nat) (O : Ok Z C own cc nL fr lo) (hd : decode cc pc = .ok (.tableswitch dflt lo' hi' offs, len)) (h0 : x.toInt < lo' ∨ hi' < x.toInt) (ht : (pc : Int) + dflt = (tgt : Int)) (kk : G Z C σ tgt L st) : G Z C σ pc L (.int x :: st) := fun H locs ls hP hS h => lv_tableOut O.1 O.2.1 hd h0 ht (kk H locs ls hP hS h)
theorem g_look {dflt : Int} {ps : Array (Int × Int)} {len : Nat} {x : Int32} {off : Int} (tgt : Nat) (O : Ok Z C own cc nL fr lo) (hd : decode cc pc = .ok (.lookupswitch dflt ps, len)) (hp : (ps.toList.zip (ps.toList.drop 1)).all (fun (a, next) => a.1 < next.1) = true) (ho : Op.lookupswitch.offset ps.toList dflt x.toInt = off) (ht : (pc : Int) + off = (tgt : Int)) (kk : G Z C σ tgt L st) : G Z C σ pc L (.int x :: st) := fun H locs ls hP hS h => lv_lookup O.1 O.2.1 hd hp ho ht (kk H locs ls hP hS h)
/-- the table ABOVE -/
theorem g_above {index : Nat} (O : Ok Z C own cc nL fr lo) (hd : decode cc pc = .ok (.getstatic index, 3)) (hw : Cond.fieldLink own index "PhraseMoods$Word" "ABOVE" "[I" ∈ uW) (kk : G Z C σ (pc + 3) L (.ref (zt Z) :: st)) : G Z C σ pc L st := fun H locs ls hP hS h => va_gets O.1 O.2.1 O.2.2.2.2.2.2.1.1 hS O.2.2.2.1 (O.2.2.2.2.1 _ hw) (fun _ h => h) hd (kk H locs ls hP hS h)
theorem g_abvlen (O : Ok Z C own cc nL fr lo) (hd : decode cc pc = .ok (.arraylength, 1)) (kk : G Z C σ (pc + 1) L (.int 6 :: st)) : G Z C σ pc L (.ref (zt Z) :: st) := fun H locs ls hP hS h => va_tlen O.1 O.2.1 O.2.2.2.2.2.2.1.2 hS rfl hd (kk H locs ls hP hS h)
theorem g_abvld {i : Int32} (O : Ok Z C own cc nL fr lo) (hN : ¬ K none) (hd : decode cc pc = .ok (.iaload, 1)) {t : Option β} (hf : K (grd (inb i 6) t)) (kk : K t → G Z C σ (pc + 1) L (.int (abv (ix i)) :: st)) : G Z C σ pc L (.int i :: .ref (zt Z) :: st) := fun H locs ls hP hS h => va_ti O.1 O.2.1 O.2.2.2.2.2.2.1.2 hS (inb_in (k_grd hN hf).1) rfl hd (kk (k_grd hN hf).2 H locs ls hP hS h)

theorem g_mmax {index : Nat} {x y : Int32} (O : Ok Z C own cc nL fr lo) (hd : decode cc pc = .ok (.invokestatic index, 3)) (hw : Cond.methodLink own index Lib.Math.max.name ∈ uW) (h1 : Cond.static Lib.Math.max.name ∈ uW) (h2 : Cond.initialized "java/lang/Math" ∈ uW) (h3 : Cond.code Lib.Math.max.name Lib.Math.max.code 2 (some .int) ∈ uW) (hr : 1 ≤ fr ∧ 21 ≤ lo) (hc : (st.map fun v => v.category).sum ≤ 8) (kk : G Z C σ (pc + 3) L (.int (imx x y) :: st)) : G Z C σ pc L (.int y :: .int x :: st) := fun H locs ls hP hS h => va_mmax O.1 O.2.1 h.1.symm O.2.2.2.1 (O.2.2.2.2.1 _ hw) (O.2.2.2.2.1 _ h1) (O.2.2.2.2.1 _ h2) (O.2.2.2.2.1 _ h3) (by have := O.2.2.2.2.2.2.2.2.2.1; omega) (by have := O.2.2.2.2.2.2.2.2.2.2.1; omega) O.2.2.2.2.2.2.2.2.2.2.2.1 O.2.2.2.2.2.2.2.2.2.2.2.2.1 hd (kk H locs ls hP hS h)
theorem g_mmin {index : Nat} {x y : Int32} (O : Ok Z C own cc nL fr lo) (hd : decode cc pc = .ok (.invokestatic index, 3)) (hw : Cond.methodLink own index Lib.Math.min.name ∈ uW) (h1 : Cond.static Lib.Math.min.name ∈ uW) (h2 : Cond.initialized "java/lang/Math" ∈ uW) (h3 : Cond.code Lib.Math.min.name Lib.Math.min.code 2 (some .int) ∈ uW) (hr : 1 ≤ fr ∧ 21 ≤ lo) (hc : (st.map fun v => v.category).sum ≤ 8) (kk : G Z C σ (pc + 3) L (.int (imn x y) :: st)) : G Z C σ pc L (.int y :: .int x :: st) := fun H locs ls hP hS h => va_mmin O.1 O.2.1 h.1.symm O.2.2.2.1 (O.2.2.2.2.1 _ hw) (O.2.2.2.2.1 _ h1) (O.2.2.2.2.1 _ h2) (O.2.2.2.2.1 _ h3) (by have := O.2.2.2.2.2.2.2.2.2.1; omega) (by have := O.2.2.2.2.2.2.2.2.2.2.1; omega) O.2.2.2.2.2.2.2.2.2.2.2.1 O.2.2.2.2.2.2.2.2.2.2.2.2.1 hd (kk H locs ls hP hS h)
end ROWS2
end
section
theorem mcp_row {σ : Mem} {s sp d dp n j : Nat} (h : j ≠ d) : mcp σ s sp d dp n j = σ j := by
  funext b
  simp [mcp, h]
theorem mcp_rowI {σ : Mem} {s sp d dp n : Nat} : mcp σ s sp d dp n d = va_cpy (σ s) (σ d) sp dp n := by
  funext b
  simp [mcp, va_cpy]
/-- links of a call of an instance method, of a static one -/
def VX (own : String) (index : Nat) (y : MethodName) (bytes : ByteArray) (maxL : Nat) (ret : Option FieldType) (n ci : Nat) : Prop :=
  (Cond.methodLink own index y ∈ uW ∨ ∃ host, Cond.methodLinkNest own index y host ∈ nW) ∧ Cond.instanceMethod y ∈ uW ∧ Cond.selects y.cls y y ∈ uW ∧ Cond.code y bytes maxL ret ∈ uW ∧ Cond.initialized y.cls ∈ uW ∧ (y.cls ≠ "java/lang/invoke/MethodHandle" ∧ y.cls ≠ "java/lang/invoke/VarHandle" ∧ (parseMethodDescriptor y.desc).map (fun d => d.parameters.length) = some n) ∧ ci < 13 ∧ ∃ (T : u_T) (N : Nat), vwCl[ci]? = some (y.cls, T, N)
def SX (own : String) (index : Nat) (y : MethodName) (bytes : ByteArray) (maxL : Nat) (ret : Option FieldType) (n : Nat) : Prop :=
  (Cond.methodLink own index y ∈ uW ∨ ∃ host, Cond.methodLinkNest own index y host ∈ nW) ∧ Cond.static y ∈ uW ∧ Cond.code y bytes maxL ret ∈ uW ∧ Cond.initialized y.cls ∈ uW ∧ (y.cls ≠ "java/lang/invoke/MethodHandle" ∧ y.cls ≠ "java/lang/invoke/VarHandle" ∧ (parseMethodDescriptor y.desc).map (fun d => d.parameters.length) = some n)
theorem st_part {Z : ZT} {A : Nat → Prop} {s U : State} {H : Heap} {locs : List Loc} (hvm : s.vm.Alike U.vm) (h : ST Z A s s.heap) (hS : va_S A s.heap H locs) (hA : ∀ i, i < NN → A (za Z i)) : ST Z (PA Z) U H := by
  have hAB : ∀ q, PA Z q → A q := fun q ⟨i, hi, e⟩ => by rw [e]; exact hA i hi
  exact ⟨((h.1.kept (H1 := H) hS.2.1).narrow hAB).moved hvm, ((h.2.kept (H1 := H) hS.2.1).narrow hAB).moved hvm⟩
theorem bw_blind {Z : ZT} {σ : Mem} {as : List Value} : FrameBlind (va_Pc as (fun U => BW Z σ U)) := fun a U g mk q => ⟨q.1, q.2.1, va_K.moved (u := U) (U := U.calling g mk a) (Vm.Alike.refl U.vm) q.2.2.1, ⟨q.2.2.2.1.1.moved (u := U) (U := U.calling g mk a) (Vm.Alike.refl U.vm), q.2.2.2.1.2.moved (u := U) (U := U.calling g mk a) (Vm.Alike.refl U.vm)⟩, NW.same (s := U) (U := U.calling g mk a) rfl q.2.2.2.2⟩
theorem uw_goodIn {y : MethodName} {bytes : ByteArray} {maxL : Nat} {ret : Option FieldType} (h : Cond.code y bytes maxL ret ∈ uW) : GoodIn uW (Cond.code y bytes maxL ret :: uW) := by
  intro w hw
  rcases List.mem_cons.mp hw with e | e
  · subst e
    exact ⟨h, good_of_word (uw_good h)⟩
  · exact ⟨e, good_of_word (uw_good e)⟩
section CALLS
variable {Z : ZT} {C : CX} {own : String} {cc : ByteArray} {nL fr lo : Nat} {σ σ' : Mem} {pc : Nat} {L L' : List (Nat × Value)} {st : List Value} {β : Type} {K : Option β → Prop}
theorem va_qm {p : Program} {l : Launch} {e : Env} {R : Room} {s : State} {m : MethodId} {args : Array Value} {below : List Frame} {meth : Method} {c : Code} {H : Heap} {locs : List Loc} {cells slots : Nat} {Q : State → Prop} {pc : Nat} {ls : Array Slot} {rest st0 : List Value} {a : Array Value} {A0 A1 : Nat → Prop} {H0 : Heap} {ro : Option Value} {φ : Prop} {B : State → Prop}
    (hr : va_Run p l e R s m args below meth c H locs cells slots 0 0 (F0 m pc ls st0) rest (Qm ro φ B A1 a) A1) (hS : va_S A0 H0 H locs) (hA : ∀ q, A1 q → A0 q)
    (kk : φ → ∀ (t : State) (H1 : Heap) (locs1 : List Loc), t.heap = H1 → s.vm.Alike t.vm → B t → va_S A0 H0 H1 locs1 → W p l e R s m args below meth c H1 locs1 cells slots Q (F0 m (pc + 3) ls (ro.toList ++ rest))) : W p l e R s m args below meth c H locs cells slots Q (F0 m pc ls st0) := by
  intro T hT X
  obtain ⟨v, st₀, t, T', L, h0, X', hL, e1, e2, ⟨⟨hv, hφ, hb⟩, hz, hk⟩, st⟩ := hr T hT X
  cases hv
  rw [h0] at hz hk
  obtain ⟨t2, a1, b1⟩ := kk hφ t T'.heap (locs ++ L) e1.symm (by rw [← e2]; exact X'.warmed.alike) hb
    ⟨Nat.le_trans hS.1 (by rw [e1]; exact hz), fun q h1 h2 => by rw [e1, hk q (Nat.lt_of_lt_of_le h1 hS.1) (fun z => h2 (hA q z))]; exact hS.2.1 q h1 h2, fun q hq => by
      rcases List.mem_append.mp hq with h | h
      · exact hS.2.2 q h
      · exact hA _ (hL q h)⟩ T' rfl X'
  exact ⟨t2, st t2 a1, b1⟩
theorem g_callV {y : MethodName} {bytes : ByteArray} {maxL fr' lo' index n ci id : Nat} {ret : Option FieldType} {as : List Value} {ro : Option Value} {φ : Prop} {rest : List Value} (O : Ok Z C own cc nL fr lo) (hd : decode cc pc = .ok (.invokevirtual index, 3)) (hct : Ct Z y bytes maxL ret fr' lo' (.ref (za Z id) :: as) σ ro φ σ') (V : VX own index y bytes maxL ret n ci) (hk : kn id = ci) (hn : as.length = n) (hst : as.reverse ++ .ref (za Z id) :: rest = st) (hr : fr' + 1 ≤ fr ∧ 8 + (maxL + 11) + lo' ≤ lo) (hc : (rest.map fun v => v.category).sum ≤ 8) (kk : φ → G Z C σ' (pc + 3) L (ro.toList ++ rest)) : G Z C σ pc L st := by
  intro H locs ls hP hS h
  subst hst
  obtain ⟨v1, v2, v3, v4, v5, v6, v7, T, N, v8⟩ := V
  have hts := O.2.2.2.2.1
  have hR := O.2.2.2.2.2.2.2.2.2
  have hA := O.2.2.2.2.2.2.2.1
  have hAB : ∀ q, PA Z q → c_A C q := fun q ⟨i, hi, e⟩ => by rw [e]; exact hA i hi
  have hrr : fr' + 1 ≤ (c_R C).frames ∧ 8 + (maxL + 11) + lo' ≤ (c_R C).locals := ⟨by omega, by omega⟩
  have hp : PreV (c_s C) H y.cls (za Z id) (va_Pc (.ref (za Z id) :: as) (fun U => BW Z σ U)) as := by
    refine ⟨bw_blind, ?_, fun U hU hW => ⟨rfl, by rw [hU]; exact hP, va_K.moved hW.alike O.2.2.2.2.2.1, by rw [hU]; exact st_part hW.alike O.2.2.2.2.2.2.1 hS hA, NW.warm hW hR.2.2.2.2⟩⟩
    have he : (wl Z σ)[id]? = some (za Z id, .inr (ci, fv (za Z) (σ id) id 0 (fl ci))) := by rw [wl_at Z σ (kn_lt hk (by omega)), ent_obj hk v7]
    exact va_recv O.2.2.2.2.2.1 hP.1 (ci := ci) (q0 := id) v8 he
  have hf : c_k C + 0 ≤ (c_R C).cells ∧ c_n C + 0 ≤ (c_R C).slots := ⟨hR.2.2.1, hR.2.2.2.1⟩
  have hm : (2 * (F0 (c_m C) pc ls (as.reverse ++ .ref (za Z id) :: rest)).monitorRoom + (rest.map fun v => v.category).sum) ≤ 8 := by
    show 2 * 0 + _ ≤ 8
    omega
  rcases v1 with v1 | ⟨host, v1⟩
  · refine va_qm (va_runV (As := as) (rest := rest) ⟨O.1, O.2.1, O.2.2.1, O.2.2.2.1, hts⟩ hct ⟨callB_of n hts (uw_goodIn v4) rfl rfl rfl (hts _ v5) (hts _ v1) v6 hrr, hts _ v2, hts _ v3⟩ hp rfl hn (by show ls.size = nL; rw [h.1]; exact O.2.2.1) rfl hm hd hf) hS hAB (fun hφ t H1 locs1 e1 e2 hB hS1 => ?_)
    exact kk hφ H1 locs1 ls (by rw [← e1]; exact hB.1) hS1 h
  · refine va_qm (va_runVN (As := as) (rest := rest) ⟨O.1, O.2.1, O.2.2.1, O.2.2.2.1, hts⟩ hct ⟨va_cnB n hts (uw_goodIn v4) rfl rfl rfl (hR.2.2.2.2 _ v1) (hts _ v5) v6 hrr, hts _ v2, hts _ v3⟩ hp rfl hn (by show ls.size = nL; rw [h.1]; exact O.2.2.1) rfl hm hd hf) hS hAB (fun hφ t H1 locs1 e1 e2 hB hS1 => ?_)
    exact kk hφ H1 locs1 ls (by rw [← e1]; exact hB.1) hS1 h
theorem g_callS {y : MethodName} {bytes : ByteArray} {maxL fr' lo' index n : Nat} {ret : Option FieldType} {as : List Value} {ro : Option Value} {φ : Prop} {rest : List Value} (O : Ok Z C own cc nL fr lo) (hd : decode cc pc = .ok (.invokestatic index, 3)) (hct : Ct Z y bytes maxL ret fr' lo' as σ ro φ σ') (V : SX own index y bytes maxL ret n) (hn : as.length = n) (hst : as.reverse ++ rest = st) (hr : fr' + 1 ≤ fr ∧ 8 + (maxL + 11) + lo' ≤ lo) (hc : (rest.map fun v => v.category).sum ≤ 8) (kk : φ → G Z C σ' (pc + 3) L (ro.toList ++ rest)) : G Z C σ pc L st := by
  intro H locs ls hP hS h
  subst hst
  obtain ⟨v1, v2, v4, v5, v6⟩ := V
  have hts := O.2.2.2.2.1
  have hR := O.2.2.2.2.2.2.2.2.2
  have hA := O.2.2.2.2.2.2.2.1
  have hAB : ∀ q, PA Z q → c_A C q := fun q ⟨i, hi, e⟩ => by rw [e]; exact hA i hi
  have hrr : fr' + 1 ≤ (c_R C).frames ∧ 8 + (maxL + 11) + lo' ≤ (c_R C).locals := ⟨by omega, by omega⟩
  have hp : PreS (c_s C) H (va_Pc as (fun U => BW Z σ U)) as :=
    ⟨bw_blind, fun U hU hW => ⟨rfl, by rw [hU]; exact hP, va_K.moved hW.alike O.2.2.2.2.2.1, by rw [hU]; exact st_part hW.alike O.2.2.2.2.2.2.1 hS hA, NW.warm hW hR.2.2.2.2⟩⟩
  have hf : c_k C + 0 ≤ (c_R C).cells ∧ c_n C + 0 ≤ (c_R C).slots := ⟨hR.2.2.1, hR.2.2.2.1⟩
  have hm : (2 * (F0 (c_m C) pc ls (as.reverse ++ rest)).monitorRoom + (rest.map fun v => v.category).sum) ≤ 8 := by
    show 2 * 0 + _ ≤ 8
    omega
  rcases v1 with v1 | ⟨host, v1⟩
  · refine va_qm (va_runS (As := as) (rest := rest) ⟨O.1, O.2.1, O.2.2.1, O.2.2.2.1, hts⟩ hct ⟨callB_of n hts (uw_goodIn v4) rfl rfl rfl (hts _ v5) (hts _ v1) v6 hrr, hts _ v2⟩ hp rfl hn (by show ls.size = nL; rw [h.1]; exact O.2.2.1) rfl hm hd hf) hS hAB (fun hφ t H1 locs1 e1 e2 hB hS1 => ?_)
    exact kk hφ H1 locs1 ls (by rw [← e1]; exact hB.1) hS1 h
  · refine va_qm (va_runSN (As := as) (rest := rest) ⟨O.1, O.2.1, O.2.2.1, O.2.2.2.1, hts⟩ hct ⟨va_cnB n hts (uw_goodIn v4) rfl rfl rfl (hR.2.2.2.2 _ v1) (hts _ v5) v6 hrr, hts _ v2, trivial⟩ hp rfl hn (by show ls.size = nL; rw [h.1]; exact O.2.2.1) rfl hm hd hf) hS hAB (fun hφ t H1 locs1 e1 e2 hB hS1 => ?_)
    exact kk hφ H1 locs1 ls (by rw [← e1]; exact hB.1) hS1 h
theorem pw_mcp {H : Heap} {s sp d dp n : Nat} (h : va_P (zD Z) vwCl (wl Z (mcp σ s sp d dp n)) H) (hk : kn s = kn d) (h0 : ∀ i, kn i = 20 → ∀ j, fits .byte (.int (σ i j)) = true) : PW Z (mcp σ s sp d dp n) H := by
  refine ⟨h, fun i hi j => ?_⟩
  unfold mcp
  split
  · rename_i q
    exact h0 s (by rw [hk, ← q.1]; exact hi) _
  · exact h0 i hi j
theorem cpk_of {sp dp n : Int32} {a b : Nat} (h : cpk sp dp n a b = true) : ¬ sp < 0 ∧ ¬ dp < 0 ∧ ¬ n < 0 ∧ ix sp + ix n ≤ a ∧ ix dp + ix n ≤ b := by
  unfold cpk at h
  exact of_decide_eq_true h
theorem g_copy {index s d c : Nat} {sp dp n : Int32} (O : Ok Z C own cc nL fr lo) (hN : ¬ K none) (hd : decode cc pc = .ok (.invokestatic index, 3)) (hw : Cond.methodLink own index arraycopyName ∈ uW) (h1 : Cond.native arraycopyName ∈ uW) (h2 : Cond.static arraycopyName ∈ uW) (h3 : Cond.initialized "java/lang/System" ∈ uW) (hks : kn s = c) (hkd : kn d = c) (hcc : c = 20 ∨ c = 21) (hr : 1 ≤ fr ∧ 40 ≤ lo) (hc : (st.map fun v => v.category).sum ≤ 8) {t : Mem → Option β} (hf : K (grd (cpk sp dp n (ln s) (ln d)) (bnd (mcp σ s (ix sp) d (ix dp) (ix n)) t))) (kk : ∀ σ', K (t σ') → G Z C σ' (pc + 3) L st) : G Z C σ pc L (.int n :: .int dp :: .ref (za Z d) :: .int sp :: .ref (za Z s) :: st) := by
  obtain ⟨hb, hf⟩ := k_grd hN hf
  obtain ⟨b1, b2, b3, b4, b5⟩ := cpk_of hb
  have hts := O.2.2.2.2.1
  have hR := O.2.2.2.2.2.2.2.2.2
  intro H locs ls hP hS h
  have hD := wl_D (A := c_A C) O.2.2.2.2.2.2.2.2.1 O.2.2.2.2.2.2.2.1 σ
  have hsz : (c_c C).maxLocals = ls.size := h.1.symm
  have hl1 : (st.map fun v => v.category).sum + (nativeFrameWords "java/lang/System" "arraycopy" 5 + 11) ≤ (c_R C).locals := by
    have : nativeFrameWords "java/lang/System" "arraycopy" 5 ≤ 21 := by decide +kernel
    omega
  rcases hcc with e | e <;> subst e
  · refine va_copyi O.1 O.2.1 hsz O.2.2.2.1 (hts _ hw) (hts _ h1) (hts _ h2) (hts _ h3) O.2.2.2.2.2.1 hP.1 hD hS s d 0 0 (wl_byte hks) (wl_byte hkd) rfl rfl rfl b1 b2 b3 b4 b5 (fun i _ => hP.2 s hks _) (by omega) hl1 hd (fun H1 locs1 a1 a2 a3 => ?_)
    rw [wl_set Z σ (mcp σ s (ix sp) d (ix dp) (ix n)) (by rw [ent_byte hkd, mcp_rowI]) (fun j hj => ent_row (mcp_row hj))] at a1
    exact kk _ hf H1 locs1 ls (pw_mcp a1 (hks.trans hkd.symm) hP.2) a3 h
  · refine va_copyi O.1 O.2.1 hsz O.2.2.2.1 (hts _ hw) (hts _ h1) (hts _ h2) (hts _ h3) O.2.2.2.2.2.1 hP.1 hD hS s d 1 1 (wl_int hks) (wl_int hkd) rfl rfl rfl b1 b2 b3 b4 b5 (fun i _ => rfl) (by omega) hl1 hd (fun H1 locs1 a1 a2 a3 => ?_)
    rw [wl_set Z σ (mcp σ s (ix sp) d (ix dp) (ix n)) (by rw [ent_int hkd, mcp_rowI]) (fun j hj => ent_row (mcp_row hj))] at a1
    exact kk _ hf H1 locs1 ls (pw_mcp a1 (hks.trans hkd.symm) hP.2) a3 h
theorem g_rawbits {index : Nat} {b : UInt32} (O : Ok Z C own cc nL fr lo) (hd : decode cc pc = .ok (.invokestatic index, 3)) (hw : Cond.methodLink own index ⟨"java/lang/Float", "floatToRawIntBits", "(F)I"⟩ ∈ uW) (h1 : Cond.native ⟨"java/lang/Float", "floatToRawIntBits", "(F)I"⟩ ∈ uW) (h2 : Cond.static ⟨"java/lang/Float", "floatToRawIntBits", "(F)I"⟩ ∈ uW) (h3 : Cond.initialized "java/lang/Float" ∈ uW) (hr : 1 ≤ fr ∧ 23 ≤ lo) (hc : (st.map fun v => v.category).sum ≤ 8) (kk : G Z C σ (pc + 3) L (.int b.toInt32 :: st)) : G Z C σ pc L (.float b :: st) := fun H locs ls hP hS h => vn_f2i O.1 O.2.1 h.1.symm O.2.2.2.1 (O.2.2.2.2.1 _ hw) (O.2.2.2.2.1 _ h1) (O.2.2.2.2.1 _ h2) (O.2.2.2.2.1 _ h3) (by have := O.2.2.2.2.2.2.2.2.2.1; omega) (by have := O.2.2.2.2.2.2.2.2.2.2.1; omega) hd (kk H locs ls hP hS h)
end CALLS
/-- from a walk to a contract: one for every kind of answer -/
theorem ct_of {Z : ZT} (hZ : ZOk Z) {y : MethodName} {cc : ByteArray} {maxL fr lo : Nat} {ret : Option FieldType} {as : List Value} {σ σ' : Mem} {ro : Option Value} {φ : Prop} (hy : plainName y.cls = true) (ha : (lg_sl as).length ≤ maxL)
    (body : ∀ C, Ok Z C y.cls cc maxL fr lo → (c_h C).sig.returnType = ret → (c_h C).locks = false → (c_Q C = MQ (c_b C) (Qm ro φ (fun t => BW Z σ' t) (PA Z)) (c_a C) (c_s C) (c_k C) (c_n C) (PA Z)) → c_A C = PA Z → G Z C σ 0 (lv_args 0 as) []) : Ct Z y cc maxL ret fr lo as σ ro φ σ' := by
  refine Met.ofW (cc := cc) (maxL := maxL) (ret := ret) hy rfl ?_
  intro p e s m args below meth c s₁ B hml hv
  obtain ⟨rfl, hP, hK, hT, hNw⟩ := hv
  have hts := atoms_spec (ws := Cond.code y cc maxL ret :: uW) B.pre
  have hown : s.vm.findClass y.cls = some m.cls := findClass_of_methodNamed B.named
  have hl := lv_entry as (n := maxL) ha
  rw [lg_entry_eq]
  exact body (p, e, { frames := fr, cells := 0, slots := 0, locals := lo }, s, m, as.toArray, below, meth, c, 0, 0, MQ below (Qm ro φ (fun t => BW Z σ' t) (PA Z)) as.toArray s 0 0 (PA Z), PA Z)
    ⟨B.exec, B.bytes, hml, hown, fun w hw => hts w (List.mem_cons_of_mem _ hw), hK, hT, fun i hi => pa_in hi, hZ, Nat.le_refl _, Nat.le_refl _, Nat.le_refl _, Nat.le_refl _, hNw⟩ B.returns B.notSynchronized rfl rfl s.heap [] _ hP va_S.rf (by rw [show (c_c (p, e, ({ frames := fr, cells := 0, slots := 0, locals := lo } : Room), s, m, as.toArray, below, meth, c, 0, 0, MQ below (Qm ro φ (fun t => BW Z σ' t) (PA Z)) as.toArray s 0 0 (PA Z), PA Z)).maxLocals = maxL from hml]; exact hl)
section RETS
variable {Z : ZT} {C : CX} {own : String} {cc : ByteArray} {nL fr lo : Nat} {σ : Mem} {pc : Nat} {L : List (Nat × Value)} {φ : Prop}
theorem bw_end (O : Ok Z C own cc nL fr lo) {H : Heap} {locs : List Loc} (hP : PW Z σ H) (hS : va_S (c_A C) (c_s C).heap H locs) {t : State} (ht : t.heap = H) (hW : (c_s C).WarmedH t.vm) : BW Z σ t := ⟨by rw [ht]; exact hP, va_K.moved hW.alike O.2.2.2.2.2.1, by rw [ht]; exact st_part hW.alike O.2.2.2.2.2.2.1 hS O.2.2.2.2.2.2.2.1, NW.warm hW O.2.2.2.2.2.2.2.2.2.2.2.2.2⟩
theorem r_i {v : Int32} (O : Ok Z C own cc nL fr lo) (hr : (c_h C).sig.returnType = some .int) (hlk : (c_h C).locks = false) (hQ : c_Q C = MQ (c_b C) (Qm (some (.int v)) φ (fun t => BW Z σ t) (PA Z)) (c_a C) (c_s C) (c_k C) (c_n C) (PA Z)) (hA : c_A C = PA Z) (hφ : φ) (hd : decode cc pc = .ok (.ireturn, 1)) : G Z C σ pc L [.int v] := by
  intro H locs ls hP hS h
  rw [hQ]
  rw [hA] at hS
  exact W.iret O.1 O.2.1 hr (fun t ht hW => ⟨⟨rfl, hφ, bw_end O hP (by rw [hA]; exact hS) ht hW⟩, hS.F ht⟩) hS.2.2 hd hlk
theorem r_z {v : Int32} (O : Ok Z C own cc nL fr lo) (hr : (c_h C).sig.returnType = some .boolean) (hlk : (c_h C).locks = false) (hQ : c_Q C = MQ (c_b C) (Qm (some (.int v)) φ (fun t => BW Z σ t) (PA Z)) (c_a C) (c_s C) (c_k C) (c_n C) (PA Z)) (hA : c_A C = PA Z) (hφ : φ) (hv : v = 0 ∨ v = 1) (hd : decode cc pc = .ok (.ireturn, 1)) : G Z C σ pc L [.int v] := by
  intro H locs ls hP hS h
  rw [hQ]
  rw [hA] at hS
  exact W.zret O.1 O.2.1 hr (by rcases hv with e | e <;> subst e <;> rfl) (fun t ht hW => ⟨⟨rfl, hφ, bw_end O hP (by rw [hA]; exact hS) ht hW⟩, hS.F ht⟩) hS.2.2 hd hlk
theorem r_f {v : UInt32} (O : Ok Z C own cc nL fr lo) (hr : (c_h C).sig.returnType = some .float) (hlk : (c_h C).locks = false) (hQ : c_Q C = MQ (c_b C) (Qm (some (.float v)) φ (fun t => BW Z σ t) (PA Z)) (c_a C) (c_s C) (c_k C) (c_n C) (PA Z)) (hA : c_A C = PA Z) (hφ : φ) (hd : decode cc pc = .ok (.freturn, 1)) : G Z C σ pc L [.float v] := by
  intro H locs ls hP hS h
  rw [hQ]
  rw [hA] at hS
  exact W.fret O.1 O.2.1 hr (fun t ht hW => ⟨⟨rfl, hφ, bw_end O hP (by rw [hA]; exact hS) ht hW⟩, hS.F ht⟩) hS.2.2 hd hlk
theorem r_v (O : Ok Z C own cc nL fr lo) (hr : (c_h C).sig.returnType = none) (hlk : (c_h C).locks = false) (hQ : c_Q C = MQ (c_b C) (Qm none φ (fun t => BW Z σ t) (PA Z)) (c_a C) (c_s C) (c_k C) (c_n C) (PA Z)) (hA : c_A C = PA Z) (hφ : φ) (hd : decode cc pc = .ok (.return_, 1)) : G Z C σ pc L [] := by
  intro H locs ls hP hS h
  rw [hQ]
  rw [hA] at hS
  exact W.vret O.1 O.2.1 hr (fun t ht hW => ⟨⟨rfl, hφ, bw_end O hP (by rw [hA]; exact hS) ht hW⟩, hS.F ht⟩) hS.2.2 hd hlk
theorem r_a {v : Value} {n : String} (O : Ok Z C own cc nL fr lo) (hr : (c_h C).sig.returnType = some (.object n)) (hlk : (c_h C).locks = false) (hQ : c_Q C = MQ (c_b C) (Qm (some v) φ (fun t => BW Z σ t) (PA Z)) (c_a C) (c_s C) (c_k C) (c_n C) (PA Z)) (hA : c_A C = PA Z) (hφ : φ) (hv : v = .null ∨ ∃ a, v = .ref a) (hd : decode cc pc = .ok (.areturn, 1)) : G Z C σ pc L [v] := by
  intro H locs ls hP hS h
  rw [hQ]
  rw [hA] at hS
  exact W.aret O.1 O.2.1 hr (Or.inl ⟨n, rfl⟩) hv (fun t ht hW => ⟨⟨rfl, hφ, bw_end O hP (by rw [hA]; exact hS) ht hW⟩, hS.F ht⟩) hS.2.2 hd hlk
end RETS
section CTS
variable {Z : ZT} {y : MethodName} {cc : ByteArray} {maxL fr lo : Nat} {as : List Value} {σ σ' : Mem}
/-- a reference that may be null -/
def rv (Z : ZT) (r : Option Nat) : Value := match r with
  | none => .null
  | some i => .ref (za Z i)
-- pure answers: int, boolean, float, reference; then the same with a new memory; void
theorem ct_i (hZ : ZOk Z) (hy : plainName y.cls = true) (ha : (lg_sl as).length ≤ maxL) {f : Option Int32} {r : Int32} (hf : f = some r) (body : ∀ C (K : Option Int32 → Prop), Ok Z C y.cls cc maxL fr lo → ¬ K none → (∀ v, K (some v) → ∀ pc L, decode cc pc = .ok (.ireturn, 1) → G Z C σ pc L [.int v]) → K f → G Z C σ 0 (lv_args 0 as) []) : Ct Z y cc maxL (some .int) fr lo as σ (some (.int r)) True σ :=
  ct_of hZ hy ha (fun C O hr hlk hQ hA => body C (fun o => o = some r) O (fun h => by cases h) (fun v hv pc L hd => by cases hv; exact r_i O hr hlk hQ hA trivial hd) hf)
theorem ct_z (hZ : ZOk Z) (hy : plainName y.cls = true) (ha : (lg_sl as).length ≤ maxL) {f : Option Int32} {r : Int32} (hf : f = some r) (body : ∀ C (K : Option Int32 → Prop), Ok Z C y.cls cc maxL fr lo → ¬ K none → (∀ v, K (some v) → (v = 0 ∨ v = 1) → ∀ pc L, decode cc pc = .ok (.ireturn, 1) → G Z C σ pc L [.int v]) → K f → G Z C σ 0 (lv_args 0 as) []) : Ct Z y cc maxL (some .boolean) fr lo as σ (some (.int r)) (r = 0 ∨ r = 1) σ :=
  ct_of hZ hy ha (fun C O hr hlk hQ hA => body C (fun o => o = some r) O (fun h => by cases h) (fun v hv h01 pc L hd => by cases hv; exact r_z O hr hlk hQ hA h01 h01 hd) hf)
theorem ct_f (hZ : ZOk Z) (hy : plainName y.cls = true) (ha : (lg_sl as).length ≤ maxL) {f : Option UInt32} {r : UInt32} (hf : f = some r) (body : ∀ C (K : Option UInt32 → Prop), Ok Z C y.cls cc maxL fr lo → ¬ K none → (∀ v, K (some v) → ∀ pc L, decode cc pc = .ok (.freturn, 1) → G Z C σ pc L [.float v]) → K f → G Z C σ 0 (lv_args 0 as) []) : Ct Z y cc maxL (some .float) fr lo as σ (some (.float r)) True σ :=
  ct_of hZ hy ha (fun C O hr hlk hQ hA => body C (fun o => o = some r) O (fun h => by cases h) (fun v hv pc L hd => by cases hv; exact r_f O hr hlk hQ hA trivial hd) hf)
theorem ct_a (c : Nat) {n : String} (hZ : ZOk Z) (hy : plainName y.cls = true) (ha : (lg_sl as).length ≤ maxL) {f : Option (Option Nat)} {r : Option Nat} (hf : f = some r) (body : ∀ C (K : Option (Option Nat) → Prop), Ok Z C y.cls cc maxL fr lo → ¬ K none → (K (some none) → ∀ pc L, decode cc pc = .ok (.areturn, 1) → G Z C σ pc L [.null]) → (∀ i, K (some (some i)) → kn i = c → ∀ pc L, decode cc pc = .ok (.areturn, 1) → G Z C σ pc L [.ref (za Z i)]) → K f → G Z C σ 0 (lv_args 0 as) []) : Ct Z y cc maxL (some (.object n)) fr lo as σ (some (rv Z r)) (∀ i, r = some i → kn i = c) σ :=
  ct_of hZ hy ha (fun C O hr hlk hQ hA => body C (fun o => o = some r) O (fun h => by cases h) (fun hv pc L hd => by cases hv; exact r_a O hr hlk hQ hA (fun i h => by cases h) (Or.inl rfl) hd) (fun i hv hk pc L hd => by cases hv; exact r_a O hr hlk hQ hA (fun j h => by cases h; exact hk) (Or.inr ⟨_, rfl⟩) hd) hf)
theorem ct_im (hZ : ZOk Z) (hy : plainName y.cls = true) (ha : (lg_sl as).length ≤ maxL) {f : Option (Int32 × Mem)} {r : Int32 × Mem} (hf : f = some r) (body : ∀ C (K : Option (Int32 × Mem) → Prop), Ok Z C y.cls cc maxL fr lo → ¬ K none → (∀ v σ1, K (some (v, σ1)) → ∀ pc L, decode cc pc = .ok (.ireturn, 1) → G Z C σ1 pc L [.int v]) → K f → G Z C σ 0 (lv_args 0 as) []) : Ct Z y cc maxL (some .int) fr lo as σ (some (.int r.1)) True r.2 :=
  ct_of hZ hy ha (fun C O hr hlk hQ hA => body C (fun o => o = some r) O (fun h => by cases h) (fun v σ1 hv pc L hd => by cases hv; exact r_i O hr hlk hQ hA trivial hd) hf)
theorem ct_zm (hZ : ZOk Z) (hy : plainName y.cls = true) (ha : (lg_sl as).length ≤ maxL) {f : Option (Int32 × Mem)} {r : Int32 × Mem} (hf : f = some r) (body : ∀ C (K : Option (Int32 × Mem) → Prop), Ok Z C y.cls cc maxL fr lo → ¬ K none → (∀ v σ1, K (some (v, σ1)) → (v = 0 ∨ v = 1) → ∀ pc L, decode cc pc = .ok (.ireturn, 1) → G Z C σ1 pc L [.int v]) → K f → G Z C σ 0 (lv_args 0 as) []) : Ct Z y cc maxL (some .boolean) fr lo as σ (some (.int r.1)) (r.1 = 0 ∨ r.1 = 1) r.2 :=
  ct_of hZ hy ha (fun C O hr hlk hQ hA => body C (fun o => o = some r) O (fun h => by cases h) (fun v σ1 hv h01 pc L hd => by cases hv; exact r_z O hr hlk hQ hA h01 h01 hd) hf)
theorem ct_v (hZ : ZOk Z) (hy : plainName y.cls = true) (ha : (lg_sl as).length ≤ maxL) {f : Option Mem} {r : Mem} (hf : f = some r) (body : ∀ C (K : Option Mem → Prop), Ok Z C y.cls cc maxL fr lo → ¬ K none → (∀ σ1, K (some σ1) → ∀ pc L, decode cc pc = .ok (.return_, 1) → G Z C σ1 pc L []) → K f → G Z C σ 0 (lv_args 0 as) []) : Ct Z y cc maxL none fr lo as σ none True r :=
  ct_of hZ hy ha (fun C O hr hlk hQ hA => body C (fun o => o = some r) O (fun h => by cases h) (fun σ1 hv pc L hd => by cases hv; exact r_v O hr hlk hQ hA trivial hd) hf)
end CTS
end

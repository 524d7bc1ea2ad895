-- ===== PART A: goes FIRST, ahead of the names: the tables' words, and 'selects' of the private methods out of them =====
/-- a private method of a class that the tables say can be made, by its rows of tables_1 -/
def lw_okq (q : MethodName × Nat) : Prop := (q.1.cls ≠ "java/lang/invoke/MethodHandle" ∧ q.1.cls ≠ "java/lang/invoke/VarHandle") ∧ Cond.instantiable q.1.cls q.2 ∈ tables_1 ∧ Cond.privateMethod q.1 ∈ tables_1 ∧ Cond.instanceMethod q.1 ∈ tables_1
theorem lw_p0 : lw_okq (⟨"PhraseMoods$FrameReader", "skipBlanks", "(LPhraseMoods$Letters;)V"⟩, 2) := ⟨⟨by decide +kernel, by decide +kernel⟩, List.mem_of_getElem? (i := 190) (by decide +kernel), List.mem_of_getElem? (i := 434) (by decide +kernel), List.mem_of_getElem? (i := 435) (by decide +kernel)⟩
theorem lw_p1 : lw_okq (⟨"PhraseMoods$FrameReader", "readHole", "(LPhraseMoods$Book;LPhraseMoods$Letters;)Z"⟩, 2) := ⟨⟨by decide +kernel, by decide +kernel⟩, List.mem_of_getElem? (i := 190) (by decide +kernel), List.mem_of_getElem? (i := 439) (by decide +kernel), List.mem_of_getElem? (i := 440) (by decide +kernel)⟩
theorem lw_p2 : lw_okq (⟨"PhraseMoods$FrameReader", "readPlain", "(LPhraseMoods$Book;LPhraseMoods$Letters;)Z"⟩, 2) := ⟨⟨by decide +kernel, by decide +kernel⟩, List.mem_of_getElem? (i := 190) (by decide +kernel), List.mem_of_getElem? (i := 446) (by decide +kernel), List.mem_of_getElem? (i := 447) (by decide +kernel)⟩
theorem lw_p3 : lw_okq (⟨"PhraseMoods$FrameReader", "readGrouped", "(ILPhraseMoods$Letters;)Z"⟩, 2) := ⟨⟨by decide +kernel, by decide +kernel⟩, List.mem_of_getElem? (i := 190) (by decide +kernel), List.mem_of_getElem? (i := 463) (by decide +kernel), List.mem_of_getElem? (i := 464) (by decide +kernel)⟩
theorem lw_p4 : lw_okq (⟨"PhraseMoods", "sayDesk", "()Z"⟩, 11) := ⟨⟨by decide +kernel, by decide +kernel⟩, List.mem_of_getElem? (i := 20) (by decide +kernel), List.mem_of_getElem? (i := 597) (by decide +kernel), List.mem_of_getElem? (i := 598) (by decide +kernel)⟩
theorem lw_p5 : lw_okq (⟨"PhraseMoods$Speaker", "addSpelled", "()V"⟩, 4) := ⟨⟨by decide +kernel, by decide +kernel⟩, List.mem_of_getElem? (i := 206) (by decide +kernel), List.mem_of_getElem? (i := 617) (by decide +kernel), List.mem_of_getElem? (i := 618) (by decide +kernel)⟩
theorem lw_p6 : lw_okq (⟨"PhraseMoods$Reader", "split", "(LPhraseMoods$Letters;)V"⟩, 10) := ⟨⟨by decide +kernel, by decide +kernel⟩, List.mem_of_getElem? (i := 245) (by decide +kernel), List.mem_of_getElem? (i := 661) (by decide +kernel), List.mem_of_getElem? (i := 662) (by decide +kernel)⟩
theorem lw_p7 : lw_okq (⟨"PhraseMoods$Reader", "waysOfFrame", "(LPhraseMoods$Book;LPhraseMoods$Letters;LPhraseMoods$Frame;I)I"⟩, 10) := ⟨⟨by decide +kernel, by decide +kernel⟩, List.mem_of_getElem? (i := 245) (by decide +kernel), List.mem_of_getElem? (i := 667) (by decide +kernel), List.mem_of_getElem? (i := 668) (by decide +kernel)⟩
theorem lw_p8 : lw_okq (⟨"PhraseMoods$Reader", "waysOfHole", "(LPhraseMoods$Book;LPhraseMoods$Letters;LPhraseMoods$Frame;II)I"⟩, 10) := ⟨⟨by decide +kernel, by decide +kernel⟩, List.mem_of_getElem? (i := 245) (by decide +kernel), List.mem_of_getElem? (i := 672) (by decide +kernel), List.mem_of_getElem? (i := 673) (by decide +kernel)⟩
theorem lw_p9 : lw_okq (⟨"PhraseMoods$Reader", "isSpelledAt", "(LPhraseMoods$Letters;I)Z"⟩, 10) := ⟨⟨by decide +kernel, by decide +kernel⟩, List.mem_of_getElem? (i := 245) (by decide +kernel), List.mem_of_getElem? (i := 685) (by decide +kernel), List.mem_of_getElem? (i := 686) (by decide +kernel)⟩
theorem lw_p10 : lw_okq (⟨"PhraseMoods$Reader", "lengthOf", "(I)I"⟩, 10) := ⟨⟨by decide +kernel, by decide +kernel⟩, List.mem_of_getElem? (i := 245) (by decide +kernel), List.mem_of_getElem? (i := 689) (by decide +kernel), List.mem_of_getElem? (i := 690) (by decide +kernel)⟩
theorem lw_p11 : lw_okq (⟨"PhraseMoods$Reader", "startOf", "(I)I"⟩, 10) := ⟨⟨by decide +kernel, by decide +kernel⟩, List.mem_of_getElem? (i := 245) (by decide +kernel), List.mem_of_getElem? (i := 694) (by decide +kernel), List.mem_of_getElem? (i := 695) (by decide +kernel)⟩
theorem lw_p12 : lw_okq (⟨"PhraseMoods$Reader", "waysOfGroup", "(LPhraseMoods$Book;LPhraseMoods$Letters;LPhraseMoods$Frame;II)I"⟩, 10) := ⟨⟨by decide +kernel, by decide +kernel⟩, List.mem_of_getElem? (i := 245) (by decide +kernel), List.mem_of_getElem? (i := 699) (by decide +kernel), List.mem_of_getElem? (i := 700) (by decide +kernel)⟩
theorem lw_p13 : lw_okq (⟨"PhraseMoods$Reader", "farnessOfFrame", "(LPhraseMoods$Book;LPhraseMoods$Letters;LPhraseMoods$Frame;I)I"⟩, 10) := ⟨⟨by decide +kernel, by decide +kernel⟩, List.mem_of_getElem? (i := 245) (by decide +kernel), List.mem_of_getElem? (i := 712) (by decide +kernel), List.mem_of_getElem? (i := 713) (by decide +kernel)⟩
theorem lw_p14 : lw_okq (⟨"PhraseMoods$Reader", "farnessOfHole", "(LPhraseMoods$Book;LPhraseMoods$Letters;LPhraseMoods$Frame;II)I"⟩, 10) := ⟨⟨by decide +kernel, by decide +kernel⟩, List.mem_of_getElem? (i := 245) (by decide +kernel), List.mem_of_getElem? (i := 716) (by decide +kernel), List.mem_of_getElem? (i := 717) (by decide +kernel)⟩
theorem lw_p15 : lw_okq (⟨"PhraseMoods$Reader", "apartFrom", "(LPhraseMoods$Letters;I)I"⟩, 10) := ⟨⟨by decide +kernel, by decide +kernel⟩, List.mem_of_getElem? (i := 245) (by decide +kernel), List.mem_of_getElem? (i := 720) (by decide +kernel), List.mem_of_getElem? (i := 721) (by decide +kernel)⟩
def lw_privs_1 : List (MethodName × Nat) := [(⟨"PhraseMoods$FrameReader", "skipBlanks", "(LPhraseMoods$Letters;)V"⟩, 2), (⟨"PhraseMoods$FrameReader", "readHole", "(LPhraseMoods$Book;LPhraseMoods$Letters;)Z"⟩, 2), (⟨"PhraseMoods$FrameReader", "readPlain", "(LPhraseMoods$Book;LPhraseMoods$Letters;)Z"⟩, 2), (⟨"PhraseMoods$FrameReader", "readGrouped", "(ILPhraseMoods$Letters;)Z"⟩, 2), (⟨"PhraseMoods", "sayDesk", "()Z"⟩, 11), (⟨"PhraseMoods$Speaker", "addSpelled", "()V"⟩, 4), (⟨"PhraseMoods$Reader", "split", "(LPhraseMoods$Letters;)V"⟩, 10), (⟨"PhraseMoods$Reader", "waysOfFrame", "(LPhraseMoods$Book;LPhraseMoods$Letters;LPhraseMoods$Frame;I)I"⟩, 10), (⟨"PhraseMoods$Reader", "waysOfHole", "(LPhraseMoods$Book;LPhraseMoods$Letters;LPhraseMoods$Frame;II)I"⟩, 10), (⟨"PhraseMoods$Reader", "isSpelledAt", "(LPhraseMoods$Letters;I)Z"⟩, 10), (⟨"PhraseMoods$Reader", "lengthOf", "(I)I"⟩, 10), (⟨"PhraseMoods$Reader", "startOf", "(I)I"⟩, 10), (⟨"PhraseMoods$Reader", "waysOfGroup", "(LPhraseMoods$Book;LPhraseMoods$Letters;LPhraseMoods$Frame;II)I"⟩, 10), (⟨"PhraseMoods$Reader", "farnessOfFrame", "(LPhraseMoods$Book;LPhraseMoods$Letters;LPhraseMoods$Frame;I)I"⟩, 10), (⟨"PhraseMoods$Reader", "farnessOfHole", "(LPhraseMoods$Book;LPhraseMoods$Letters;LPhraseMoods$Frame;II)I"⟩, 10), (⟨"PhraseMoods$Reader", "apartFrom", "(LPhraseMoods$Letters;I)I"⟩, 10)]
theorem lw_r1 : ∀ q ∈ lw_privs_1, lw_okq q := List.forall_mem_cons.mpr ⟨lw_p0, List.forall_mem_cons.mpr ⟨lw_p1, List.forall_mem_cons.mpr ⟨lw_p2, List.forall_mem_cons.mpr ⟨lw_p3, List.forall_mem_cons.mpr ⟨lw_p4, List.forall_mem_cons.mpr ⟨lw_p5, List.forall_mem_cons.mpr ⟨lw_p6, List.forall_mem_cons.mpr ⟨lw_p7, List.forall_mem_cons.mpr ⟨lw_p8, List.forall_mem_cons.mpr ⟨lw_p9, List.forall_mem_cons.mpr ⟨lw_p10, List.forall_mem_cons.mpr ⟨lw_p11, List.forall_mem_cons.mpr ⟨lw_p12, List.forall_mem_cons.mpr ⟨lw_p13, List.forall_mem_cons.mpr ⟨lw_p14, List.forall_mem_cons.mpr ⟨lw_p15, fun _ h => absurd h List.not_mem_nil⟩⟩⟩⟩⟩⟩⟩⟩⟩⟩⟩⟩⟩⟩⟩⟩
theorem lw_p16 : lw_okq (⟨"PhraseMoods$Reader", "farnessOfGroup", "(LPhraseMoods$Book;LPhraseMoods$Letters;LPhraseMoods$Frame;II)I"⟩, 10) := ⟨⟨by decide +kernel, by decide +kernel⟩, List.mem_of_getElem? (i := 245) (by decide +kernel), List.mem_of_getElem? (i := 725) (by decide +kernel), List.mem_of_getElem? (i := 726) (by decide +kernel)⟩
theorem lw_p17 : lw_okq (⟨"PhraseMoods", "sayDrawn", "(I)Z"⟩, 11) := ⟨⟨by decide +kernel, by decide +kernel⟩, List.mem_of_getElem? (i := 20) (by decide +kernel), List.mem_of_getElem? (i := 733) (by decide +kernel), List.mem_of_getElem? (i := 734) (by decide +kernel)⟩
theorem lw_p18 : lw_okq (⟨"PhraseMoods$Drawer", "next", "(I)I"⟩, 2) := ⟨⟨by decide +kernel, by decide +kernel⟩, List.mem_of_getElem? (i := 229) (by decide +kernel), List.mem_of_getElem? (i := 741) (by decide +kernel), List.mem_of_getElem? (i := 742) (by decide +kernel)⟩
theorem lw_p19 : lw_okq (⟨"PhraseMoods", "trayAt", "(I)LPhraseMoods$Tray;"⟩, 11) := ⟨⟨by decide +kernel, by decide +kernel⟩, List.mem_of_getElem? (i := 20) (by decide +kernel), List.mem_of_getElem? (i := 763) (by decide +kernel), List.mem_of_getElem? (i := 764) (by decide +kernel)⟩
theorem lw_p20 : lw_okq (⟨"PhraseMoods", "sheetAt", "(I)LPhraseMoods$Sheet;"⟩, 11) := ⟨⟨by decide +kernel, by decide +kernel⟩, List.mem_of_getElem? (i := 20) (by decide +kernel), List.mem_of_getElem? (i := 810) (by decide +kernel), List.mem_of_getElem? (i := 811) (by decide +kernel)⟩
theorem lw_p21 : lw_okq (⟨"PhraseMoods", "firstOtherwise", "(LPhraseMoods$Sheet;)I"⟩, 11) := ⟨⟨by decide +kernel, by decide +kernel⟩, List.mem_of_getElem? (i := 20) (by decide +kernel), List.mem_of_getElem? (i := 818) (by decide +kernel), List.mem_of_getElem? (i := 819) (by decide +kernel)⟩
theorem lw_p22 : lw_okq (⟨"PhraseMoods", "moodsTold", "(LPhraseMoods$Sheet;)I"⟩, 11) := ⟨⟨by decide +kernel, by decide +kernel⟩, List.mem_of_getElem? (i := 20) (by decide +kernel), List.mem_of_getElem? (i := 836) (by decide +kernel), List.mem_of_getElem? (i := 837) (by decide +kernel)⟩
theorem lw_p23 : lw_okq (⟨"PhraseMoods", "numbersTold", "(LPhraseMoods$Sheet;)I"⟩, 11) := ⟨⟨by decide +kernel, by decide +kernel⟩, List.mem_of_getElem? (i := 20) (by decide +kernel), List.mem_of_getElem? (i := 840) (by decide +kernel), List.mem_of_getElem? (i := 841) (by decide +kernel)⟩
theorem lw_p24 : lw_okq (⟨"PhraseMoodsModel", "letters", "(II)I"⟩, 28) := ⟨⟨by decide +kernel, by decide +kernel⟩, List.mem_of_getElem? (i := 897) (by decide +kernel), List.mem_of_getElem? (i := 999) (by decide +kernel), List.mem_of_getElem? (i := 1000) (by decide +kernel)⟩
theorem lw_p25 : lw_okq (⟨"PhraseMoodsModel", "isWord", "(I)Z"⟩, 28) := ⟨⟨by decide +kernel, by decide +kernel⟩, List.mem_of_getElem? (i := 897) (by decide +kernel), List.mem_of_getElem? (i := 1014) (by decide +kernel), List.mem_of_getElem? (i := 1015) (by decide +kernel)⟩
theorem lw_p26 : lw_okq (⟨"PhraseMoodsModel", "kind", "(I)I"⟩, 28) := ⟨⟨by decide +kernel, by decide +kernel⟩, List.mem_of_getElem? (i := 897) (by decide +kernel), List.mem_of_getElem? (i := 1022) (by decide +kernel), List.mem_of_getElem? (i := 1023) (by decide +kernel)⟩
theorem lw_p27 : lw_okq (⟨"PhraseMoodsModel", "gender", "(I)I"⟩, 28) := ⟨⟨by decide +kernel, by decide +kernel⟩, List.mem_of_getElem? (i := 897) (by decide +kernel), List.mem_of_getElem? (i := 1032) (by decide +kernel), List.mem_of_getElem? (i := 1033) (by decide +kernel)⟩
theorem lw_p28 : lw_okq (⟨"PhraseMoodsModel", "forms", "(IIIII)V"⟩, 28) := ⟨⟨by decide +kernel, by decide +kernel⟩, List.mem_of_getElem? (i := 897) (by decide +kernel), List.mem_of_getElem? (i := 1036) (by decide +kernel), List.mem_of_getElem? (i := 1037) (by decide +kernel)⟩
theorem lw_p29 : lw_okq (⟨"PhraseMoodsModel", "joins", "(IZ)V"⟩, 28) := ⟨⟨by decide +kernel, by decide +kernel⟩, List.mem_of_getElem? (i := 897) (by decide +kernel), List.mem_of_getElem? (i := 1040) (by decide +kernel), List.mem_of_getElem? (i := 1041) (by decide +kernel)⟩
theorem lw_p30 : lw_okq (⟨"PhraseMoodsModel", "ends", "(I)V"⟩, 28) := ⟨⟨by decide +kernel, by decide +kernel⟩, List.mem_of_getElem? (i := 897) (by decide +kernel), List.mem_of_getElem? (i := 1047) (by decide +kernel), List.mem_of_getElem? (i := 1048) (by decide +kernel)⟩
theorem lw_p31 : lw_okq (⟨"PhraseMoodsModel", "readsFrame", "(I)V"⟩, 28) := ⟨⟨by decide +kernel, by decide +kernel⟩, List.mem_of_getElem? (i := 897) (by decide +kernel), List.mem_of_getElem? (i := 1060) (by decide +kernel), List.mem_of_getElem? (i := 1061) (by decide +kernel)⟩
def lw_privs_2 : List (MethodName × Nat) := [(⟨"PhraseMoods$Reader", "farnessOfGroup", "(LPhraseMoods$Book;LPhraseMoods$Letters;LPhraseMoods$Frame;II)I"⟩, 10), (⟨"PhraseMoods", "sayDrawn", "(I)Z"⟩, 11), (⟨"PhraseMoods$Drawer", "next", "(I)I"⟩, 2), (⟨"PhraseMoods", "trayAt", "(I)LPhraseMoods$Tray;"⟩, 11), (⟨"PhraseMoods", "sheetAt", "(I)LPhraseMoods$Sheet;"⟩, 11), (⟨"PhraseMoods", "firstOtherwise", "(LPhraseMoods$Sheet;)I"⟩, 11), (⟨"PhraseMoods", "moodsTold", "(LPhraseMoods$Sheet;)I"⟩, 11), (⟨"PhraseMoods", "numbersTold", "(LPhraseMoods$Sheet;)I"⟩, 11), (⟨"PhraseMoodsModel", "letters", "(II)I"⟩, 28), (⟨"PhraseMoodsModel", "isWord", "(I)Z"⟩, 28), (⟨"PhraseMoodsModel", "kind", "(I)I"⟩, 28), (⟨"PhraseMoodsModel", "gender", "(I)I"⟩, 28), (⟨"PhraseMoodsModel", "forms", "(IIIII)V"⟩, 28), (⟨"PhraseMoodsModel", "joins", "(IZ)V"⟩, 28), (⟨"PhraseMoodsModel", "ends", "(I)V"⟩, 28), (⟨"PhraseMoodsModel", "readsFrame", "(I)V"⟩, 28)]
theorem lw_r2 : ∀ q ∈ lw_privs_2, lw_okq q := List.forall_mem_cons.mpr ⟨lw_p16, List.forall_mem_cons.mpr ⟨lw_p17, List.forall_mem_cons.mpr ⟨lw_p18, List.forall_mem_cons.mpr ⟨lw_p19, List.forall_mem_cons.mpr ⟨lw_p20, List.forall_mem_cons.mpr ⟨lw_p21, List.forall_mem_cons.mpr ⟨lw_p22, List.forall_mem_cons.mpr ⟨lw_p23, List.forall_mem_cons.mpr ⟨lw_p24, List.forall_mem_cons.mpr ⟨lw_p25, List.forall_mem_cons.mpr ⟨lw_p26, List.forall_mem_cons.mpr ⟨lw_p27, List.forall_mem_cons.mpr ⟨lw_p28, List.forall_mem_cons.mpr ⟨lw_p29, List.forall_mem_cons.mpr ⟨lw_p30, List.forall_mem_cons.mpr ⟨lw_p31, fun _ h => absurd h List.not_mem_nil⟩⟩⟩⟩⟩⟩⟩⟩⟩⟩⟩⟩⟩⟩⟩⟩
theorem lw_p32 : lw_okq (⟨"PhraseMoodsModel", "here", "(I)I"⟩, 28) := ⟨⟨by decide +kernel, by decide +kernel⟩, List.mem_of_getElem? (i := 897) (by decide +kernel), List.mem_of_getElem? (i := 1064) (by decide +kernel), List.mem_of_getElem? (i := 1065) (by decide +kernel)⟩
theorem lw_p33 : lw_okq (⟨"PhraseMoodsModel", "reads", "(III)V"⟩, 28) := ⟨⟨by decide +kernel, by decide +kernel⟩, List.mem_of_getElem? (i := 897) (by decide +kernel), List.mem_of_getElem? (i := 1071) (by decide +kernel), List.mem_of_getElem? (i := 1072) (by decide +kernel)⟩
theorem lw_p34 : lw_okq (⟨"PhraseMoodsModel", "isDigit", "(II)Z"⟩, 28) := ⟨⟨by decide +kernel, by decide +kernel⟩, List.mem_of_getElem? (i := 897) (by decide +kernel), List.mem_of_getElem? (i := 1075) (by decide +kernel), List.mem_of_getElem? (i := 1076) (by decide +kernel)⟩
theorem lw_p35 : lw_okq (⟨"PhraseMoodsModel", "readsWord", "(I)V"⟩, 28) := ⟨⟨by decide +kernel, by decide +kernel⟩, List.mem_of_getElem? (i := 897) (by decide +kernel), List.mem_of_getElem? (i := 1079) (by decide +kernel), List.mem_of_getElem? (i := 1080) (by decide +kernel)⟩
theorem lw_p36 : lw_okq (⟨"PhraseMoodsModel", "isFrame", "(I)Z"⟩, 28) := ⟨⟨by decide +kernel, by decide +kernel⟩, List.mem_of_getElem? (i := 897) (by decide +kernel), List.mem_of_getElem? (i := 1087) (by decide +kernel), List.mem_of_getElem? (i := 1088) (by decide +kernel)⟩
theorem lw_p37 : lw_okq (⟨"PhraseMoodsModel", "holes", "(I)I"⟩, 28) := ⟨⟨by decide +kernel, by decide +kernel⟩, List.mem_of_getElem? (i := 897) (by decide +kernel), List.mem_of_getElem? (i := 1091) (by decide +kernel), List.mem_of_getElem? (i := 1092) (by decide +kernel)⟩
theorem lw_p38 : lw_okq (⟨"PhraseMoodsModel", "able", "(II)I"⟩, 28) := ⟨⟨by decide +kernel, by decide +kernel⟩, List.mem_of_getElem? (i := 897) (by decide +kernel), List.mem_of_getElem? (i := 1095) (by decide +kernel), List.mem_of_getElem? (i := 1096) (by decide +kernel)⟩
theorem lw_p39 : lw_okq (⟨"PhraseMoodsModel", "canBe", "(III)Z"⟩, 28) := ⟨⟨by decide +kernel, by decide +kernel⟩, List.mem_of_getElem? (i := 897) (by decide +kernel), List.mem_of_getElem? (i := 1099) (by decide +kernel), List.mem_of_getElem? (i := 1100) (by decide +kernel)⟩
theorem lw_p40 : lw_okq (⟨"PhraseMoodsModel", "ofHole", "(III)I"⟩, 28) := ⟨⟨by decide +kernel, by decide +kernel⟩, List.mem_of_getElem? (i := 897) (by decide +kernel), List.mem_of_getElem? (i := 1103) (by decide +kernel), List.mem_of_getElem? (i := 1104) (by decide +kernel)⟩
theorem lw_p41 : lw_okq (⟨"PhraseMoodsModel", "ableAt", "(III)I"⟩, 28) := ⟨⟨by decide +kernel, by decide +kernel⟩, List.mem_of_getElem? (i := 897) (by decide +kernel), List.mem_of_getElem? (i := 1111) (by decide +kernel), List.mem_of_getElem? (i := 1112) (by decide +kernel)⟩
theorem lw_p42 : lw_okq (⟨"PhraseMoodsModel", "saysDesk", "()V"⟩, 28) := ⟨⟨by decide +kernel, by decide +kernel⟩, List.mem_of_getElem? (i := 897) (by decide +kernel), List.mem_of_getElem? (i := 1127) (by decide +kernel), List.mem_of_getElem? (i := 1128) (by decide +kernel)⟩
theorem lw_p43 : lw_okq (⟨"PhraseMoodsModel", "numbers", "()I"⟩, 28) := ⟨⟨by decide +kernel, by decide +kernel⟩, List.mem_of_getElem? (i := 897) (by decide +kernel), List.mem_of_getElem? (i := 1131) (by decide +kernel), List.mem_of_getElem? (i := 1132) (by decide +kernel)⟩
theorem lw_p44 : lw_okq (⟨"PhraseMoodsModel", "saysDesk", "(II)V"⟩, 28) := ⟨⟨by decide +kernel, by decide +kernel⟩, List.mem_of_getElem? (i := 897) (by decide +kernel), List.mem_of_getElem? (i := 1135) (by decide +kernel), List.mem_of_getElem? (i := 1136) (by decide +kernel)⟩
theorem lw_p45 : lw_okq (⟨"PhraseMoodsModel", "says", "(II[III)V"⟩, 28) := ⟨⟨by decide +kernel, by decide +kernel⟩, List.mem_of_getElem? (i := 897) (by decide +kernel), List.mem_of_getElem? (i := 1139) (by decide +kernel), List.mem_of_getElem? (i := 1140) (by decide +kernel)⟩
theorem lw_p46 : lw_okq (⟨"PhraseMoodsModel", "isFilled", "(II[I)Z"⟩, 28) := ⟨⟨by decide +kernel, by decide +kernel⟩, List.mem_of_getElem? (i := 897) (by decide +kernel), List.mem_of_getElem? (i := 1143) (by decide +kernel), List.mem_of_getElem? (i := 1144) (by decide +kernel)⟩
theorem lw_p47 : lw_okq (⟨"PhraseMoodsModel", "formsAt", "(III[III)V"⟩, 28) := ⟨⟨by decide +kernel, by decide +kernel⟩, List.mem_of_getElem? (i := 897) (by decide +kernel), List.mem_of_getElem? (i := 1147) (by decide +kernel), List.mem_of_getElem? (i := 1148) (by decide +kernel)⟩
def lw_privs_3 : List (MethodName × Nat) := [(⟨"PhraseMoodsModel", "here", "(I)I"⟩, 28), (⟨"PhraseMoodsModel", "reads", "(III)V"⟩, 28), (⟨"PhraseMoodsModel", "isDigit", "(II)Z"⟩, 28), (⟨"PhraseMoodsModel", "readsWord", "(I)V"⟩, 28), (⟨"PhraseMoodsModel", "isFrame", "(I)Z"⟩, 28), (⟨"PhraseMoodsModel", "holes", "(I)I"⟩, 28), (⟨"PhraseMoodsModel", "able", "(II)I"⟩, 28), (⟨"PhraseMoodsModel", "canBe", "(III)Z"⟩, 28), (⟨"PhraseMoodsModel", "ofHole", "(III)I"⟩, 28), (⟨"PhraseMoodsModel", "ableAt", "(III)I"⟩, 28), (⟨"PhraseMoodsModel", "saysDesk", "()V"⟩, 28), (⟨"PhraseMoodsModel", "numbers", "()I"⟩, 28), (⟨"PhraseMoodsModel", "saysDesk", "(II)V"⟩, 28), (⟨"PhraseMoodsModel", "says", "(II[III)V"⟩, 28), (⟨"PhraseMoodsModel", "isFilled", "(II[I)Z"⟩, 28), (⟨"PhraseMoodsModel", "formsAt", "(III[III)V"⟩, 28)]
theorem lw_r3 : ∀ q ∈ lw_privs_3, lw_okq q := List.forall_mem_cons.mpr ⟨lw_p32, List.forall_mem_cons.mpr ⟨lw_p33, List.forall_mem_cons.mpr ⟨lw_p34, List.forall_mem_cons.mpr ⟨lw_p35, List.forall_mem_cons.mpr ⟨lw_p36, List.forall_mem_cons.mpr ⟨lw_p37, List.forall_mem_cons.mpr ⟨lw_p38, List.forall_mem_cons.mpr ⟨lw_p39, List.forall_mem_cons.mpr ⟨lw_p40, List.forall_mem_cons.mpr ⟨lw_p41, List.forall_mem_cons.mpr ⟨lw_p42, List.forall_mem_cons.mpr ⟨lw_p43, List.forall_mem_cons.mpr ⟨lw_p44, List.forall_mem_cons.mpr ⟨lw_p45, List.forall_mem_cons.mpr ⟨lw_p46, List.forall_mem_cons.mpr ⟨lw_p47, fun _ h => absurd h List.not_mem_nil⟩⟩⟩⟩⟩⟩⟩⟩⟩⟩⟩⟩⟩⟩⟩⟩
theorem lw_p48 : lw_okq (⟨"PhraseMoodsModel", "holeOf", "(II)I"⟩, 28) := ⟨⟨by decide +kernel, by decide +kernel⟩, List.mem_of_getElem? (i := 897) (by decide +kernel), List.mem_of_getElem? (i := 1151) (by decide +kernel), List.mem_of_getElem? (i := 1152) (by decide +kernel)⟩
theorem lw_p49 : lw_okq (⟨"PhraseMoodsModel", "takesText", "()V"⟩, 28) := ⟨⟨by decide +kernel, by decide +kernel⟩, List.mem_of_getElem? (i := 897) (by decide +kernel), List.mem_of_getElem? (i := 1182) (by decide +kernel), List.mem_of_getElem? (i := 1183) (by decide +kernel)⟩
theorem lw_p50 : lw_okq (⟨"PhraseMoodsModel", "counted", "()I"⟩, 28) := ⟨⟨by decide +kernel, by decide +kernel⟩, List.mem_of_getElem? (i := 897) (by decide +kernel), List.mem_of_getElem? (i := 1186) (by decide +kernel), List.mem_of_getElem? (i := 1187) (by decide +kernel)⟩
theorem lw_p51 : lw_okq (⟨"PhraseMoodsModel", "parts", "()V"⟩, 28) := ⟨⟨by decide +kernel, by decide +kernel⟩, List.mem_of_getElem? (i := 897) (by decide +kernel), List.mem_of_getElem? (i := 1190) (by decide +kernel), List.mem_of_getElem? (i := 1191) (by decide +kernel)⟩
theorem lw_p52 : lw_okq (⟨"PhraseMoodsModel", "byFrame", "(IIZ)I"⟩, 28) := ⟨⟨by decide +kernel, by decide +kernel⟩, List.mem_of_getElem? (i := 897) (by decide +kernel), List.mem_of_getElem? (i := 1194) (by decide +kernel), List.mem_of_getElem? (i := 1195) (by decide +kernel)⟩
theorem lw_p53 : lw_okq (⟨"PhraseMoodsModel", "atHole", "(IIIIIZ)I"⟩, 28) := ⟨⟨by decide +kernel, by decide +kernel⟩, List.mem_of_getElem? (i := 897) (by decide +kernel), List.mem_of_getElem? (i := 1198) (by decide +kernel), List.mem_of_getElem? (i := 1199) (by decide +kernel)⟩
theorem lw_p54 : lw_okq (⟨"PhraseMoodsModel", "apart", "(I)I"⟩, 28) := ⟨⟨by decide +kernel, by decide +kernel⟩, List.mem_of_getElem? (i := 897) (by decide +kernel), List.mem_of_getElem? (i := 1203) (by decide +kernel), List.mem_of_getElem? (i := 1204) (by decide +kernel)⟩
theorem lw_p55 : lw_okq (⟨"PhraseMoodsModel", "isLike", "(I)Z"⟩, 28) := ⟨⟨by decide +kernel, by decide +kernel⟩, List.mem_of_getElem? (i := 897) (by decide +kernel), List.mem_of_getElem? (i := 1207) (by decide +kernel), List.mem_of_getElem? (i := 1208) (by decide +kernel)⟩
theorem lw_p56 : lw_okq (⟨"PhraseMoodsModel", "byGroup", "(IIIZ)I"⟩, 28) := ⟨⟨by decide +kernel, by decide +kernel⟩, List.mem_of_getElem? (i := 897) (by decide +kernel), List.mem_of_getElem? (i := 1211) (by decide +kernel), List.mem_of_getElem? (i := 1212) (by decide +kernel)⟩
theorem lw_p57 : lw_okq (⟨"PhraseMoodsModel", "byNoun", "(IIIIIZ)I"⟩, 28) := ⟨⟨by decide +kernel, by decide +kernel⟩, List.mem_of_getElem? (i := 897) (by decide +kernel), List.mem_of_getElem? (i := 1215) (by decide +kernel), List.mem_of_getElem? (i := 1216) (by decide +kernel)⟩
theorem lw_p58 : lw_okq (⟨"PhraseMoodsModel", "drawsLine", "(I)V"⟩, 28) := ⟨⟨by decide +kernel, by decide +kernel⟩, List.mem_of_getElem? (i := 897) (by decide +kernel), List.mem_of_getElem? (i := 1227) (by decide +kernel), List.mem_of_getElem? (i := 1228) (by decide +kernel)⟩
theorem lw_p59 : lw_okq (⟨"PhraseMoodsModel", "draws", "(I)I"⟩, 28) := ⟨⟨by decide +kernel, by decide +kernel⟩, List.mem_of_getElem? (i := 897) (by decide +kernel), List.mem_of_getElem? (i := 1231) (by decide +kernel), List.mem_of_getElem? (i := 1232) (by decide +kernel)⟩
theorem lw_p60 : lw_okq (⟨"PhraseMoodsModel", "wrongPlace", "(II)I"⟩, 28) := ⟨⟨by decide +kernel, by decide +kernel⟩, List.mem_of_getElem? (i := 897) (by decide +kernel), List.mem_of_getElem? (i := 1248) (by decide +kernel), List.mem_of_getElem? (i := 1249) (by decide +kernel)⟩
theorem lw_p61 : lw_okq (⟨"PhraseMoodsModel", "unlike", "(I)I"⟩, 28) := ⟨⟨by decide +kernel, by decide +kernel⟩, List.mem_of_getElem? (i := 897) (by decide +kernel), List.mem_of_getElem? (i := 1267) (by decide +kernel), List.mem_of_getElem? (i := 1268) (by decide +kernel)⟩
def lw_privs_4 : List (MethodName × Nat) := [(⟨"PhraseMoodsModel", "holeOf", "(II)I"⟩, 28), (⟨"PhraseMoodsModel", "takesText", "()V"⟩, 28), (⟨"PhraseMoodsModel", "counted", "()I"⟩, 28), (⟨"PhraseMoodsModel", "parts", "()V"⟩, 28), (⟨"PhraseMoodsModel", "byFrame", "(IIZ)I"⟩, 28), (⟨"PhraseMoodsModel", "atHole", "(IIIIIZ)I"⟩, 28), (⟨"PhraseMoodsModel", "apart", "(I)I"⟩, 28), (⟨"PhraseMoodsModel", "isLike", "(I)Z"⟩, 28), (⟨"PhraseMoodsModel", "byGroup", "(IIIZ)I"⟩, 28), (⟨"PhraseMoodsModel", "byNoun", "(IIIIIZ)I"⟩, 28), (⟨"PhraseMoodsModel", "drawsLine", "(I)V"⟩, 28), (⟨"PhraseMoodsModel", "draws", "(I)I"⟩, 28), (⟨"PhraseMoodsModel", "wrongPlace", "(II)I"⟩, 28), (⟨"PhraseMoodsModel", "unlike", "(I)I"⟩, 28)]
theorem lw_r4 : ∀ q ∈ lw_privs_4, lw_okq q := List.forall_mem_cons.mpr ⟨lw_p48, List.forall_mem_cons.mpr ⟨lw_p49, List.forall_mem_cons.mpr ⟨lw_p50, List.forall_mem_cons.mpr ⟨lw_p51, List.forall_mem_cons.mpr ⟨lw_p52, List.forall_mem_cons.mpr ⟨lw_p53, List.forall_mem_cons.mpr ⟨lw_p54, List.forall_mem_cons.mpr ⟨lw_p55, List.forall_mem_cons.mpr ⟨lw_p56, List.forall_mem_cons.mpr ⟨lw_p57, List.forall_mem_cons.mpr ⟨lw_p58, List.forall_mem_cons.mpr ⟨lw_p59, List.forall_mem_cons.mpr ⟨lw_p60, List.forall_mem_cons.mpr ⟨lw_p61, fun _ h => absurd h List.not_mem_nil⟩⟩⟩⟩⟩⟩⟩⟩⟩⟩⟩⟩⟩⟩
def lw_privs : List (MethodName × Nat) := lw_privs_1 ++ (lw_privs_2 ++ (lw_privs_3 ++ (lw_privs_4)))
def lw_tbl : List Cond := k2_sels lw_privs ++ tables_1
theorem lw_privs_ok : ∀ q ∈ lw_privs, lw_okq q := by
  show ∀ q ∈ lw_privs_1 ++ (lw_privs_2 ++ (lw_privs_3 ++ (lw_privs_4))), lw_okq q
  exact List.forall_mem_append.mpr ⟨lw_r1, List.forall_mem_append.mpr ⟨lw_r2, List.forall_mem_append.mpr ⟨lw_r3, lw_r4⟩⟩⟩
/-- the streams that the claim lets the run draw from -/
abbrev lw_cs : List Choice := [Jvm.Choice.named "NaN.bits"]
theorem lw_bits : nanBits ∈ lw_cs := by first | decide | exact List.mem_cons_self | simp [lw_cs, nanBits]

def RX0 : String := "PhraseMoods$Book"
def TX0 : u_T := fun k => match k with
  | 0 => ("PhraseMoods$Book", "words", "[LPhraseMoods$Word;", true)
  | 1 => ("PhraseMoods$Book", "wordCount", "I", false)
  | 2 => ("PhraseMoods$Book", "endings", "[LPhraseMoods$Letters;", true)
  | 3 => ("PhraseMoods$Book", "genderEnds", "[LPhraseMoods$Letters;", true)
  | 4 => ("PhraseMoods$Book", "frames", "[LPhraseMoods$Frame;", true)
  | 5 => ("PhraseMoods$Book", "frameCount", "I", false)
  | 6 => ("PhraseMoods$Book", "text", "LPhraseMoods$Letters;", true)
  | _ => ("PhraseMoods$Book", "desk", "LPhraseMoods$Filling;", true)
def tyX0 : Nat → FieldType := fun k => match k with
  | 0 => .array (.object "PhraseMoods$Word")
  | 1 => .int
  | 2 => .array (.object "PhraseMoods$Letters")
  | 3 => .array (.object "PhraseMoods$Letters")
  | 4 => .array (.object "PhraseMoods$Frame")
  | 5 => .int
  | 6 => .object "PhraseMoods$Letters"
  | _ => .object "PhraseMoods$Filling"
theorem nmX0 : ∀ a, a < 8 → ∀ b, b < 8 → a ≠ b → (TX0 a).2.1 ≠ (TX0 b).2.1 := by decide +kernel
theorem tyX0_ok : ∀ k, k < 8 → parseFieldDescriptor (TX0 k).2.2.1 = some (tyX0 k) := by decide +kernel
abbrev cX0_init : ByteArray := prog_2_method_1_code
def yX0_init : MethodName := ⟨RX0, "<init>", "()V"⟩
abbrev cX0_become : ByteArray := prog_2_method_2_code
def yX0_become : MethodName := ⟨RX0, "become", "(LPhraseMoods$Book;)V"⟩
abbrev cX0_wordAt : ByteArray := prog_2_method_3_code
def yX0_wordAt : MethodName := ⟨RX0, "wordAt", "(I)LPhraseMoods$Word;"⟩
abbrev cX0_frameAt : ByteArray := prog_2_method_4_code
def yX0_frameAt : MethodName := ⟨RX0, "frameAt", "(I)LPhraseMoods$Frame;"⟩
abbrev cX0_endingAt : ByteArray := prog_2_method_5_code
def yX0_endingAt : MethodName := ⟨RX0, "endingAt", "(III)LPhraseMoods$Letters;"⟩
abbrev cX0_addWord : ByteArray := prog_2_method_6_code
def yX0_addWord : MethodName := ⟨RX0, "addWord", "(LPhraseMoods$Letters;III)I"⟩
abbrev cX0_addFrame : ByteArray := prog_2_method_7_code
def yX0_addFrame : MethodName := ⟨RX0, "addFrame", "(LPhraseMoods$Frame;)I"⟩
abbrev cX0_wordsFor : ByteArray := prog_2_method_8_code
def yX0_wordsFor : MethodName := ⟨RX0, "wordsFor", "(LPhraseMoods$Frame;I)I"⟩
abbrev cX0_wordFor : ByteArray := prog_2_method_9_code
def yX0_wordFor : MethodName := ⟨RX0, "wordFor", "(LPhraseMoods$Frame;II)I"⟩
abbrev cX0_spell : ByteArray := prog_2_method_10_code
def yX0_spell : MethodName := ⟨RX0, "spell", "(LPhraseMoods$Word;ILPhraseMoods$Letters;)V"⟩
def RX1 : String := "PhraseMoods$Drawer"
def TX1 : u_T := fun k => match k with
  | 0 => ("PhraseMoods$Drawer", "filling", "LPhraseMoods$Filling;", true)
  | _ => ("PhraseMoods$Drawer", "z", "I", false)
def tyX1 : Nat → FieldType := fun k => match k with
  | 0 => .object "PhraseMoods$Filling"
  | _ => .int
theorem nmX1 : ∀ a, a < 2 → ∀ b, b < 2 → a ≠ b → (TX1 a).2.1 ≠ (TX1 b).2.1 := by decide +kernel
theorem tyX1_ok : ∀ k, k < 2 → parseFieldDescriptor (TX1 k).2.2.1 = some (tyX1 k) := by decide +kernel
abbrev cX1_init : ByteArray := prog_3_method_1_code
def yX1_init : MethodName := ⟨RX1, "<init>", "()V"⟩
abbrev cX1_draw : ByteArray := prog_3_method_2_code
def yX1_draw : MethodName := ⟨RX1, "draw", "(LPhraseMoods$Book;I)Z"⟩
abbrev cX1_next : ByteArray := prog_3_method_3_code
def yX1_next : MethodName := ⟨RX1, "next", "(I)I"⟩
def RX2 : String := "PhraseMoods$Filling"
def TX2 : u_T := fun k => match k with
  | 0 => ("PhraseMoods$Filling", "frame", "I", false)
  | 1 => ("PhraseMoods$Filling", "mood", "I", false)
  | 2 => ("PhraseMoods$Filling", "numbers", "I", false)
  | _ => ("PhraseMoods$Filling", "words", "[I", true)
def tyX2 : Nat → FieldType := fun k => match k with
  | 0 => .int
  | 1 => .int
  | 2 => .int
  | _ => .array .int
theorem nmX2 : ∀ a, a < 4 → ∀ b, b < 4 → a ≠ b → (TX2 a).2.1 ≠ (TX2 b).2.1 := by decide +kernel
theorem tyX2_ok : ∀ k, k < 4 → parseFieldDescriptor (TX2 k).2.2.1 = some (tyX2 k) := by decide +kernel
abbrev cX2_init : ByteArray := prog_4_method_1_code
def yX2_init : MethodName := ⟨RX2, "<init>", "()V"⟩
abbrev cX2_begin : ByteArray := prog_4_method_2_code
def yX2_begin : MethodName := ⟨RX2, "begin", "(II)V"⟩
abbrev cX2_become : ByteArray := prog_4_method_3_code
def yX2_become : MethodName := ⟨RX2, "become", "(LPhraseMoods$Filling;)V"⟩
abbrev cX2_fill : ByteArray := prog_4_method_4_code
def yX2_fill : MethodName := ⟨RX2, "fill", "(II)V"⟩
abbrev cX2_wordIn : ByteArray := prog_4_method_5_code
def yX2_wordIn : MethodName := ⟨RX2, "wordIn", "(I)I"⟩
def RX3 : String := "PhraseMoods$Frame"
def TX3 : u_T := fun k => match k with
  | 0 => ("PhraseMoods$Frame", "size", "I", false)
  | 1 => ("PhraseMoods$Frame", "sorts", "[I", true)
  | 2 => ("PhraseMoods$Frame", "groups", "[I", true)
  | 3 => ("PhraseMoods$Frame", "cases", "[I", true)
  | 4 => ("PhraseMoods$Frame", "plains", "[I", true)
  | _ => ("PhraseMoods$Frame", "nouns", "[I", true)
def tyX3 : Nat → FieldType := fun k => match k with
  | 0 => .int
  | 1 => .array .int
  | 2 => .array .int
  | 3 => .array .int
  | 4 => .array .int
  | _ => .array .int
theorem nmX3 : ∀ a, a < 6 → ∀ b, b < 6 → a ≠ b → (TX3 a).2.1 ≠ (TX3 b).2.1 := by decide +kernel
theorem tyX3_ok : ∀ k, k < 6 → parseFieldDescriptor (TX3 k).2.2.1 = some (tyX3 k) := by decide +kernel
abbrev cX3_init : ByteArray := prog_5_method_1_code
def yX3_init : MethodName := ⟨RX3, "<init>", "()V"⟩
abbrev cX3_clear : ByteArray := prog_5_method_2_code
def yX3_clear : MethodName := ⟨RX3, "clear", "()V"⟩
abbrev cX3_add : ByteArray := prog_5_method_3_code
def yX3_add : MethodName := ⟨RX3, "add", "(IIII)V"⟩
abbrev cX3_become : ByteArray := prog_5_method_4_code
def yX3_become : MethodName := ⟨RX3, "become", "(LPhraseMoods$Frame;)V"⟩
abbrev cX3_has : ByteArray := prog_5_method_5_code
def yX3_has : MethodName := ⟨RX3, "has", "(I)Z"⟩
abbrev cX3_sortOf : ByteArray := prog_5_method_6_code
def yX3_sortOf : MethodName := ⟨RX3, "sortOf", "(I)I"⟩
abbrev cX3_groupOf : ByteArray := prog_5_method_7_code
def yX3_groupOf : MethodName := ⟨RX3, "groupOf", "(I)I"⟩
abbrev cX3_caseOf : ByteArray := prog_5_method_8_code
def yX3_caseOf : MethodName := ⟨RX3, "caseOf", "(I)I"⟩
abbrev cX3_plainOf : ByteArray := prog_5_method_9_code
def yX3_plainOf : MethodName := ⟨RX3, "plainOf", "(I)I"⟩
abbrev cX3_nounOf : ByteArray := prog_5_method_10_code
def yX3_nounOf : MethodName := ⟨RX3, "nounOf", "(I)I"⟩
abbrev cX3_isWhole : ByteArray := prog_5_method_11_code
def yX3_isWhole : MethodName := ⟨RX3, "isWhole", "()Z"⟩
abbrev cX3_takes : ByteArray := prog_5_method_12_code
def yX3_takes : MethodName := ⟨RX3, "takes", "(ILPhraseMoods$Word;)Z"⟩
def RX4 : String := "PhraseMoods$FrameReader"
def TX4 : u_T := fun k => match k with
  | 0 => ("PhraseMoods$FrameReader", "frame", "LPhraseMoods$Frame;", true)
  | _ => ("PhraseMoods$FrameReader", "place", "I", false)
def tyX4 : Nat → FieldType := fun k => match k with
  | 0 => .object "PhraseMoods$Frame"
  | _ => .int
theorem nmX4 : ∀ a, a < 2 → ∀ b, b < 2 → a ≠ b → (TX4 a).2.1 ≠ (TX4 b).2.1 := by decide +kernel
theorem tyX4_ok : ∀ k, k < 2 → parseFieldDescriptor (TX4 k).2.2.1 = some (tyX4 k) := by decide +kernel
abbrev cX4_init : ByteArray := prog_6_method_1_code
def yX4_init : MethodName := ⟨RX4, "<init>", "()V"⟩
abbrev cX4_read : ByteArray := prog_6_method_2_code
def yX4_read : MethodName := ⟨RX4, "read", "(LPhraseMoods$Book;LPhraseMoods$Letters;)I"⟩
abbrev cX4_skipBlanks : ByteArray := prog_6_method_3_code
def yX4_skipBlanks : MethodName := ⟨RX4, "skipBlanks", "(LPhraseMoods$Letters;)V"⟩
abbrev cX4_readHole : ByteArray := prog_6_method_4_code
def yX4_readHole : MethodName := ⟨RX4, "readHole", "(LPhraseMoods$Book;LPhraseMoods$Letters;)Z"⟩
abbrev cX4_readGrouped : ByteArray := prog_6_method_5_code
def yX4_readGrouped : MethodName := ⟨RX4, "readGrouped", "(ILPhraseMoods$Letters;)Z"⟩
abbrev cX4_readPlain : ByteArray := prog_6_method_6_code
def yX4_readPlain : MethodName := ⟨RX4, "readPlain", "(LPhraseMoods$Book;LPhraseMoods$Letters;)Z"⟩
abbrev cX4_sortBy : ByteArray := prog_6_method_7_code
def yX4_sortBy : MethodName := ⟨RX4, "sortBy", "(I)I"⟩
abbrev cX4_digit : ByteArray := prog_6_method_8_code
def yX4_digit : MethodName := ⟨RX4, "digit", "(LPhraseMoods$Letters;II)I"⟩
def RX5 : String := "PhraseMoods$Letters"
def TX5 : u_T := fun k => match k with
  | 0 => ("PhraseMoods$Letters", "bytes", "[B", true)
  | _ => ("PhraseMoods$Letters", "size", "I", false)
def tyX5 : Nat → FieldType := fun k => match k with
  | 0 => .array .byte
  | _ => .int
theorem nmX5 : ∀ a, a < 2 → ∀ b, b < 2 → a ≠ b → (TX5 a).2.1 ≠ (TX5 b).2.1 := by decide +kernel
theorem tyX5_ok : ∀ k, k < 2 → parseFieldDescriptor (TX5 k).2.2.1 = some (tyX5 k) := by decide +kernel
abbrev cX5_init : ByteArray := prog_7_method_1_code
def yX5_init : MethodName := ⟨RX5, "<init>", "(I)V"⟩
abbrev cX5_isLetter : ByteArray := prog_7_method_2_code
def yX5_isLetter : MethodName := ⟨RX5, "isLetter", "(I)Z"⟩
abbrev cX5_isVowel : ByteArray := prog_7_method_3_code
def yX5_isVowel : MethodName := ⟨RX5, "isVowel", "(I)Z"⟩
abbrev cX5_at : ByteArray := prog_7_method_4_code
def yX5_at : MethodName := ⟨RX5, "at", "(I)I"⟩
abbrev cX5_clear : ByteArray := prog_7_method_5_code
def yX5_clear : MethodName := ⟨RX5, "clear", "()V"⟩
abbrev cX5_add : ByteArray := prog_7_method_6_code
def yX5_add : MethodName := ⟨RX5, "add", "(I)V"⟩
abbrev cX5_become : ByteArray := prog_7_method_7_code
def yX5_become : MethodName := ⟨RX5, "become", "(LPhraseMoods$Letters;)V"⟩
abbrev cX5_join : ByteArray := prog_7_method_8_code
def yX5_join : MethodName := ⟨RX5, "join", "(LPhraseMoods$Letters;)V"⟩
abbrev cX5_isAllLetters : ByteArray := prog_7_method_9_code
def yX5_isAllLetters : MethodName := ⟨RX5, "isAllLetters", "()Z"⟩
abbrev cX5_isAllWords : ByteArray := prog_7_method_10_code
def yX5_isAllWords : MethodName := ⟨RX5, "isAllWords", "()Z"⟩
abbrev cX5_words : ByteArray := prog_7_method_11_code
def yX5_words : MethodName := ⟨RX5, "words", "()I"⟩
def RX6 : String := "PhraseMoods$Reader"
def TX6 : u_T := fun k => match k with
  | 0 => ("PhraseMoods$Reader", "spelled", "LPhraseMoods$Letters;", true)
  | 1 => ("PhraseMoods$Reader", "starts", "[I", true)
  | 2 => ("PhraseMoods$Reader", "lengths", "[I", true)
  | 3 => ("PhraseMoods$Reader", "words", "I", false)
  | 4 => ("PhraseMoods$Reader", "row", "[I", true)
  | 5 => ("PhraseMoods$Reader", "readings", "I", false)
  | 6 => ("PhraseMoods$Reader", "firstFrame", "I", false)
  | 7 => ("PhraseMoods$Reader", "firstMood", "I", false)
  | 8 => ("PhraseMoods$Reader", "least", "I", false)
  | _ => ("PhraseMoods$Reader", "leastFrame", "I", false)
def tyX6 : Nat → FieldType := fun k => match k with
  | 0 => .object "PhraseMoods$Letters"
  | 1 => .array .int
  | 2 => .array .int
  | 3 => .int
  | 4 => .array .int
  | 5 => .int
  | 6 => .int
  | 7 => .int
  | 8 => .int
  | _ => .int
theorem nmX6 : ∀ a, a < 10 → ∀ b, b < 10 → a ≠ b → (TX6 a).2.1 ≠ (TX6 b).2.1 := by decide +kernel
theorem tyX6_ok : ∀ k, k < 10 → parseFieldDescriptor (TX6 k).2.2.1 = some (tyX6 k) := by decide +kernel
abbrev cX6_init : ByteArray := prog_8_method_1_code
def yX6_init : MethodName := ⟨RX6, "<init>", "()V"⟩
abbrev cX6_countReadings : ByteArray := prog_8_method_2_code
def yX6_countReadings : MethodName := ⟨RX6, "countReadings", "(LPhraseMoods$Book;LPhraseMoods$Letters;)V"⟩
abbrev cX6_findNearest : ByteArray := prog_8_method_3_code
def yX6_findNearest : MethodName := ⟨RX6, "findNearest", "(LPhraseMoods$Book;LPhraseMoods$Letters;)V"⟩
abbrev cX6_split : ByteArray := prog_8_method_4_code
def yX6_split : MethodName := ⟨RX6, "split", "(LPhraseMoods$Letters;)V"⟩
abbrev cX6_waysOfFrame : ByteArray := prog_8_method_5_code
def yX6_waysOfFrame : MethodName := ⟨RX6, "waysOfFrame", "(LPhraseMoods$Book;LPhraseMoods$Letters;LPhraseMoods$Frame;I)I"⟩
abbrev cX6_waysOfGroup : ByteArray := prog_8_method_6_code
def yX6_waysOfGroup : MethodName := ⟨RX6, "waysOfGroup", "(LPhraseMoods$Book;LPhraseMoods$Letters;LPhraseMoods$Frame;II)I"⟩
abbrev cX6_waysOfHole : ByteArray := prog_8_method_7_code
def yX6_waysOfHole : MethodName := ⟨RX6, "waysOfHole", "(LPhraseMoods$Book;LPhraseMoods$Letters;LPhraseMoods$Frame;II)I"⟩
abbrev cX6_farnessOfFrame : ByteArray := prog_8_method_8_code
def yX6_farnessOfFrame : MethodName := ⟨RX6, "farnessOfFrame", "(LPhraseMoods$Book;LPhraseMoods$Letters;LPhraseMoods$Frame;I)I"⟩
abbrev cX6_farnessOfGroup : ByteArray := prog_8_method_9_code
def yX6_farnessOfGroup : MethodName := ⟨RX6, "farnessOfGroup", "(LPhraseMoods$Book;LPhraseMoods$Letters;LPhraseMoods$Frame;II)I"⟩
abbrev cX6_farnessOfHole : ByteArray := prog_8_method_10_code
def yX6_farnessOfHole : MethodName := ⟨RX6, "farnessOfHole", "(LPhraseMoods$Book;LPhraseMoods$Letters;LPhraseMoods$Frame;II)I"⟩
abbrev cX6_fits : ByteArray := prog_8_method_11_code
def yX6_fits : MethodName := ⟨RX6, "fits", "(LPhraseMoods$Frame;ILPhraseMoods$Word;I)Z"⟩
abbrev cX6_startOf : ByteArray := prog_8_method_12_code
def yX6_startOf : MethodName := ⟨RX6, "startOf", "(I)I"⟩
abbrev cX6_lengthOf : ByteArray := prog_8_method_13_code
def yX6_lengthOf : MethodName := ⟨RX6, "lengthOf", "(I)I"⟩
abbrev cX6_isSpelledAt : ByteArray := prog_8_method_14_code
def yX6_isSpelledAt : MethodName := ⟨RX6, "isSpelledAt", "(LPhraseMoods$Letters;I)Z"⟩
abbrev cX6_apartFrom : ByteArray := prog_8_method_15_code
def yX6_apartFrom : MethodName := ⟨RX6, "apartFrom", "(LPhraseMoods$Letters;I)I"⟩
def RX7 : String := "PhraseMoods$Sheet"
def TX7 : u_T := fun k => match k with
  | 0 => ("PhraseMoods$Sheet", "sort", "I", false)
  | 1 => ("PhraseMoods$Sheet", "size", "I", false)
  | _ => ("PhraseMoods$Sheet", "items", "[I", true)
def tyX7 : Nat → FieldType := fun k => match k with
  | 0 => .int
  | 1 => .int
  | _ => .array .int
theorem nmX7 : ∀ a, a < 3 → ∀ b, b < 3 → a ≠ b → (TX7 a).2.1 ≠ (TX7 b).2.1 := by decide +kernel
theorem tyX7_ok : ∀ k, k < 3 → parseFieldDescriptor (TX7 k).2.2.1 = some (tyX7 k) := by decide +kernel
abbrev cX7_init : ByteArray := prog_9_method_1_code
def yX7_init : MethodName := ⟨RX7, "<init>", "()V"⟩
abbrev cX7_begin : ByteArray := prog_9_method_2_code
def yX7_begin : MethodName := ⟨RX7, "begin", "(II)V"⟩
abbrev cX7_isMissing : ByteArray := prog_9_method_3_code
def yX7_isMissing : MethodName := ⟨RX7, "isMissing", "()Z"⟩
abbrev cX7_hasRun : ByteArray := prog_9_method_4_code
def yX7_hasRun : MethodName := ⟨RX7, "hasRun", "(II)Z"⟩
abbrev cX7_at : ByteArray := prog_9_method_5_code
def yX7_at : MethodName := ⟨RX7, "at", "(I)I"⟩
abbrev cX7_set : ByteArray := prog_9_method_6_code
def yX7_set : MethodName := ⟨RX7, "set", "(II)V"⟩
abbrev cX7_take : ByteArray := prog_9_method_7_code
def yX7_take : MethodName := ⟨RX7, "take", "(ILPhraseMoods$Sheet;II)V"⟩
def RX8 : String := "PhraseMoods$Speaker"
def TX8 : u_T := fun k => match k with
  | 0 => ("PhraseMoods$Speaker", "spelled", "LPhraseMoods$Letters;", true)
  | 1 => ("PhraseMoods$Speaker", "line", "LPhraseMoods$Letters;", true)
  | 2 => ("PhraseMoods$Speaker", "lengths", "[I", true)
  | _ => ("PhraseMoods$Speaker", "words", "I", false)
def tyX8 : Nat → FieldType := fun k => match k with
  | 0 => .object "PhraseMoods$Letters"
  | 1 => .object "PhraseMoods$Letters"
  | 2 => .array .int
  | _ => .int
theorem nmX8 : ∀ a, a < 4 → ∀ b, b < 4 → a ≠ b → (TX8 a).2.1 ≠ (TX8 b).2.1 := by decide +kernel
theorem tyX8_ok : ∀ k, k < 4 → parseFieldDescriptor (TX8 k).2.2.1 = some (tyX8 k) := by decide +kernel
abbrev cX8_init : ByteArray := prog_10_method_1_code
def yX8_init : MethodName := ⟨RX8, "<init>", "()V"⟩
abbrev cX8_say : ByteArray := prog_10_method_2_code
def yX8_say : MethodName := ⟨RX8, "say", "(LPhraseMoods$Book;LPhraseMoods$Filling;II)Z"⟩
abbrev cX8_lengthOf : ByteArray := prog_10_method_3_code
def yX8_lengthOf : MethodName := ⟨RX8, "lengthOf", "(I)I"⟩
abbrev cX8_timeBy : ByteArray := prog_10_method_4_code
def yX8_timeBy : MethodName := ⟨RX8, "timeBy", "(I)F"⟩
abbrev cX8_addSpelled : ByteArray := prog_10_method_5_code
def yX8_addSpelled : MethodName := ⟨RX8, "addSpelled", "()V"⟩
abbrev cX8_agreement : ByteArray := prog_10_method_6_code
def yX8_agreement : MethodName := ⟨RX8, "agreement", "(LPhraseMoods$Book;LPhraseMoods$Filling;II)I"⟩
def RX9 : String := "PhraseMoods$Tray"
def TX9 : u_T := fun k => match k with
  | 0 => ("PhraseMoods$Tray", "kind", "I", false)
  | 1 => ("PhraseMoods$Tray", "size", "I", false)
  | _ => ("PhraseMoods$Tray", "words", "[I", true)
def tyX9 : Nat → FieldType := fun k => match k with
  | 0 => .int
  | 1 => .int
  | _ => .array .int
theorem nmX9 : ∀ a, a < 3 → ∀ b, b < 3 → a ≠ b → (TX9 a).2.1 ≠ (TX9 b).2.1 := by decide +kernel
theorem tyX9_ok : ∀ k, k < 3 → parseFieldDescriptor (TX9 k).2.2.1 = some (tyX9 k) := by decide +kernel
abbrev cX9_init : ByteArray := prog_11_method_1_code
def yX9_init : MethodName := ⟨RX9, "<init>", "()V"⟩
abbrev cX9_begin : ByteArray := prog_11_method_2_code
def yX9_begin : MethodName := ⟨RX9, "begin", "(II)V"⟩
abbrev cX9_become : ByteArray := prog_11_method_3_code
def yX9_become : MethodName := ⟨RX9, "become", "(LPhraseMoods$Tray;)V"⟩
abbrev cX9_isMissing : ByteArray := prog_11_method_4_code
def yX9_isMissing : MethodName := ⟨RX9, "isMissing", "()Z"⟩
abbrev cX9_has : ByteArray := prog_11_method_5_code
def yX9_has : MethodName := ⟨RX9, "has", "(I)Z"⟩
abbrev cX9_wordAt : ByteArray := prog_11_method_6_code
def yX9_wordAt : MethodName := ⟨RX9, "wordAt", "(I)I"⟩
abbrev cX9_lay : ByteArray := prog_11_method_7_code
def yX9_lay : MethodName := ⟨RX9, "lay", "(II)V"⟩
def RX10 : String := "PhraseMoods$Word"
def TX10 : u_T := fun k => match k with
  | 0 => ("PhraseMoods$Word", "number", "I", true)
  | 1 => ("PhraseMoods$Word", "stem", "LPhraseMoods$Letters;", true)
  | 2 => ("PhraseMoods$Word", "kind", "I", false)
  | 3 => ("PhraseMoods$Word", "table", "I", false)
  | _ => ("PhraseMoods$Word", "gender", "I", false)
def tyX10 : Nat → FieldType := fun k => match k with
  | 0 => .int
  | 1 => .object "PhraseMoods$Letters"
  | 2 => .int
  | 3 => .int
  | _ => .int
theorem nmX10 : ∀ a, a < 5 → ∀ b, b < 5 → a ≠ b → (TX10 a).2.1 ≠ (TX10 b).2.1 := by decide +kernel
theorem tyX10_ok : ∀ k, k < 5 → parseFieldDescriptor (TX10 k).2.2.1 = some (tyX10 k) := by decide +kernel
abbrev cX10_init : ByteArray := prog_12_method_1_code
def yX10_init : MethodName := ⟨RX10, "<init>", "(I)V"⟩
abbrev cX10_become : ByteArray := prog_12_method_2_code
def yX10_become : MethodName := ⟨RX10, "become", "(LPhraseMoods$Word;)V"⟩
abbrev cX10_begin : ByteArray := prog_12_method_3_code
def yX10_begin : MethodName := ⟨RX10, "begin", "(LPhraseMoods$Letters;III)V"⟩
abbrev cX10_isOf : ByteArray := prog_12_method_4_code
def yX10_isOf : MethodName := ⟨RX10, "isOf", "(I)Z"⟩
def RX11 : String := "PhraseMoods"
def TX11 : u_T := fun k => match k with
  | 0 => ("PhraseMoods", "tape", "LPhraseMoods$Letters;", true)
  | 1 => ("PhraseMoods", "book", "LPhraseMoods$Book;", true)
  | 2 => ("PhraseMoods", "kept", "LPhraseMoods$Book;", true)
  | 3 => ("PhraseMoods", "isKept", "Z", false)
  | 4 => ("PhraseMoods", "frameReader", "LPhraseMoods$FrameReader;", true)
  | 5 => ("PhraseMoods", "spelled", "LPhraseMoods$Letters;", true)
  | 6 => ("PhraseMoods", "speaker", "LPhraseMoods$Speaker;", true)
  | 7 => ("PhraseMoods", "drawer", "LPhraseMoods$Drawer;", true)
  | 8 => ("PhraseMoods", "reader", "LPhraseMoods$Reader;", true)
  | 9 => ("PhraseMoods", "sheets", "[LPhraseMoods$Sheet;", true)
  | _ => ("PhraseMoods", "trays", "[LPhraseMoods$Tray;", true)
def tyX11 : Nat → FieldType := fun k => match k with
  | 0 => .object "PhraseMoods$Letters"
  | 1 => .object "PhraseMoods$Book"
  | 2 => .object "PhraseMoods$Book"
  | 3 => .boolean
  | 4 => .object "PhraseMoods$FrameReader"
  | 5 => .object "PhraseMoods$Letters"
  | 6 => .object "PhraseMoods$Speaker"
  | 7 => .object "PhraseMoods$Drawer"
  | 8 => .object "PhraseMoods$Reader"
  | 9 => .array (.object "PhraseMoods$Sheet")
  | _ => .array (.object "PhraseMoods$Tray")
theorem nmX11 : ∀ a, a < 11 → ∀ b, b < 11 → a ≠ b → (TX11 a).2.1 ≠ (TX11 b).2.1 := by decide +kernel
theorem tyX11_ok : ∀ k, k < 11 → parseFieldDescriptor (TX11 k).2.2.1 = some (tyX11 k) := by decide +kernel
abbrev cX11_init : ByteArray := prog_1_method_1_code
def yX11_init : MethodName := ⟨RX11, "<init>", "()V"⟩
abbrev cX11_feed : ByteArray := prog_1_method_2_code
def yX11_feed : MethodName := ⟨RX11, "feed", "(IIIIII)I"⟩
abbrev cX11_word : ByteArray := prog_1_method_3_code
def yX11_word : MethodName := ⟨RX11, "word", "(III)I"⟩
abbrev cX11_ending : ByteArray := prog_1_method_4_code
def yX11_ending : MethodName := ⟨RX11, "ending", "(III)I"⟩
abbrev cX11_frame : ByteArray := prog_1_method_5_code
def yX11_frame : MethodName := ⟨RX11, "frame", "()I"⟩
abbrev cX11_told : ByteArray := prog_1_method_6_code
def yX11_told : MethodName := ⟨RX11, "told", "(II)I"⟩
abbrev cX11_taken : ByteArray := prog_1_method_7_code
def yX11_taken : MethodName := ⟨RX11, "taken", "(II)I"⟩
abbrev cX11_form : ByteArray := prog_1_method_8_code
def yX11_form : MethodName := ⟨RX11, "form", "(III)I"⟩
abbrev cX11_hole : ByteArray := prog_1_method_9_code
def yX11_hole : MethodName := ⟨RX11, "hole", "(III)I"⟩
abbrev cX11_desk : ByteArray := prog_1_method_10_code
def yX11_desk : MethodName := ⟨RX11, "desk", "(II)I"⟩
abbrev cX11_choose : ByteArray := prog_1_method_11_code
def yX11_choose : MethodName := ⟨RX11, "choose", "(II)I"⟩
abbrev cX11_number : ByteArray := prog_1_method_12_code
def yX11_number : MethodName := ⟨RX11, "number", "(II)I"⟩
abbrev cX11_said : ByteArray := prog_1_method_13_code
def yX11_said : MethodName := ⟨RX11, "said", "(I)I"⟩
abbrev cX11_spoken : ByteArray := prog_1_method_14_code
def yX11_spoken : MethodName := ⟨RX11, "spoken", "(I)I"⟩
abbrev cX11_text : ByteArray := prog_1_method_15_code
def yX11_text : MethodName := ⟨RX11, "text", "()I"⟩
abbrev cX11_readings : ByteArray := prog_1_method_16_code
def yX11_readings : MethodName := ⟨RX11, "readings", "(I)I"⟩
abbrev cX11_near : ByteArray := prog_1_method_17_code
def yX11_near : MethodName := ⟨RX11, "near", "(I)I"⟩
abbrev cX11_drawn : ByteArray := prog_1_method_18_code
def yX11_drawn : MethodName := ⟨RX11, "drawn", "(II)I"⟩
abbrev cX11_chance : ByteArray := prog_1_method_19_code
def yX11_chance : MethodName := ⟨RX11, "chance", "(III)I"⟩
abbrev cX11_tray : ByteArray := prog_1_method_20_code
def yX11_tray : MethodName := ⟨RX11, "tray", "(III)I"⟩
abbrev cX11_lays : ByteArray := prog_1_method_21_code
def yX11_lays : MethodName := ⟨RX11, "lays", "(III)I"⟩
abbrev cX11_laid : ByteArray := prog_1_method_22_code
def yX11_laid : MethodName := ⟨RX11, "laid", "(II)I"⟩
abbrev cX11_like : ByteArray := prog_1_method_23_code
def yX11_like : MethodName := ⟨RX11, "like", "(II)I"⟩
abbrev cX11_tells : ByteArray := prog_1_method_24_code
def yX11_tells : MethodName := ⟨RX11, "tells", "(II)I"⟩
abbrev cX11_image : ByteArray := prog_1_method_25_code
def yX11_image : MethodName := ⟨RX11, "image", "()I"⟩
abbrev cX11_back : ByteArray := prog_1_method_26_code
def yX11_back : MethodName := ⟨RX11, "back", "()I"⟩
abbrev cX11_count : ByteArray := prog_1_method_27_code
def yX11_count : MethodName := ⟨RX11, "count", "(I)I"⟩
abbrev cX11_sheet : ByteArray := prog_1_method_28_code
def yX11_sheet : MethodName := ⟨RX11, "sheet", "(III)I"⟩
abbrev cX11_put : ByteArray := prog_1_method_29_code
def yX11_put : MethodName := ⟨RX11, "put", "(III)I"⟩
abbrev cX11_copy : ByteArray := prog_1_method_30_code
def yX11_copy : MethodName := ⟨RX11, "copy", "(IIIII)I"⟩
abbrev cX11_isBelow : ByteArray := prog_1_method_31_code
def yX11_isBelow : MethodName := ⟨RX11, "isBelow", "(II)Z"⟩
abbrev cX11_areBytes : ByteArray := prog_1_method_32_code
def yX11_areBytes : MethodName := ⟨RX11, "areBytes", "(IIIII)Z"⟩
abbrev cX11_sizeOrLetter : ByteArray := prog_1_method_33_code
def yX11_sizeOrLetter : MethodName := ⟨RX11, "sizeOrLetter", "(LPhraseMoods$Letters;I)I"⟩
abbrev cX11_bitsOf : ByteArray := prog_1_method_34_code
def yX11_bitsOf : MethodName := ⟨RX11, "bitsOf", "(F)I"⟩
abbrev cX11_commonDivisor : ByteArray := prog_1_method_35_code
def yX11_commonDivisor : MethodName := ⟨RX11, "commonDivisor", "(II)I"⟩
abbrev cX11_sayDesk : ByteArray := prog_1_method_36_code
def yX11_sayDesk : MethodName := ⟨RX11, "sayDesk", "()Z"⟩
abbrev cX11_sayDrawn : ByteArray := prog_1_method_37_code
def yX11_sayDrawn : MethodName := ⟨RX11, "sayDrawn", "(I)Z"⟩
abbrev cX11_sheetAt : ByteArray := prog_1_method_38_code
def yX11_sheetAt : MethodName := ⟨RX11, "sheetAt", "(I)LPhraseMoods$Sheet;"⟩
abbrev cX11_trayAt : ByteArray := prog_1_method_39_code
def yX11_trayAt : MethodName := ⟨RX11, "trayAt", "(I)LPhraseMoods$Tray;"⟩
abbrev cX11_firstOtherwise : ByteArray := prog_1_method_40_code
def yX11_firstOtherwise : MethodName := ⟨RX11, "firstOtherwise", "(LPhraseMoods$Sheet;)I"⟩
abbrev cX11_moodsTold : ByteArray := prog_1_method_41_code
def yX11_moodsTold : MethodName := ⟨RX11, "moodsTold", "(LPhraseMoods$Sheet;)I"⟩
abbrev cX11_numbersTold : ByteArray := prog_1_method_42_code
def yX11_numbersTold : MethodName := ⟨RX11, "numbersTold", "(LPhraseMoods$Sheet;)I"⟩
def RX12 : String := "PhraseMoodsModel"
def TX12 : u_T := fun k => match k with
  | 0 => ("PhraseMoodsModel", "g", "[I", true)
  | 1 => ("PhraseMoodsModel", "kept", "[I", true)
  | 2 => ("PhraseMoodsModel", "isKept", "Z", false)
  | 3 => ("PhraseMoodsModel", "tape", "[I", true)
  | 4 => ("PhraseMoodsModel", "fed", "I", false)
  | 5 => ("PhraseMoodsModel", "made4", "[I", true)
  | 6 => ("PhraseMoodsModel", "size", "I", false)
  | 7 => ("PhraseMoodsModel", "fault", "I", false)
  | 8 => ("PhraseMoodsModel", "next", "I", false)
  | 9 => ("PhraseMoodsModel", "saved", "[I", true)
  | 10 => ("PhraseMoodsModel", "line", "[I", true)
  | 11 => ("PhraseMoodsModel", "begins", "[I", true)
  | 12 => ("PhraseMoodsModel", "ends", "[I", true)
  | 13 => ("PhraseMoodsModel", "lineSize", "I", false)
  | 14 => ("PhraseMoodsModel", "lineWords", "I", false)
  | 15 => ("PhraseMoodsModel", "before", "[I", true)
  | 16 => ("PhraseMoodsModel", "now", "[I", true)
  | 17 => ("PhraseMoodsModel", "first", "I", false)
  | 18 => ("PhraseMoodsModel", "firstMood", "I", false)
  | 19 => ("PhraseMoodsModel", "drawnWords", "[I", true)
  | 20 => ("PhraseMoodsModel", "z", "I", false)
  | 21 => ("PhraseMoodsModel", "made", "[I", true)
  | 22 => ("PhraseMoodsModel", "traySize", "[I", true)
  | 23 => ("PhraseMoodsModel", "placed", "[I", true)
  | 24 => ("PhraseMoodsModel", "sort", "[I", true)
  | 25 => ("PhraseMoodsModel", "count", "[I", true)
  | 26 => ("PhraseMoodsModel", "item", "[I", true)
  | _ => ("PhraseMoodsModel", "lifted", "[I", true)
def tyX12 : Nat → FieldType := fun k => match k with
  | 0 => .array .int
  | 1 => .array .int
  | 2 => .boolean
  | 3 => .array .int
  | 4 => .int
  | 5 => .array .int
  | 6 => .int
  | 7 => .int
  | 8 => .int
  | 9 => .array .int
  | 10 => .array .int
  | 11 => .array .int
  | 12 => .array .int
  | 13 => .int
  | 14 => .int
  | 15 => .array .int
  | 16 => .array .int
  | 17 => .int
  | 18 => .int
  | 19 => .array .int
  | 20 => .int
  | 21 => .array .int
  | 22 => .array .int
  | 23 => .array .int
  | 24 => .array .int
  | 25 => .array .int
  | 26 => .array .int
  | _ => .array .int
theorem nmX12 : ∀ a, a < 28 → ∀ b, b < 28 → a ≠ b → (TX12 a).2.1 ≠ (TX12 b).2.1 := by decide +kernel
theorem tyX12_ok : ∀ k, k < 28 → parseFieldDescriptor (TX12 k).2.2.1 = some (tyX12 k) := by decide +kernel
abbrev cX12_init : ByteArray := prog_14_method_1_code
def yX12_init : MethodName := ⟨RX12, "<init>", "()V"⟩
abbrev cX12_isIn : ByteArray := prog_14_method_2_code
def yX12_isIn : MethodName := ⟨RX12, "isIn", "(III)Z"⟩
abbrev cX12_isWord : ByteArray := prog_14_method_3_code
def yX12_isWord : MethodName := ⟨RX12, "isWord", "(I)Z"⟩
abbrev cX12_isVowel : ByteArray := prog_14_method_4_code
def yX12_isVowel : MethodName := ⟨RX12, "isVowel", "(I)Z"⟩
abbrev cX12_kind : ByteArray := prog_14_method_5_code
def yX12_kind : MethodName := ⟨RX12, "kind", "(I)I"⟩
abbrev cX12_gender : ByteArray := prog_14_method_6_code
def yX12_gender : MethodName := ⟨RX12, "gender", "(I)I"⟩
abbrev cX12_above : ByteArray := prog_14_method_7_code
def yX12_above : MethodName := ⟨RX12, "above", "(I)I"⟩
abbrev cX12_isUnder : ByteArray := prog_14_method_8_code
def yX12_isUnder : MethodName := ⟨RX12, "isUnder", "(II)Z"⟩
abbrev cX12_feed : ByteArray := prog_14_method_9_code
def yX12_feed : MethodName := ⟨RX12, "feed", "(IIIIII)I"⟩
abbrev cX12_letters : ByteArray := prog_14_method_10_code
def yX12_letters : MethodName := ⟨RX12, "letters", "(II)I"⟩
abbrev cX12_word : ByteArray := prog_14_method_11_code
def yX12_word : MethodName := ⟨RX12, "word", "(III)I"⟩
abbrev cX12_endAt : ByteArray := prog_14_method_12_code
def yX12_endAt : MethodName := ⟨RX12, "endAt", "(III)I"⟩
abbrev cX12_ending : ByteArray := prog_14_method_13_code
def yX12_ending : MethodName := ⟨RX12, "ending", "(III)I"⟩
abbrev cX12_joins : ByteArray := prog_14_method_14_code
def yX12_joins : MethodName := ⟨RX12, "joins", "(IZ)V"⟩
abbrev cX12_ends : ByteArray := prog_14_method_15_code
def yX12_ends : MethodName := ⟨RX12, "ends", "(I)V"⟩
abbrev cX12_forms : ByteArray := prog_14_method_16_code
def yX12_forms : MethodName := ⟨RX12, "forms", "(IIIII)V"⟩
abbrev cX12_told : ByteArray := prog_14_method_17_code
def yX12_told : MethodName := ⟨RX12, "told", "(II)I"⟩
abbrev cX12_taken : ByteArray := prog_14_method_18_code
def yX12_taken : MethodName := ⟨RX12, "taken", "(II)I"⟩
abbrev cX12_form : ByteArray := prog_14_method_19_code
def yX12_form : MethodName := ⟨RX12, "form", "(III)I"⟩
abbrev cX12_holes : ByteArray := prog_14_method_20_code
def yX12_holes : MethodName := ⟨RX12, "holes", "(I)I"⟩
abbrev cX12_ofHole : ByteArray := prog_14_method_21_code
def yX12_ofHole : MethodName := ⟨RX12, "ofHole", "(III)I"⟩
abbrev cX12_canBe : ByteArray := prog_14_method_22_code
def yX12_canBe : MethodName := ⟨RX12, "canBe", "(III)Z"⟩
abbrev cX12_here : ByteArray := prog_14_method_23_code
def yX12_here : MethodName := ⟨RX12, "here", "(I)I"⟩
abbrev cX12_isDigit : ByteArray := prog_14_method_24_code
def yX12_isDigit : MethodName := ⟨RX12, "isDigit", "(II)Z"⟩
abbrev cX12_isBlank : ByteArray := prog_14_method_25_code
def yX12_isBlank : MethodName := ⟨RX12, "isBlank", "(I)Z"⟩
abbrev cX12_reads : ByteArray := prog_14_method_26_code
def yX12_reads : MethodName := ⟨RX12, "reads", "(III)V"⟩
abbrev cX12_readsWord : ByteArray := prog_14_method_27_code
def yX12_readsWord : MethodName := ⟨RX12, "readsWord", "(I)V"⟩
abbrev cX12_readsFrame : ByteArray := prog_14_method_28_code
def yX12_readsFrame : MethodName := ⟨RX12, "readsFrame", "(I)V"⟩
abbrev cX12_frame : ByteArray := prog_14_method_29_code
def yX12_frame : MethodName := ⟨RX12, "frame", "()I"⟩
abbrev cX12_isFrame : ByteArray := prog_14_method_30_code
def yX12_isFrame : MethodName := ⟨RX12, "isFrame", "(I)Z"⟩
abbrev cX12_able : ByteArray := prog_14_method_31_code
def yX12_able : MethodName := ⟨RX12, "able", "(II)I"⟩
abbrev cX12_hole : ByteArray := prog_14_method_32_code
def yX12_hole : MethodName := ⟨RX12, "hole", "(III)I"⟩
abbrev cX12_holeOf : ByteArray := prog_14_method_33_code
def yX12_holeOf : MethodName := ⟨RX12, "holeOf", "(II)I"⟩
abbrev cX12_isFilled : ByteArray := prog_14_method_34_code
def yX12_isFilled : MethodName := ⟨RX12, "isFilled", "(II[I)Z"⟩
abbrev cX12_formsAt : ByteArray := prog_14_method_35_code
def yX12_formsAt : MethodName := ⟨RX12, "formsAt", "(III[III)V"⟩
abbrev cX12_says : ByteArray := prog_14_method_36_code
def yX12_says : MethodName := ⟨RX12, "says", "(II[III)V"⟩
abbrev cX12_numbers : ByteArray := prog_14_method_37_code
def yX12_numbers : MethodName := ⟨RX12, "numbers", "()I"⟩
abbrev cX12_saysDesk : ByteArray := prog_14_method_38_code
def yX12_saysDesk : MethodName := ⟨RX12, "saysDesk", "(II)V"⟩
abbrev cX12_saysDesk_ : ByteArray := prog_14_method_39_code
def yX12_saysDesk_ : MethodName := ⟨RX12, "saysDesk", "()V"⟩
abbrev cX12_desk : ByteArray := prog_14_method_40_code
def yX12_desk : MethodName := ⟨RX12, "desk", "(II)I"⟩
abbrev cX12_choose : ByteArray := prog_14_method_41_code
def yX12_choose : MethodName := ⟨RX12, "choose", "(II)I"⟩
abbrev cX12_number : ByteArray := prog_14_method_42_code
def yX12_number : MethodName := ⟨RX12, "number", "(II)I"⟩
abbrev cX12_said : ByteArray := prog_14_method_43_code
def yX12_said : MethodName := ⟨RX12, "said", "(I)I"⟩
abbrev cX12_spoken : ByteArray := prog_14_method_44_code
def yX12_spoken : MethodName := ⟨RX12, "spoken", "(I)I"⟩
abbrev cX12_text : ByteArray := prog_14_method_45_code
def yX12_text : MethodName := ⟨RX12, "text", "()I"⟩
abbrev cX12_takesText : ByteArray := prog_14_method_46_code
def yX12_takesText : MethodName := ⟨RX12, "takesText", "()V"⟩
abbrev cX12_parts : ByteArray := prog_14_method_47_code
def yX12_parts : MethodName := ⟨RX12, "parts", "()V"⟩
abbrev cX12_isLike : ByteArray := prog_14_method_48_code
def yX12_isLike : MethodName := ⟨RX12, "isLike", "(I)Z"⟩
abbrev cX12_apart : ByteArray := prog_14_method_49_code
def yX12_apart : MethodName := ⟨RX12, "apart", "(I)I"⟩
abbrev cX12_atHole : ByteArray := prog_14_method_50_code
def yX12_atHole : MethodName := ⟨RX12, "atHole", "(IIIIIZ)I"⟩
abbrev cX12_byNoun : ByteArray := prog_14_method_51_code
def yX12_byNoun : MethodName := ⟨RX12, "byNoun", "(IIIIIZ)I"⟩
abbrev cX12_byGroup : ByteArray := prog_14_method_52_code
def yX12_byGroup : MethodName := ⟨RX12, "byGroup", "(IIIZ)I"⟩
abbrev cX12_byFrame : ByteArray := prog_14_method_53_code
def yX12_byFrame : MethodName := ⟨RX12, "byFrame", "(IIZ)I"⟩
abbrev cX12_counted : ByteArray := prog_14_method_54_code
def yX12_counted : MethodName := ⟨RX12, "counted", "()I"⟩
abbrev cX12_readings : ByteArray := prog_14_method_55_code
def yX12_readings : MethodName := ⟨RX12, "readings", "(I)I"⟩
abbrev cX12_near : ByteArray := prog_14_method_56_code
def yX12_near : MethodName := ⟨RX12, "near", "(I)I"⟩
abbrev cX12_draws : ByteArray := prog_14_method_57_code
def yX12_draws : MethodName := ⟨RX12, "draws", "(I)I"⟩
abbrev cX12_ableAt : ByteArray := prog_14_method_58_code
def yX12_ableAt : MethodName := ⟨RX12, "ableAt", "(III)I"⟩
abbrev cX12_drawsLine : ByteArray := prog_14_method_59_code
def yX12_drawsLine : MethodName := ⟨RX12, "drawsLine", "(I)V"⟩
abbrev cX12_drawn : ByteArray := prog_14_method_60_code
def yX12_drawn : MethodName := ⟨RX12, "drawn", "(II)I"⟩
abbrev cX12_chance : ByteArray := prog_14_method_61_code
def yX12_chance : MethodName := ⟨RX12, "chance", "(III)I"⟩
abbrev cX12_tray : ByteArray := prog_14_method_62_code
def yX12_tray : MethodName := ⟨RX12, "tray", "(III)I"⟩
abbrev cX12_wrongPlace : ByteArray := prog_14_method_63_code
def yX12_wrongPlace : MethodName := ⟨RX12, "wrongPlace", "(II)I"⟩
abbrev cX12_lays : ByteArray := prog_14_method_64_code
def yX12_lays : MethodName := ⟨RX12, "lays", "(III)I"⟩
abbrev cX12_laid : ByteArray := prog_14_method_65_code
def yX12_laid : MethodName := ⟨RX12, "laid", "(II)I"⟩
abbrev cX12_like : ByteArray := prog_14_method_66_code
def yX12_like : MethodName := ⟨RX12, "like", "(II)I"⟩
abbrev cX12_unlike : ByteArray := prog_14_method_67_code
def yX12_unlike : MethodName := ⟨RX12, "unlike", "(I)I"⟩
abbrev cX12_tells : ByteArray := prog_14_method_68_code
def yX12_tells : MethodName := ⟨RX12, "tells", "(II)I"⟩
abbrev cX12_image : ByteArray := prog_14_method_69_code
def yX12_image : MethodName := ⟨RX12, "image", "()I"⟩
abbrev cX12_back : ByteArray := prog_14_method_70_code
def yX12_back : MethodName := ⟨RX12, "back", "()I"⟩
abbrev cX12_count : ByteArray := prog_14_method_71_code
def yX12_count : MethodName := ⟨RX12, "count", "(I)I"⟩
abbrev cX12_isSheet : ByteArray := prog_14_method_72_code
def yX12_isSheet : MethodName := ⟨RX12, "isSheet", "(I)Z"⟩
abbrev cX12_sheet : ByteArray := prog_14_method_73_code
def yX12_sheet : MethodName := ⟨RX12, "sheet", "(III)I"⟩
abbrev cX12_put : ByteArray := prog_14_method_74_code
def yX12_put : MethodName := ⟨RX12, "put", "(III)I"⟩
abbrev cX12_copy : ByteArray := prog_14_method_75_code
def yX12_copy : MethodName := ⟨RX12, "copy", "(IIIII)I"⟩
def RJxf58ca : String := "java/lang/Float"
abbrev cJxf58ca_isNaN_12338 : ByteArray := prog_15_method_6_code
def yJxf58ca_isNaN_12338 : MethodName := ⟨RJxf58ca, "isNaN", "(F)Z"⟩
abbrev cJxf58ca_floatToIntBits_5c35a : ByteArray := prog_15_method_24_code
def yJxf58ca_floatToIntBits_5c35a : MethodName := ⟨RJxf58ca, "floatToIntBits", "(F)I"⟩
def RJ9 : String := "java/lang/Math"
abbrev cJ9_max_7cf53 : ByteArray := prog_16_method_65_code
def yJ9_max_7cf53 : MethodName := ⟨RJ9, "max", "(II)I"⟩
abbrev cJ9_min_7cf53 : ByteArray := prog_16_method_69_code
def yJ9_min_7cf53 : MethodName := ⟨RJ9, "min", "(II)I"⟩
def RJ7 : String := "java/util/Arrays"
abbrev cJ7_fill_53178 : ByteArray := prog_19_method_103_code
def yJ7_fill_53178 : MethodName := ⟨RJ7, "fill", "([II)V"⟩
def RL : String := "PhraseMoodsLaw"
abbrev cL_law : ByteArray := code
def yL_law : MethodName := ⟨RL, "law", "([I)Z"⟩

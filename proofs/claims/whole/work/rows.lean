section
-- ===== PART A: goes FIRST, ahead of the names: the tables' words, and 'selects' of the private methods out of them =====
/-- a private method of a class that the tables say can be made, by its rows of tables_1 -/
def lw_okq (q : MethodName × Nat) : Prop := (q.1.cls ≠ "java/lang/invoke/MethodHandle" ∧ q.1.cls ≠ "java/lang/invoke/VarHandle") ∧ Cond.instantiable q.1.cls q.2 ∈ tables_1 ∧ Cond.privateMethod q.1 ∈ tables_1 ∧ Cond.instanceMethod q.1 ∈ tables_1
theorem lw_p0 : lw_okq (⟨"StencilHouse$Reader", "clear", "()V"⟩, 11) := ⟨⟨by decide +kernel, by decide +kernel⟩, List.mem_of_getElem? (i := 200) (by decide +kernel), List.mem_of_getElem? (i := 402) (by decide +kernel), List.mem_of_getElem? (i := 403) (by decide +kernel)⟩
theorem lw_p1 : lw_okq (⟨"StencilHouse$Tokens", "nextWord", "()V"⟩, 6) := ⟨⟨by decide +kernel, by decide +kernel⟩, List.mem_of_getElem? (i := 214) (by decide +kernel), List.mem_of_getElem? (i := 431) (by decide +kernel), List.mem_of_getElem? (i := 432) (by decide +kernel)⟩
theorem lw_p2 : lw_okq (⟨"StencilHouse$Tokens", "nextNumber", "()V"⟩, 6) := ⟨⟨by decide +kernel, by decide +kernel⟩, List.mem_of_getElem? (i := 214) (by decide +kernel), List.mem_of_getElem? (i := 438) (by decide +kernel), List.mem_of_getElem? (i := 439) (by decide +kernel)⟩
theorem lw_p3 : lw_okq (⟨"StencilHouse$Reader", "readLine", "(I)Z"⟩, 11) := ⟨⟨by decide +kernel, by decide +kernel⟩, List.mem_of_getElem? (i := 200) (by decide +kernel), List.mem_of_getElem? (i := 442) (by decide +kernel), List.mem_of_getElem? (i := 443) (by decide +kernel)⟩
theorem lw_p4 : lw_okq (⟨"StencilHouse$Reader", "wordOfSort", "(I)I"⟩, 11) := ⟨⟨by decide +kernel, by decide +kernel⟩, List.mem_of_getElem? (i := 200) (by decide +kernel), List.mem_of_getElem? (i := 446) (by decide +kernel), List.mem_of_getElem? (i := 447) (by decide +kernel)⟩
theorem lw_p5 : lw_okq (⟨"StencilHouse$Reader", "hasRoomFor", "(I)Z"⟩, 11) := ⟨⟨by decide +kernel, by decide +kernel⟩, List.mem_of_getElem? (i := 200) (by decide +kernel), List.mem_of_getElem? (i := 520) (by decide +kernel), List.mem_of_getElem? (i := 521) (by decide +kernel)⟩
theorem lw_p6 : lw_okq (⟨"StencilHouse$Reader", "note", "(II)V"⟩, 11) := ⟨⟨by decide +kernel, by decide +kernel⟩, List.mem_of_getElem? (i := 200) (by decide +kernel), List.mem_of_getElem? (i := 524) (by decide +kernel), List.mem_of_getElem? (i := 525) (by decide +kernel)⟩
theorem lw_p7 : lw_okq (⟨"StencilHouse$Reader", "takeNumber", "(II)V"⟩, 11) := ⟨⟨by decide +kernel, by decide +kernel⟩, List.mem_of_getElem? (i := 200) (by decide +kernel), List.mem_of_getElem? (i := 531) (by decide +kernel), List.mem_of_getElem? (i := 532) (by decide +kernel)⟩
theorem lw_p8 : lw_okq (⟨"StencilHouse$Reader", "store", "(II)V"⟩, 11) := ⟨⟨by decide +kernel, by decide +kernel⟩, List.mem_of_getElem? (i := 200) (by decide +kernel), List.mem_of_getElem? (i := 539) (by decide +kernel), List.mem_of_getElem? (i := 540) (by decide +kernel)⟩
theorem lw_p9 : lw_okq (⟨"StencilHouse$Reader", "storeSheet", "(I)V"⟩, 11) := ⟨⟨by decide +kernel, by decide +kernel⟩, List.mem_of_getElem? (i := 200) (by decide +kernel), List.mem_of_getElem? (i := 543) (by decide +kernel), List.mem_of_getElem? (i := 544) (by decide +kernel)⟩
theorem lw_p10 : lw_okq (⟨"StencilHouse$Reader", "storeWear", "(II)V"⟩, 11) := ⟨⟨by decide +kernel, by decide +kernel⟩, List.mem_of_getElem? (i := 200) (by decide +kernel), List.mem_of_getElem? (i := 547) (by decide +kernel), List.mem_of_getElem? (i := 548) (by decide +kernel)⟩
theorem lw_p11 : lw_okq (⟨"StencilHouse$Reader", "storeRow", "(I)V"⟩, 11) := ⟨⟨by decide +kernel, by decide +kernel⟩, List.mem_of_getElem? (i := 200) (by decide +kernel), List.mem_of_getElem? (i := 551) (by decide +kernel), List.mem_of_getElem? (i := 552) (by decide +kernel)⟩
theorem lw_p12 : lw_okq (⟨"StencilHouse$Reader", "checkShop", "(I)V"⟩, 11) := ⟨⟨by decide +kernel, by decide +kernel⟩, List.mem_of_getElem? (i := 200) (by decide +kernel), List.mem_of_getElem? (i := 567) (by decide +kernel), List.mem_of_getElem? (i := 568) (by decide +kernel)⟩
theorem lw_p13 : lw_okq (⟨"StencilHouse$Reader", "cutRow", "(III)V"⟩, 11) := ⟨⟨by decide +kernel, by decide +kernel⟩, List.mem_of_getElem? (i := 200) (by decide +kernel), List.mem_of_getElem? (i := 571) (by decide +kernel), List.mem_of_getElem? (i := 572) (by decide +kernel)⟩
theorem lw_p14 : lw_okq (⟨"StencilHouse$Shop", "toRight", "(I)I"⟩, 11) := ⟨⟨by decide +kernel, by decide +kernel⟩, List.mem_of_getElem? (i := 42) (by decide +kernel), List.mem_of_getElem? (i := 595) (by decide +kernel), List.mem_of_getElem? (i := 596) (by decide +kernel)⟩
theorem lw_p15 : lw_okq (⟨"StencilHouse$Wall", "act", "(IIII)Z"⟩, 12) := ⟨⟨by decide +kernel, by decide +kernel⟩, List.mem_of_getElem? (i := 282) (by decide +kernel), List.mem_of_getElem? (i := 671) (by decide +kernel), List.mem_of_getElem? (i := 672) (by decide +kernel)⟩
def lw_privs_1 : List (MethodName × Nat) := [(⟨"StencilHouse$Reader", "clear", "()V"⟩, 11), (⟨"StencilHouse$Tokens", "nextWord", "()V"⟩, 6), (⟨"StencilHouse$Tokens", "nextNumber", "()V"⟩, 6), (⟨"StencilHouse$Reader", "readLine", "(I)Z"⟩, 11), (⟨"StencilHouse$Reader", "wordOfSort", "(I)I"⟩, 11), (⟨"StencilHouse$Reader", "hasRoomFor", "(I)Z"⟩, 11), (⟨"StencilHouse$Reader", "note", "(II)V"⟩, 11), (⟨"StencilHouse$Reader", "takeNumber", "(II)V"⟩, 11), (⟨"StencilHouse$Reader", "store", "(II)V"⟩, 11), (⟨"StencilHouse$Reader", "storeSheet", "(I)V"⟩, 11), (⟨"StencilHouse$Reader", "storeWear", "(II)V"⟩, 11), (⟨"StencilHouse$Reader", "storeRow", "(I)V"⟩, 11), (⟨"StencilHouse$Reader", "checkShop", "(I)V"⟩, 11), (⟨"StencilHouse$Reader", "cutRow", "(III)V"⟩, 11), (⟨"StencilHouse$Shop", "toRight", "(I)I"⟩, 11), (⟨"StencilHouse$Wall", "act", "(IIII)Z"⟩, 12)]
theorem lw_r1 : ∀ q ∈ lw_privs_1, lw_okq q := List.forall_mem_cons.mpr ⟨lw_p0, List.forall_mem_cons.mpr ⟨lw_p1, List.forall_mem_cons.mpr ⟨lw_p2, List.forall_mem_cons.mpr ⟨lw_p3, List.forall_mem_cons.mpr ⟨lw_p4, List.forall_mem_cons.mpr ⟨lw_p5, List.forall_mem_cons.mpr ⟨lw_p6, List.forall_mem_cons.mpr ⟨lw_p7, List.forall_mem_cons.mpr ⟨lw_p8, List.forall_mem_cons.mpr ⟨lw_p9, List.forall_mem_cons.mpr ⟨lw_p10, List.forall_mem_cons.mpr ⟨lw_p11, List.forall_mem_cons.mpr ⟨lw_p12, List.forall_mem_cons.mpr ⟨lw_p13, List.forall_mem_cons.mpr ⟨lw_p14, List.forall_mem_cons.mpr ⟨lw_p15, fun _ h => absurd h List.not_mem_nil⟩⟩⟩⟩⟩⟩⟩⟩⟩⟩⟩⟩⟩⟩⟩⟩
theorem lw_p16 : lw_okq (⟨"StencilHouse$Wall", "washOff", "(I)Z"⟩, 12) := ⟨⟨by decide +kernel, by decide +kernel⟩, List.mem_of_getElem? (i := 282) (by decide +kernel), List.mem_of_getElem? (i := 675) (by decide +kernel), List.mem_of_getElem? (i := 676) (by decide +kernel)⟩
theorem lw_p17 : lw_okq (⟨"StencilHouse$Wall", "sprayOn", "(II)Z"⟩, 12) := ⟨⟨by decide +kernel, by decide +kernel⟩, List.mem_of_getElem? (i := 282) (by decide +kernel), List.mem_of_getElem? (i := 686) (by decide +kernel), List.mem_of_getElem? (i := 687) (by decide +kernel)⟩
theorem lw_p18 : lw_okq (⟨"StencilHouse$Wall", "openNow", "(I)I"⟩, 12) := ⟨⟨by decide +kernel, by decide +kernel⟩, List.mem_of_getElem? (i := 282) (by decide +kernel), List.mem_of_getElem? (i := 690) (by decide +kernel), List.mem_of_getElem? (i := 691) (by decide +kernel)⟩
theorem lw_p19 : lw_okq (⟨"StencilHouse$Wall", "overlay", "(II)V"⟩, 12) := ⟨⟨by decide +kernel, by decide +kernel⟩, List.mem_of_getElem? (i := 282) (by decide +kernel), List.mem_of_getElem? (i := 699) (by decide +kernel), List.mem_of_getElem? (i := 700) (by decide +kernel)⟩
theorem lw_p20 : lw_okq (⟨"StencilHouse$Wall", "slideTo", "(III)Z"⟩, 12) := ⟨⟨by decide +kernel, by decide +kernel⟩, List.mem_of_getElem? (i := 282) (by decide +kernel), List.mem_of_getElem? (i := 711) (by decide +kernel), List.mem_of_getElem? (i := 712) (by decide +kernel)⟩
theorem lw_p21 : lw_okq (⟨"StencilHouse$Wall", "patchAt", "(III)Z"⟩, 12) := ⟨⟨by decide +kernel, by decide +kernel⟩, List.mem_of_getElem? (i := 282) (by decide +kernel), List.mem_of_getElem? (i := 715) (by decide +kernel), List.mem_of_getElem? (i := 716) (by decide +kernel)⟩
theorem lw_p22 : lw_okq (⟨"StencilHouse$Wall", "colourOf", "(I)I"⟩, 12) := ⟨⟨by decide +kernel, by decide +kernel⟩, List.mem_of_getElem? (i := 282) (by decide +kernel), List.mem_of_getElem? (i := 735) (by decide +kernel), List.mem_of_getElem? (i := 736) (by decide +kernel)⟩
theorem lw_p23 : lw_okq (⟨"StencilHouse$Orders", "findSprays", "(LStencilHouse$Shop;I)Z"⟩, 7) := ⟨⟨by decide +kernel, by decide +kernel⟩, List.mem_of_getElem? (i := 330) (by decide +kernel), List.mem_of_getElem? (i := 781) (by decide +kernel), List.mem_of_getElem? (i := 782) (by decide +kernel)⟩
theorem lw_p24 : lw_okq (⟨"StencilHouse$Orders", "begin", "(II)V"⟩, 7) := ⟨⟨by decide +kernel, by decide +kernel⟩, List.mem_of_getElem? (i := 330) (by decide +kernel), List.mem_of_getElem? (i := 785) (by decide +kernel), List.mem_of_getElem? (i := 786) (by decide +kernel)⟩
theorem lw_p25 : lw_okq (⟨"StencilHouse$Orders", "fill", "(II)V"⟩, 7) := ⟨⟨by decide +kernel, by decide +kernel⟩, List.mem_of_getElem? (i := 330) (by decide +kernel), List.mem_of_getElem? (i := 790) (by decide +kernel), List.mem_of_getElem? (i := 791) (by decide +kernel)⟩
theorem lw_p26 : lw_okq (⟨"StencilHouse$Orders", "leastUnused", "(II)I"⟩, 7) := ⟨⟨by decide +kernel, by decide +kernel⟩, List.mem_of_getElem? (i := 330) (by decide +kernel), List.mem_of_getElem? (i := 794) (by decide +kernel), List.mem_of_getElem? (i := 795) (by decide +kernel)⟩
theorem lw_p27 : lw_okq (⟨"StencilHouse$Orders", "makesWanted", "(LStencilHouse$Shop;)Z"⟩, 7) := ⟨⟨by decide +kernel, by decide +kernel⟩, List.mem_of_getElem? (i := 330) (by decide +kernel), List.mem_of_getElem? (i := 798) (by decide +kernel), List.mem_of_getElem? (i := 799) (by decide +kernel)⟩
theorem lw_p28 : lw_okq (⟨"StencilHouse$Orders", "colourOfAll", "(I)I"⟩, 7) := ⟨⟨by decide +kernel, by decide +kernel⟩, List.mem_of_getElem? (i := 330) (by decide +kernel), List.mem_of_getElem? (i := 802) (by decide +kernel), List.mem_of_getElem? (i := 803) (by decide +kernel)⟩
theorem lw_p29 : lw_okq (⟨"StencilHouse$Orders", "isLessThanFound", "()Z"⟩, 7) := ⟨⟨by decide +kernel, by decide +kernel⟩, List.mem_of_getElem? (i := 330) (by decide +kernel), List.mem_of_getElem? (i := 806) (by decide +kernel), List.mem_of_getElem? (i := 807) (by decide +kernel)⟩
theorem lw_p30 : lw_okq (⟨"StencilHouse$Orders", "advance", "()Z"⟩, 7) := ⟨⟨by decide +kernel, by decide +kernel⟩, List.mem_of_getElem? (i := 330) (by decide +kernel), List.mem_of_getElem? (i := 811) (by decide +kernel), List.mem_of_getElem? (i := 812) (by decide +kernel)⟩
theorem lw_p31 : lw_okq (⟨"StencilHouse$Orders", "clearTops", "()V"⟩, 7) := ⟨⟨by decide +kernel, by decide +kernel⟩, List.mem_of_getElem? (i := 330) (by decide +kernel), List.mem_of_getElem? (i := 908) (by decide +kernel), List.mem_of_getElem? (i := 909) (by decide +kernel)⟩
def lw_privs_2 : List (MethodName × Nat) := [(⟨"StencilHouse$Wall", "washOff", "(I)Z"⟩, 12), (⟨"StencilHouse$Wall", "sprayOn", "(II)Z"⟩, 12), (⟨"StencilHouse$Wall", "openNow", "(I)I"⟩, 12), (⟨"StencilHouse$Wall", "overlay", "(II)V"⟩, 12), (⟨"StencilHouse$Wall", "slideTo", "(III)Z"⟩, 12), (⟨"StencilHouse$Wall", "patchAt", "(III)Z"⟩, 12), (⟨"StencilHouse$Wall", "colourOf", "(I)I"⟩, 12), (⟨"StencilHouse$Orders", "findSprays", "(LStencilHouse$Shop;I)Z"⟩, 7), (⟨"StencilHouse$Orders", "begin", "(II)V"⟩, 7), (⟨"StencilHouse$Orders", "fill", "(II)V"⟩, 7), (⟨"StencilHouse$Orders", "leastUnused", "(II)I"⟩, 7), (⟨"StencilHouse$Orders", "makesWanted", "(LStencilHouse$Shop;)Z"⟩, 7), (⟨"StencilHouse$Orders", "colourOfAll", "(I)I"⟩, 7), (⟨"StencilHouse$Orders", "isLessThanFound", "()Z"⟩, 7), (⟨"StencilHouse$Orders", "advance", "()Z"⟩, 7), (⟨"StencilHouse$Orders", "clearTops", "()V"⟩, 7)]
theorem lw_r2 : ∀ q ∈ lw_privs_2, lw_okq q := List.forall_mem_cons.mpr ⟨lw_p16, List.forall_mem_cons.mpr ⟨lw_p17, List.forall_mem_cons.mpr ⟨lw_p18, List.forall_mem_cons.mpr ⟨lw_p19, List.forall_mem_cons.mpr ⟨lw_p20, List.forall_mem_cons.mpr ⟨lw_p21, List.forall_mem_cons.mpr ⟨lw_p22, List.forall_mem_cons.mpr ⟨lw_p23, List.forall_mem_cons.mpr ⟨lw_p24, List.forall_mem_cons.mpr ⟨lw_p25, List.forall_mem_cons.mpr ⟨lw_p26, List.forall_mem_cons.mpr ⟨lw_p27, List.forall_mem_cons.mpr ⟨lw_p28, List.forall_mem_cons.mpr ⟨lw_p29, List.forall_mem_cons.mpr ⟨lw_p30, List.forall_mem_cons.mpr ⟨lw_p31, fun _ h => absurd h List.not_mem_nil⟩⟩⟩⟩⟩⟩⟩⟩⟩⟩⟩⟩⟩⟩⟩⟩
theorem lw_p32 : lw_okq (⟨"StencilHouse$Orders", "fitsAll", "(LStencilHouse$Shop;LStencilHouse$Marks;)Z"⟩, 7) := ⟨⟨by decide +kernel, by decide +kernel⟩, List.mem_of_getElem? (i := 330) (by decide +kernel), List.mem_of_getElem? (i := 912) (by decide +kernel), List.mem_of_getElem? (i := 913) (by decide +kernel)⟩
theorem lw_p33 : lw_okq (⟨"StencilHouse$Orders", "topAt", "(LStencilHouse$Shop;I)I"⟩, 7) := ⟨⟨by decide +kernel, by decide +kernel⟩, List.mem_of_getElem? (i := 330) (by decide +kernel), List.mem_of_getElem? (i := 917) (by decide +kernel), List.mem_of_getElem? (i := 918) (by decide +kernel)⟩
theorem lw_p34 : lw_okq (⟨"StencilHouse$Orders", "asNumber", "()I"⟩, 7) := ⟨⟨by decide +kernel, by decide +kernel⟩, List.mem_of_getElem? (i := 330) (by decide +kernel), List.mem_of_getElem? (i := 925) (by decide +kernel), List.mem_of_getElem? (i := 926) (by decide +kernel)⟩
theorem lw_p35 : lw_okq (⟨"StencilHouse$Orders", "lastItem", "()I"⟩, 7) := ⟨⟨by decide +kernel, by decide +kernel⟩, List.mem_of_getElem? (i := 330) (by decide +kernel), List.mem_of_getElem? (i := 929) (by decide +kernel), List.mem_of_getElem? (i := 930) (by decide +kernel)⟩
theorem lw_p36 : lw_okq (⟨"StencilHouse$Orders", "countTops", "(LStencilHouse$Shop;)V"⟩, 7) := ⟨⟨by decide +kernel, by decide +kernel⟩, List.mem_of_getElem? (i := 330) (by decide +kernel), List.mem_of_getElem? (i := 933) (by decide +kernel), List.mem_of_getElem? (i := 934) (by decide +kernel)⟩
theorem lw_p37 : lw_okq (⟨"StencilHouse$Orders", "cellToAsk", "(LStencilHouse$Shop;)I"⟩, 7) := ⟨⟨by decide +kernel, by decide +kernel⟩, List.mem_of_getElem? (i := 330) (by decide +kernel), List.mem_of_getElem? (i := 937) (by decide +kernel), List.mem_of_getElem? (i := 938) (by decide +kernel)⟩
theorem lw_p38 : lw_okq (⟨"StencilHouse$Wall", "actDrawn", "()V"⟩, 12) := ⟨⟨by decide +kernel, by decide +kernel⟩, List.mem_of_getElem? (i := 282) (by decide +kernel), List.mem_of_getElem? (i := 950) (by decide +kernel), List.mem_of_getElem? (i := 951) (by decide +kernel)⟩
theorem lw_p39 : lw_okq (⟨"StencilHouse$Wall", "draw", "(I)I"⟩, 12) := ⟨⟨by decide +kernel, by decide +kernel⟩, List.mem_of_getElem? (i := 282) (by decide +kernel), List.mem_of_getElem? (i := 954) (by decide +kernel), List.mem_of_getElem? (i := 955) (by decide +kernel)⟩
theorem lw_p40 : lw_okq (⟨"StencilHouse$Wall", "actDrawnWith", "(II)V"⟩, 12) := ⟨⟨by decide +kernel, by decide +kernel⟩, List.mem_of_getElem? (i := 282) (by decide +kernel), List.mem_of_getElem? (i := 959) (by decide +kernel), List.mem_of_getElem? (i := 960) (by decide +kernel)⟩
theorem lw_p41 : lw_okq (⟨"StencilHouse$Orders", "shownCount", "(LStencilHouse$Shop;)I"⟩, 7) := ⟨⟨by decide +kernel, by decide +kernel⟩, List.mem_of_getElem? (i := 330) (by decide +kernel), List.mem_of_getElem? (i := 1055) (by decide +kernel), List.mem_of_getElem? (i := 1056) (by decide +kernel)⟩
theorem lw_p42 : lw_okq (⟨"StencilHouseModel", "four", "(I)V"⟩, 51) := ⟨⟨by decide +kernel, by decide +kernel⟩, List.mem_of_getElem? (i := 1120) (by decide +kernel), List.mem_of_getElem? (i := 1286) (by decide +kernel), List.mem_of_getElem? (i := 1287) (by decide +kernel)⟩
theorem lw_p43 : lw_okq (⟨"StencilHouseModel", "is", "(II)Z"⟩, 51) := ⟨⟨by decide +kernel, by decide +kernel⟩, List.mem_of_getElem? (i := 1120) (by decide +kernel), List.mem_of_getElem? (i := 1301) (by decide +kernel), List.mem_of_getElem? (i := 1302) (by decide +kernel)⟩
theorem lw_p44 : lw_okq (⟨"StencilHouseModel", "readText", "(I)Z"⟩, 51) := ⟨⟨by decide +kernel, by decide +kernel⟩, List.mem_of_getElem? (i := 1120) (by decide +kernel), List.mem_of_getElem? (i := 1305) (by decide +kernel), List.mem_of_getElem? (i := 1306) (by decide +kernel)⟩
theorem lw_p45 : lw_okq (⟨"StencilHouseModel", "token", "()V"⟩, 51) := ⟨⟨by decide +kernel, by decide +kernel⟩, List.mem_of_getElem? (i := 1120) (by decide +kernel), List.mem_of_getElem? (i := 1309) (by decide +kernel), List.mem_of_getElem? (i := 1310) (by decide +kernel)⟩
theorem lw_p46 : lw_okq (⟨"StencilHouseModel", "see", "()I"⟩, 51) := ⟨⟨by decide +kernel, by decide +kernel⟩, List.mem_of_getElem? (i := 1120) (by decide +kernel), List.mem_of_getElem? (i := 1313) (by decide +kernel), List.mem_of_getElem? (i := 1314) (by decide +kernel)⟩
theorem lw_p47 : lw_okq (⟨"StencilHouseModel", "allLines", "(I)Z"⟩, 51) := ⟨⟨by decide +kernel, by decide +kernel⟩, List.mem_of_getElem? (i := 1120) (by decide +kernel), List.mem_of_getElem? (i := 1317) (by decide +kernel), List.mem_of_getElem? (i := 1318) (by decide +kernel)⟩
def lw_privs_3 : List (MethodName × Nat) := [(⟨"StencilHouse$Orders", "fitsAll", "(LStencilHouse$Shop;LStencilHouse$Marks;)Z"⟩, 7), (⟨"StencilHouse$Orders", "topAt", "(LStencilHouse$Shop;I)I"⟩, 7), (⟨"StencilHouse$Orders", "asNumber", "()I"⟩, 7), (⟨"StencilHouse$Orders", "lastItem", "()I"⟩, 7), (⟨"StencilHouse$Orders", "countTops", "(LStencilHouse$Shop;)V"⟩, 7), (⟨"StencilHouse$Orders", "cellToAsk", "(LStencilHouse$Shop;)I"⟩, 7), (⟨"StencilHouse$Wall", "actDrawn", "()V"⟩, 12), (⟨"StencilHouse$Wall", "draw", "(I)I"⟩, 12), (⟨"StencilHouse$Wall", "actDrawnWith", "(II)V"⟩, 12), (⟨"StencilHouse$Orders", "shownCount", "(LStencilHouse$Shop;)I"⟩, 7), (⟨"StencilHouseModel", "four", "(I)V"⟩, 51), (⟨"StencilHouseModel", "is", "(II)Z"⟩, 51), (⟨"StencilHouseModel", "readText", "(I)Z"⟩, 51), (⟨"StencilHouseModel", "token", "()V"⟩, 51), (⟨"StencilHouseModel", "see", "()I"⟩, 51), (⟨"StencilHouseModel", "allLines", "(I)Z"⟩, 51)]
theorem lw_r3 : ∀ q ∈ lw_privs_3, lw_okq q := List.forall_mem_cons.mpr ⟨lw_p32, List.forall_mem_cons.mpr ⟨lw_p33, List.forall_mem_cons.mpr ⟨lw_p34, List.forall_mem_cons.mpr ⟨lw_p35, List.forall_mem_cons.mpr ⟨lw_p36, List.forall_mem_cons.mpr ⟨lw_p37, List.forall_mem_cons.mpr ⟨lw_p38, List.forall_mem_cons.mpr ⟨lw_p39, List.forall_mem_cons.mpr ⟨lw_p40, List.forall_mem_cons.mpr ⟨lw_p41, List.forall_mem_cons.mpr ⟨lw_p42, List.forall_mem_cons.mpr ⟨lw_p43, List.forall_mem_cons.mpr ⟨lw_p44, List.forall_mem_cons.mpr ⟨lw_p45, List.forall_mem_cons.mpr ⟨lw_p46, List.forall_mem_cons.mpr ⟨lw_p47, fun _ h => absurd h List.not_mem_nil⟩⟩⟩⟩⟩⟩⟩⟩⟩⟩⟩⟩⟩⟩⟩⟩
theorem lw_p48 : lw_okq (⟨"StencilHouseModel", "lineOf", "(IJI)Z"⟩, 51) := ⟨⟨by decide +kernel, by decide +kernel⟩, List.mem_of_getElem? (i := 1120) (by decide +kernel), List.mem_of_getElem? (i := 1321) (by decide +kernel), List.mem_of_getElem? (i := 1322) (by decide +kernel)⟩
theorem lw_p49 : lw_okq (⟨"StencilHouseModel", "shopLine", "(JI)Z"⟩, 51) := ⟨⟨by decide +kernel, by decide +kernel⟩, List.mem_of_getElem? (i := 1120) (by decide +kernel), List.mem_of_getElem? (i := 1325) (by decide +kernel), List.mem_of_getElem? (i := 1326) (by decide +kernel)⟩
theorem lw_p50 : lw_okq (⟨"StencilHouseModel", "sheetLine", "(I)Z"⟩, 51) := ⟨⟨by decide +kernel, by decide +kernel⟩, List.mem_of_getElem? (i := 1120) (by decide +kernel), List.mem_of_getElem? (i := 1330) (by decide +kernel), List.mem_of_getElem? (i := 1331) (by decide +kernel)⟩
theorem lw_p51 : lw_okq (⟨"StencilHouseModel", "full", "(III)V"⟩, 51) := ⟨⟨by decide +kernel, by decide +kernel⟩, List.mem_of_getElem? (i := 1120) (by decide +kernel), List.mem_of_getElem? (i := 1334) (by decide +kernel), List.mem_of_getElem? (i := 1335) (by decide +kernel)⟩
theorem lw_p52 : lw_okq (⟨"StencilHouseModel", "addsFault", "(II)V"⟩, 51) := ⟨⟨by decide +kernel, by decide +kernel⟩, List.mem_of_getElem? (i := 1120) (by decide +kernel), List.mem_of_getElem? (i := 1338) (by decide +kernel), List.mem_of_getElem? (i := 1339) (by decide +kernel)⟩
theorem lw_p53 : lw_okq (⟨"StencilHouseModel", "list", "(IIZ)V"⟩, 51) := ⟨⟨by decide +kernel, by decide +kernel⟩, List.mem_of_getElem? (i := 1120) (by decide +kernel), List.mem_of_getElem? (i := 1345) (by decide +kernel), List.mem_of_getElem? (i := 1346) (by decide +kernel)⟩
theorem lw_p54 : lw_okq (⟨"StencilHouseModel", "fails", "()Z"⟩, 51) := ⟨⟨by decide +kernel, by decide +kernel⟩, List.mem_of_getElem? (i := 1120) (by decide +kernel), List.mem_of_getElem? (i := 1352) (by decide +kernel), List.mem_of_getElem? (i := 1353) (by decide +kernel)⟩
theorem lw_p55 : lw_okq (⟨"StencilHouseModel", "take", "(III)Z"⟩, 51) := ⟨⟨by decide +kernel, by decide +kernel⟩, List.mem_of_getElem? (i := 1120) (by decide +kernel), List.mem_of_getElem? (i := 1356) (by decide +kernel), List.mem_of_getElem? (i := 1357) (by decide +kernel)⟩
theorem lw_p56 : lw_okq (⟨"StencilHouseModel", "dayLine", "(JI)Z"⟩, 51) := ⟨⟨by decide +kernel, by decide +kernel⟩, List.mem_of_getElem? (i := 1120) (by decide +kernel), List.mem_of_getElem? (i := 1363) (by decide +kernel), List.mem_of_getElem? (i := 1364) (by decide +kernel)⟩
theorem lw_p57 : lw_okq (⟨"StencilHouseModel", "deedBy", "(J)I"⟩, 51) := ⟨⟨by decide +kernel, by decide +kernel⟩, List.mem_of_getElem? (i := 1120) (by decide +kernel), List.mem_of_getElem? (i := 1367) (by decide +kernel), List.mem_of_getElem? (i := 1368) (by decide +kernel)⟩
theorem lw_p58 : lw_okq (⟨"StencilHouseModel", "keepRow", "(I)V"⟩, 51) := ⟨⟨by decide +kernel, by decide +kernel⟩, List.mem_of_getElem? (i := 1120) (by decide +kernel), List.mem_of_getElem? (i := 1377) (by decide +kernel), List.mem_of_getElem? (i := 1378) (by decide +kernel)⟩
theorem lw_p59 : lw_okq (⟨"StencilHouseModel", "pictureLine", "(JI)Z"⟩, 51) := ⟨⟨by decide +kernel, by decide +kernel⟩, List.mem_of_getElem? (i := 1120) (by decide +kernel), List.mem_of_getElem? (i := 1381) (by decide +kernel), List.mem_of_getElem? (i := 1382) (by decide +kernel)⟩
theorem lw_p60 : lw_okq (⟨"StencilHouseModel", "markLine", "(JI)Z"⟩, 51) := ⟨⟨by decide +kernel, by decide +kernel⟩, List.mem_of_getElem? (i := 1120) (by decide +kernel), List.mem_of_getElem? (i := 1386) (by decide +kernel), List.mem_of_getElem? (i := 1387) (by decide +kernel)⟩
theorem lw_p61 : lw_okq (⟨"StencilHouseModel", "cutsTooFar", "()Z"⟩, 51) := ⟨⟨by decide +kernel, by decide +kernel⟩, List.mem_of_getElem? (i := 1120) (by decide +kernel), List.mem_of_getElem? (i := 1392) (by decide +kernel), List.mem_of_getElem? (i := 1393) (by decide +kernel)⟩
theorem lw_p62 : lw_okq (⟨"StencilHouseModel", "storeOf", "(II)V"⟩, 51) := ⟨⟨by decide +kernel, by decide +kernel⟩, List.mem_of_getElem? (i := 1120) (by decide +kernel), List.mem_of_getElem? (i := 1396) (by decide +kernel), List.mem_of_getElem? (i := 1397) (by decide +kernel)⟩
theorem lw_p63 : lw_okq (⟨"StencilHouseModel", "store", "([III)V"⟩, 51) := ⟨⟨by decide +kernel, by decide +kernel⟩, List.mem_of_getElem? (i := 1120) (by decide +kernel), List.mem_of_getElem? (i := 1400) (by decide +kernel), List.mem_of_getElem? (i := 1401) (by decide +kernel)⟩
def lw_privs_4 : List (MethodName × Nat) := [(⟨"StencilHouseModel", "lineOf", "(IJI)Z"⟩, 51), (⟨"StencilHouseModel", "shopLine", "(JI)Z"⟩, 51), (⟨"StencilHouseModel", "sheetLine", "(I)Z"⟩, 51), (⟨"StencilHouseModel", "full", "(III)V"⟩, 51), (⟨"StencilHouseModel", "addsFault", "(II)V"⟩, 51), (⟨"StencilHouseModel", "list", "(IIZ)V"⟩, 51), (⟨"StencilHouseModel", "fails", "()Z"⟩, 51), (⟨"StencilHouseModel", "take", "(III)Z"⟩, 51), (⟨"StencilHouseModel", "dayLine", "(JI)Z"⟩, 51), (⟨"StencilHouseModel", "deedBy", "(J)I"⟩, 51), (⟨"StencilHouseModel", "keepRow", "(I)V"⟩, 51), (⟨"StencilHouseModel", "pictureLine", "(JI)Z"⟩, 51), (⟨"StencilHouseModel", "markLine", "(JI)Z"⟩, 51), (⟨"StencilHouseModel", "cutsTooFar", "()Z"⟩, 51), (⟨"StencilHouseModel", "storeOf", "(II)V"⟩, 51), (⟨"StencilHouseModel", "store", "([III)V"⟩, 51)]
theorem lw_r4 : ∀ q ∈ lw_privs_4, lw_okq q := List.forall_mem_cons.mpr ⟨lw_p48, List.forall_mem_cons.mpr ⟨lw_p49, List.forall_mem_cons.mpr ⟨lw_p50, List.forall_mem_cons.mpr ⟨lw_p51, List.forall_mem_cons.mpr ⟨lw_p52, List.forall_mem_cons.mpr ⟨lw_p53, List.forall_mem_cons.mpr ⟨lw_p54, List.forall_mem_cons.mpr ⟨lw_p55, List.forall_mem_cons.mpr ⟨lw_p56, List.forall_mem_cons.mpr ⟨lw_p57, List.forall_mem_cons.mpr ⟨lw_p58, List.forall_mem_cons.mpr ⟨lw_p59, List.forall_mem_cons.mpr ⟨lw_p60, List.forall_mem_cons.mpr ⟨lw_p61, List.forall_mem_cons.mpr ⟨lw_p62, List.forall_mem_cons.mpr ⟨lw_p63, fun _ h => absurd h List.not_mem_nil⟩⟩⟩⟩⟩⟩⟩⟩⟩⟩⟩⟩⟩⟩⟩⟩
theorem lw_p64 : lw_okq (⟨"StencilHouseModel", "hand", "(I)Z"⟩, 51) := ⟨⟨by decide +kernel, by decide +kernel⟩, List.mem_of_getElem? (i := 1120) (by decide +kernel), List.mem_of_getElem? (i := 1412) (by decide +kernel), List.mem_of_getElem? (i := 1413) (by decide +kernel)⟩
theorem lw_p65 : lw_okq (⟨"StencilHouseModel", "of", "(I)I"⟩, 51) := ⟨⟨by decide +kernel, by decide +kernel⟩, List.mem_of_getElem? (i := 1120) (by decide +kernel), List.mem_of_getElem? (i := 1416) (by decide +kernel), List.mem_of_getElem? (i := 1417) (by decide +kernel)⟩
theorem lw_p66 : lw_okq (⟨"StencilHouseModel", "asTold", "()V"⟩, 51) := ⟨⟨by decide +kernel, by decide +kernel⟩, List.mem_of_getElem? (i := 1120) (by decide +kernel), List.mem_of_getElem? (i := 1420) (by decide +kernel), List.mem_of_getElem? (i := 1421) (by decide +kernel)⟩
theorem lw_p67 : lw_okq (⟨"StencilHouseModel", "clean", "()V"⟩, 51) := ⟨⟨by decide +kernel, by decide +kernel⟩, List.mem_of_getElem? (i := 1120) (by decide +kernel), List.mem_of_getElem? (i := 1424) (by decide +kernel), List.mem_of_getElem? (i := 1425) (by decide +kernel)⟩
theorem lw_p68 : lw_okq (⟨"StencilHouseModel", "openBy", "(I)I"⟩, 51) := ⟨⟨by decide +kernel, by decide +kernel⟩, List.mem_of_getElem? (i := 1120) (by decide +kernel), List.mem_of_getElem? (i := 1431) (by decide +kernel), List.mem_of_getElem? (i := 1432) (by decide +kernel)⟩
theorem lw_p69 : lw_okq (⟨"StencilHouseModel", "fallsBy", "(I)I"⟩, 51) := ⟨⟨by decide +kernel, by decide +kernel⟩, List.mem_of_getElem? (i := 1120) (by decide +kernel), List.mem_of_getElem? (i := 1435) (by decide +kernel), List.mem_of_getElem? (i := 1436) (by decide +kernel)⟩
theorem lw_p70 : lw_okq (⟨"StencilHouseModel", "isRim", "(I)Z"⟩, 51) := ⟨⟨by decide +kernel, by decide +kernel⟩, List.mem_of_getElem? (i := 1120) (by decide +kernel), List.mem_of_getElem? (i := 1439) (by decide +kernel), List.mem_of_getElem? (i := 1440) (by decide +kernel)⟩
theorem lw_p71 : lw_okq (⟨"StencilHouseModel", "besides", "(I)I"⟩, 51) := ⟨⟨by decide +kernel, by decide +kernel⟩, List.mem_of_getElem? (i := 1120) (by decide +kernel), List.mem_of_getElem? (i := 1443) (by decide +kernel), List.mem_of_getElem? (i := 1444) (by decide +kernel)⟩
theorem lw_p72 : lw_okq (⟨"StencilHouseModel", "isSheet", "(I)Z"⟩, 51) := ⟨⟨by decide +kernel, by decide +kernel⟩, List.mem_of_getElem? (i := 1120) (by decide +kernel), List.mem_of_getElem? (i := 1447) (by decide +kernel), List.mem_of_getElem? (i := 1448) (by decide +kernel)⟩
theorem lw_p73 : lw_okq (⟨"StencilHouseModel", "hasDay", "(I)Z"⟩, 51) := ⟨⟨by decide +kernel, by decide +kernel⟩, List.mem_of_getElem? (i := 1120) (by decide +kernel), List.mem_of_getElem? (i := 1455) (by decide +kernel), List.mem_of_getElem? (i := 1456) (by decide +kernel)⟩
theorem lw_p74 : lw_okq (⟨"StencilHouseModel", "deeds", "()I"⟩, 51) := ⟨⟨by decide +kernel, by decide +kernel⟩, List.mem_of_getElem? (i := 1120) (by decide +kernel), List.mem_of_getElem? (i := 1459) (by decide +kernel), List.mem_of_getElem? (i := 1460) (by decide +kernel)⟩
theorem lw_p75 : lw_okq (⟨"StencilHouseModel", "deedOf", "(II)I"⟩, 51) := ⟨⟨by decide +kernel, by decide +kernel⟩, List.mem_of_getElem? (i := 1120) (by decide +kernel), List.mem_of_getElem? (i := 1463) (by decide +kernel), List.mem_of_getElem? (i := 1464) (by decide +kernel)⟩
theorem lw_p76 : lw_okq (⟨"StencilHouseModel", "layAll", "(II)Z"⟩, 51) := ⟨⟨by decide +kernel, by decide +kernel⟩, List.mem_of_getElem? (i := 1120) (by decide +kernel), List.mem_of_getElem? (i := 1471) (by decide +kernel), List.mem_of_getElem? (i := 1472) (by decide +kernel)⟩
theorem lw_p77 : lw_okq (⟨"StencilHouseModel", "play", "(I)I"⟩, 51) := ⟨⟨by decide +kernel, by decide +kernel⟩, List.mem_of_getElem? (i := 1120) (by decide +kernel), List.mem_of_getElem? (i := 1475) (by decide +kernel), List.mem_of_getElem? (i := 1476) (by decide +kernel)⟩
theorem lw_p78 : lw_okq (⟨"StencilHouseModel", "doesDeed", "(I)Z"⟩, 51) := ⟨⟨by decide +kernel, by decide +kernel⟩, List.mem_of_getElem? (i := 1120) (by decide +kernel), List.mem_of_getElem? (i := 1479) (by decide +kernel), List.mem_of_getElem? (i := 1480) (by decide +kernel)⟩
theorem lw_p79 : lw_okq (⟨"StencilHouseModel", "does", "(IIII)Z"⟩, 51) := ⟨⟨by decide +kernel, by decide +kernel⟩, List.mem_of_getElem? (i := 1120) (by decide +kernel), List.mem_of_getElem? (i := 1483) (by decide +kernel), List.mem_of_getElem? (i := 1484) (by decide +kernel)⟩
def lw_privs_5 : List (MethodName × Nat) := [(⟨"StencilHouseModel", "hand", "(I)Z"⟩, 51), (⟨"StencilHouseModel", "of", "(I)I"⟩, 51), (⟨"StencilHouseModel", "asTold", "()V"⟩, 51), (⟨"StencilHouseModel", "clean", "()V"⟩, 51), (⟨"StencilHouseModel", "openBy", "(I)I"⟩, 51), (⟨"StencilHouseModel", "fallsBy", "(I)I"⟩, 51), (⟨"StencilHouseModel", "isRim", "(I)Z"⟩, 51), (⟨"StencilHouseModel", "besides", "(I)I"⟩, 51), (⟨"StencilHouseModel", "isSheet", "(I)Z"⟩, 51), (⟨"StencilHouseModel", "hasDay", "(I)Z"⟩, 51), (⟨"StencilHouseModel", "deeds", "()I"⟩, 51), (⟨"StencilHouseModel", "deedOf", "(II)I"⟩, 51), (⟨"StencilHouseModel", "layAll", "(II)Z"⟩, 51), (⟨"StencilHouseModel", "play", "(I)I"⟩, 51), (⟨"StencilHouseModel", "doesDeed", "(I)Z"⟩, 51), (⟨"StencilHouseModel", "does", "(IIII)Z"⟩, 51)]
theorem lw_r5 : ∀ q ∈ lw_privs_5, lw_okq q := List.forall_mem_cons.mpr ⟨lw_p64, List.forall_mem_cons.mpr ⟨lw_p65, List.forall_mem_cons.mpr ⟨lw_p66, List.forall_mem_cons.mpr ⟨lw_p67, List.forall_mem_cons.mpr ⟨lw_p68, List.forall_mem_cons.mpr ⟨lw_p69, List.forall_mem_cons.mpr ⟨lw_p70, List.forall_mem_cons.mpr ⟨lw_p71, List.forall_mem_cons.mpr ⟨lw_p72, List.forall_mem_cons.mpr ⟨lw_p73, List.forall_mem_cons.mpr ⟨lw_p74, List.forall_mem_cons.mpr ⟨lw_p75, List.forall_mem_cons.mpr ⟨lw_p76, List.forall_mem_cons.mpr ⟨lw_p77, List.forall_mem_cons.mpr ⟨lw_p78, List.forall_mem_cons.mpr ⟨lw_p79, fun _ h => absurd h List.not_mem_nil⟩⟩⟩⟩⟩⟩⟩⟩⟩⟩⟩⟩⟩⟩⟩⟩
theorem lw_p80 : lw_okq (⟨"StencilHouseModel", "washes", "(I)Z"⟩, 51) := ⟨⟨by decide +kernel, by decide +kernel⟩, List.mem_of_getElem? (i := 1120) (by decide +kernel), List.mem_of_getElem? (i := 1487) (by decide +kernel), List.mem_of_getElem? (i := 1488) (by decide +kernel)⟩
theorem lw_p81 : lw_okq (⟨"StencilHouseModel", "spray", "(II)Z"⟩, 51) := ⟨⟨by decide +kernel, by decide +kernel⟩, List.mem_of_getElem? (i := 1120) (by decide +kernel), List.mem_of_getElem? (i := 1491) (by decide +kernel), List.mem_of_getElem? (i := 1492) (by decide +kernel)⟩
theorem lw_p82 : lw_okq (⟨"StencilHouseModel", "openNow", "(I)I"⟩, 51) := ⟨⟨by decide +kernel, by decide +kernel⟩, List.mem_of_getElem? (i := 1120) (by decide +kernel), List.mem_of_getElem? (i := 1495) (by decide +kernel), List.mem_of_getElem? (i := 1496) (by decide +kernel)⟩
theorem lw_p83 : lw_okq (⟨"StencilHouseModel", "slid", "(III)I"⟩, 51) := ⟨⟨by decide +kernel, by decide +kernel⟩, List.mem_of_getElem? (i := 1120) (by decide +kernel), List.mem_of_getElem? (i := 1499) (by decide +kernel), List.mem_of_getElem? (i := 1500) (by decide +kernel)⟩
theorem lw_p84 : lw_okq (⟨"StencilHouseModel", "paint", "(II)V"⟩, 51) := ⟨⟨by decide +kernel, by decide +kernel⟩, List.mem_of_getElem? (i := 1120) (by decide +kernel), List.mem_of_getElem? (i := 1503) (by decide +kernel), List.mem_of_getElem? (i := 1504) (by decide +kernel)⟩
theorem lw_p85 : lw_okq (⟨"StencilHouseModel", "turnedBy", "(IZ)I"⟩, 51) := ⟨⟨by decide +kernel, by decide +kernel⟩, List.mem_of_getElem? (i := 1120) (by decide +kernel), List.mem_of_getElem? (i := 1507) (by decide +kernel), List.mem_of_getElem? (i := 1508) (by decide +kernel)⟩
theorem lw_p86 : lw_okq (⟨"StencilHouseModel", "cuts", "(II)Z"⟩, 51) := ⟨⟨by decide +kernel, by decide +kernel⟩, List.mem_of_getElem? (i := 1120) (by decide +kernel), List.mem_of_getElem? (i := 1511) (by decide +kernel), List.mem_of_getElem? (i := 1512) (by decide +kernel)⟩
theorem lw_p87 : lw_okq (⟨"StencilHouseModel", "slides", "(III)Z"⟩, 51) := ⟨⟨by decide +kernel, by decide +kernel⟩, List.mem_of_getElem? (i := 1120) (by decide +kernel), List.mem_of_getElem? (i := 1515) (by decide +kernel), List.mem_of_getElem? (i := 1516) (by decide +kernel)⟩
theorem lw_p88 : lw_okq (⟨"StencilHouseModel", "patches", "(III)Z"⟩, 51) := ⟨⟨by decide +kernel, by decide +kernel⟩, List.mem_of_getElem? (i := 1120) (by decide +kernel), List.mem_of_getElem? (i := 1519) (by decide +kernel), List.mem_of_getElem? (i := 1520) (by decide +kernel)⟩
theorem lw_p89 : lw_okq (⟨"StencilHouseModel", "ofState", "(I)I"⟩, 51) := ⟨⟨by decide +kernel, by decide +kernel⟩, List.mem_of_getElem? (i := 1120) (by decide +kernel), List.mem_of_getElem? (i := 1527) (by decide +kernel), List.mem_of_getElem? (i := 1528) (by decide +kernel)⟩
theorem lw_p90 : lw_okq (⟨"StencilHouseModel", "isCell", "(I)Z"⟩, 51) := ⟨⟨by decide +kernel, by decide +kernel⟩, List.mem_of_getElem? (i := 1120) (by decide +kernel), List.mem_of_getElem? (i := 1531) (by decide +kernel), List.mem_of_getElem? (i := 1532) (by decide +kernel)⟩
theorem lw_p91 : lw_okq (⟨"StencilHouseModel", "coloured", "()I"⟩, 51) := ⟨⟨by decide +kernel, by decide +kernel⟩, List.mem_of_getElem? (i := 1120) (by decide +kernel), List.mem_of_getElem? (i := 1535) (by decide +kernel), List.mem_of_getElem? (i := 1536) (by decide +kernel)⟩
theorem lw_p92 : lw_okq (⟨"StencilHouseModel", "hasPicture", "(I)Z"⟩, 51) := ⟨⟨by decide +kernel, by decide +kernel⟩, List.mem_of_getElem? (i := 1120) (by decide +kernel), List.mem_of_getElem? (i := 1550) (by decide +kernel), List.mem_of_getElem? (i := 1551) (by decide +kernel)⟩
theorem lw_p93 : lw_okq (⟨"StencilHouseModel", "fewestSprays", "()I"⟩, 51) := ⟨⟨by decide +kernel, by decide +kernel⟩, List.mem_of_getElem? (i := 1120) (by decide +kernel), List.mem_of_getElem? (i := 1554) (by decide +kernel), List.mem_of_getElem? (i := 1555) (by decide +kernel)⟩
theorem lw_p94 : lw_okq (⟨"StencilHouseModel", "goesBeyond", "(I)Z"⟩, 51) := ⟨⟨by decide +kernel, by decide +kernel⟩, List.mem_of_getElem? (i := 1120) (by decide +kernel), List.mem_of_getElem? (i := 1558) (by decide +kernel), List.mem_of_getElem? (i := 1559) (by decide +kernel)⟩
theorem lw_p95 : lw_okq (⟨"StencilHouseModel", "colourAt", "(II)I"⟩, 51) := ⟨⟨by decide +kernel, by decide +kernel⟩, List.mem_of_getElem? (i := 1120) (by decide +kernel), List.mem_of_getElem? (i := 1562) (by decide +kernel), List.mem_of_getElem? (i := 1563) (by decide +kernel)⟩
def lw_privs_6 : List (MethodName × Nat) := [(⟨"StencilHouseModel", "washes", "(I)Z"⟩, 51), (⟨"StencilHouseModel", "spray", "(II)Z"⟩, 51), (⟨"StencilHouseModel", "openNow", "(I)I"⟩, 51), (⟨"StencilHouseModel", "slid", "(III)I"⟩, 51), (⟨"StencilHouseModel", "paint", "(II)V"⟩, 51), (⟨"StencilHouseModel", "turnedBy", "(IZ)I"⟩, 51), (⟨"StencilHouseModel", "cuts", "(II)Z"⟩, 51), (⟨"StencilHouseModel", "slides", "(III)Z"⟩, 51), (⟨"StencilHouseModel", "patches", "(III)Z"⟩, 51), (⟨"StencilHouseModel", "ofState", "(I)I"⟩, 51), (⟨"StencilHouseModel", "isCell", "(I)Z"⟩, 51), (⟨"StencilHouseModel", "coloured", "()I"⟩, 51), (⟨"StencilHouseModel", "hasPicture", "(I)Z"⟩, 51), (⟨"StencilHouseModel", "fewestSprays", "()I"⟩, 51), (⟨"StencilHouseModel", "goesBeyond", "(I)Z"⟩, 51), (⟨"StencilHouseModel", "colourAt", "(II)I"⟩, 51)]
theorem lw_r6 : ∀ q ∈ lw_privs_6, lw_okq q := List.forall_mem_cons.mpr ⟨lw_p80, List.forall_mem_cons.mpr ⟨lw_p81, List.forall_mem_cons.mpr ⟨lw_p82, List.forall_mem_cons.mpr ⟨lw_p83, List.forall_mem_cons.mpr ⟨lw_p84, List.forall_mem_cons.mpr ⟨lw_p85, List.forall_mem_cons.mpr ⟨lw_p86, List.forall_mem_cons.mpr ⟨lw_p87, List.forall_mem_cons.mpr ⟨lw_p88, List.forall_mem_cons.mpr ⟨lw_p89, List.forall_mem_cons.mpr ⟨lw_p90, List.forall_mem_cons.mpr ⟨lw_p91, List.forall_mem_cons.mpr ⟨lw_p92, List.forall_mem_cons.mpr ⟨lw_p93, List.forall_mem_cons.mpr ⟨lw_p94, List.forall_mem_cons.mpr ⟨lw_p95, fun _ h => absurd h List.not_mem_nil⟩⟩⟩⟩⟩⟩⟩⟩⟩⟩⟩⟩⟩⟩⟩⟩
theorem lw_p96 : lw_okq (⟨"StencilHouseModel", "layRow", "(II)Z"⟩, 51) := ⟨⟨by decide +kernel, by decide +kernel⟩, List.mem_of_getElem? (i := 1120) (by decide +kernel), List.mem_of_getElem? (i := 1566) (by decide +kernel), List.mem_of_getElem? (i := 1567) (by decide +kernel)⟩
theorem lw_p97 : lw_okq (⟨"StencilHouseModel", "makes", "(I)Z"⟩, 51) := ⟨⟨by decide +kernel, by decide +kernel⟩, List.mem_of_getElem? (i := 1120) (by decide +kernel), List.mem_of_getElem? (i := 1570) (by decide +kernel), List.mem_of_getElem? (i := 1571) (by decide +kernel)⟩
theorem lw_p98 : lw_okq (⟨"StencilHouseModel", "colourOf", "(I)I"⟩, 51) := ⟨⟨by decide +kernel, by decide +kernel⟩, List.mem_of_getElem? (i := 1120) (by decide +kernel), List.mem_of_getElem? (i := 1574) (by decide +kernel), List.mem_of_getElem? (i := 1575) (by decide +kernel)⟩
theorem lw_p99 : lw_okq (⟨"StencilHouseModel", "keepFirst", "(IZ)V"⟩, 51) := ⟨⟨by decide +kernel, by decide +kernel⟩, List.mem_of_getElem? (i := 1120) (by decide +kernel), List.mem_of_getElem? (i := 1578) (by decide +kernel), List.mem_of_getElem? (i := 1579) (by decide +kernel)⟩
theorem lw_p100 : lw_okq (⟨"StencilHouseModel", "openAll", "(I)I"⟩, 51) := ⟨⟨by decide +kernel, by decide +kernel⟩, List.mem_of_getElem? (i := 1120) (by decide +kernel), List.mem_of_getElem? (i := 1586) (by decide +kernel), List.mem_of_getElem? (i := 1587) (by decide +kernel)⟩
theorem lw_p101 : lw_okq (⟨"StencilHouseModel", "areApart", "(I)Z"⟩, 51) := ⟨⟨by decide +kernel, by decide +kernel⟩, List.mem_of_getElem? (i := 1120) (by decide +kernel), List.mem_of_getElem? (i := 1594) (by decide +kernel), List.mem_of_getElem? (i := 1595) (by decide +kernel)⟩
theorem lw_p102 : lw_okq (⟨"StencilHouseModel", "endOf", "(II)I"⟩, 51) := ⟨⟨by decide +kernel, by decide +kernel⟩, List.mem_of_getElem? (i := 1120) (by decide +kernel), List.mem_of_getElem? (i := 1605) (by decide +kernel), List.mem_of_getElem? (i := 1606) (by decide +kernel)⟩
theorem lw_p103 : lw_okq (⟨"StencilHouseModel", "fold", "(IZ)I"⟩, 51) := ⟨⟨by decide +kernel, by decide +kernel⟩, List.mem_of_getElem? (i := 1120) (by decide +kernel), List.mem_of_getElem? (i := 1609) (by decide +kernel), List.mem_of_getElem? (i := 1610) (by decide +kernel)⟩
theorem lw_p104 : lw_okq (⟨"StencilHouseModel", "isOpen", "(III)Z"⟩, 51) := ⟨⟨by decide +kernel, by decide +kernel⟩, List.mem_of_getElem? (i := 1120) (by decide +kernel), List.mem_of_getElem? (i := 1617) (by decide +kernel), List.mem_of_getElem? (i := 1618) (by decide +kernel)⟩
theorem lw_p105 : lw_okq (⟨"StencilHouseModel", "hasMarks", "(I)Z"⟩, 51) := ⟨⟨by decide +kernel, by decide +kernel⟩, List.mem_of_getElem? (i := 1120) (by decide +kernel), List.mem_of_getElem? (i := 1636) (by decide +kernel), List.mem_of_getElem? (i := 1637) (by decide +kernel)⟩
theorem lw_p106 : lw_okq (⟨"StencilHouseModel", "allMarks", "()I"⟩, 51) := ⟨⟨by decide +kernel, by decide +kernel⟩, List.mem_of_getElem? (i := 1120) (by decide +kernel), List.mem_of_getElem? (i := 1640) (by decide +kernel), List.mem_of_getElem? (i := 1641) (by decide +kernel)⟩
theorem lw_p107 : lw_okq (⟨"StencilHouseModel", "markOf", "(II)I"⟩, 51) := ⟨⟨by decide +kernel, by decide +kernel⟩, List.mem_of_getElem? (i := 1120) (by decide +kernel), List.mem_of_getElem? (i := 1644) (by decide +kernel), List.mem_of_getElem? (i := 1645) (by decide +kernel)⟩
theorem lw_p108 : lw_okq (⟨"StencilHouseModel", "findOrders", "(I)V"⟩, 51) := ⟨⟨by decide +kernel, by decide +kernel⟩, List.mem_of_getElem? (i := 1120) (by decide +kernel), List.mem_of_getElem? (i := 1652) (by decide +kernel), List.mem_of_getElem? (i := 1653) (by decide +kernel)⟩
theorem lw_p109 : lw_okq (⟨"StencilHouseModel", "firstOrder", "()V"⟩, 51) := ⟨⟨by decide +kernel, by decide +kernel⟩, List.mem_of_getElem? (i := 1120) (by decide +kernel), List.mem_of_getElem? (i := 1656) (by decide +kernel), List.mem_of_getElem? (i := 1657) (by decide +kernel)⟩
theorem lw_p110 : lw_okq (⟨"StencilHouseModel", "isSo", "()Z"⟩, 51) := ⟨⟨by decide +kernel, by decide +kernel⟩, List.mem_of_getElem? (i := 1120) (by decide +kernel), List.mem_of_getElem? (i := 1660) (by decide +kernel), List.mem_of_getElem? (i := 1661) (by decide +kernel)⟩
theorem lw_p111 : lw_okq (⟨"StencilHouseModel", "topOf", "(I)I"⟩, 51) := ⟨⟨by decide +kernel, by decide +kernel⟩, List.mem_of_getElem? (i := 1120) (by decide +kernel), List.mem_of_getElem? (i := 1664) (by decide +kernel), List.mem_of_getElem? (i := 1665) (by decide +kernel)⟩
def lw_privs_7 : List (MethodName × Nat) := [(⟨"StencilHouseModel", "layRow", "(II)Z"⟩, 51), (⟨"StencilHouseModel", "makes", "(I)Z"⟩, 51), (⟨"StencilHouseModel", "colourOf", "(I)I"⟩, 51), (⟨"StencilHouseModel", "keepFirst", "(IZ)V"⟩, 51), (⟨"StencilHouseModel", "openAll", "(I)I"⟩, 51), (⟨"StencilHouseModel", "areApart", "(I)Z"⟩, 51), (⟨"StencilHouseModel", "endOf", "(II)I"⟩, 51), (⟨"StencilHouseModel", "fold", "(IZ)I"⟩, 51), (⟨"StencilHouseModel", "isOpen", "(III)Z"⟩, 51), (⟨"StencilHouseModel", "hasMarks", "(I)Z"⟩, 51), (⟨"StencilHouseModel", "allMarks", "()I"⟩, 51), (⟨"StencilHouseModel", "markOf", "(II)I"⟩, 51), (⟨"StencilHouseModel", "findOrders", "(I)V"⟩, 51), (⟨"StencilHouseModel", "firstOrder", "()V"⟩, 51), (⟨"StencilHouseModel", "isSo", "()Z"⟩, 51), (⟨"StencilHouseModel", "topOf", "(I)I"⟩, 51)]
theorem lw_r7 : ∀ q ∈ lw_privs_7, lw_okq q := List.forall_mem_cons.mpr ⟨lw_p96, List.forall_mem_cons.mpr ⟨lw_p97, List.forall_mem_cons.mpr ⟨lw_p98, List.forall_mem_cons.mpr ⟨lw_p99, List.forall_mem_cons.mpr ⟨lw_p100, List.forall_mem_cons.mpr ⟨lw_p101, List.forall_mem_cons.mpr ⟨lw_p102, List.forall_mem_cons.mpr ⟨lw_p103, List.forall_mem_cons.mpr ⟨lw_p104, List.forall_mem_cons.mpr ⟨lw_p105, List.forall_mem_cons.mpr ⟨lw_p106, List.forall_mem_cons.mpr ⟨lw_p107, List.forall_mem_cons.mpr ⟨lw_p108, List.forall_mem_cons.mpr ⟨lw_p109, List.forall_mem_cons.mpr ⟨lw_p110, List.forall_mem_cons.mpr ⟨lw_p111, fun _ h => absurd h List.not_mem_nil⟩⟩⟩⟩⟩⟩⟩⟩⟩⟩⟩⟩⟩⟩⟩⟩
theorem lw_p112 : lw_okq (⟨"StencilHouseModel", "orderCode", "()I"⟩, 51) := ⟨⟨by decide +kernel, by decide +kernel⟩, List.mem_of_getElem? (i := 1120) (by decide +kernel), List.mem_of_getElem? (i := 1668) (by decide +kernel), List.mem_of_getElem? (i := 1669) (by decide +kernel)⟩
theorem lw_p113 : lw_okq (⟨"StencilHouseModel", "nextOrder", "()Z"⟩, 51) := ⟨⟨by decide +kernel, by decide +kernel⟩, List.mem_of_getElem? (i := 1120) (by decide +kernel), List.mem_of_getElem? (i := 1672) (by decide +kernel), List.mem_of_getElem? (i := 1673) (by decide +kernel)⟩
theorem lw_p114 : lw_okq (⟨"StencilHouseModel", "swap", "(II)V"⟩, 51) := ⟨⟨by decide +kernel, by decide +kernel⟩, List.mem_of_getElem? (i := 1120) (by decide +kernel), List.mem_of_getElem? (i := 1676) (by decide +kernel), List.mem_of_getElem? (i := 1677) (by decide +kernel)⟩
theorem lw_p115 : lw_okq (⟨"StencilHouseModel", "sure", "()I"⟩, 51) := ⟨⟨by decide +kernel, by decide +kernel⟩, List.mem_of_getElem? (i := 1120) (by decide +kernel), List.mem_of_getElem? (i := 1680) (by decide +kernel), List.mem_of_getElem? (i := 1681) (by decide +kernel)⟩
theorem lw_p116 : lw_okq (⟨"StencilHouseModel", "askWhere", "()I"⟩, 51) := ⟨⟨by decide +kernel, by decide +kernel⟩, List.mem_of_getElem? (i := 1120) (by decide +kernel), List.mem_of_getElem? (i := 1684) (by decide +kernel), List.mem_of_getElem? (i := 1685) (by decide +kernel)⟩
theorem lw_p117 : lw_okq (⟨"StencilHouseModel", "alike", "(I)I"⟩, 51) := ⟨⟨by decide +kernel, by decide +kernel⟩, List.mem_of_getElem? (i := 1120) (by decide +kernel), List.mem_of_getElem? (i := 1688) (by decide +kernel), List.mem_of_getElem? (i := 1689) (by decide +kernel)⟩
theorem lw_p118 : lw_okq (⟨"StencilHouseModel", "drawDeed", "()V"⟩, 51) := ⟨⟨by decide +kernel, by decide +kernel⟩, List.mem_of_getElem? (i := 1120) (by decide +kernel), List.mem_of_getElem? (i := 1696) (by decide +kernel), List.mem_of_getElem? (i := 1697) (by decide +kernel)⟩
theorem lw_p119 : lw_okq (⟨"StencilHouseModel", "draw", "(I)I"⟩, 51) := ⟨⟨by decide +kernel, by decide +kernel⟩, List.mem_of_getElem? (i := 1120) (by decide +kernel), List.mem_of_getElem? (i := 1700) (by decide +kernel), List.mem_of_getElem? (i := 1701) (by decide +kernel)⟩
theorem lw_p120 : lw_okq (⟨"StencilHouseModel", "holesOf", "(IZ)I"⟩, 51) := ⟨⟨by decide +kernel, by decide +kernel⟩, List.mem_of_getElem? (i := 1120) (by decide +kernel), List.mem_of_getElem? (i := 1709) (by decide +kernel), List.mem_of_getElem? (i := 1710) (by decide +kernel)⟩
theorem lw_p121 : lw_okq (⟨"StencilHouseModel", "joined", "(II)I"⟩, 51) := ⟨⟨by decide +kernel, by decide +kernel⟩, List.mem_of_getElem? (i := 1120) (by decide +kernel), List.mem_of_getElem? (i := 1713) (by decide +kernel), List.mem_of_getElem? (i := 1714) (by decide +kernel)⟩
theorem lw_p122 : lw_okq (⟨"StencilHouseModel", "edge", "(I)I"⟩, 51) := ⟨⟨by decide +kernel, by decide +kernel⟩, List.mem_of_getElem? (i := 1120) (by decide +kernel), List.mem_of_getElem? (i := 1717) (by decide +kernel), List.mem_of_getElem? (i := 1718) (by decide +kernel)⟩
theorem lw_p123 : lw_okq (⟨"StencilHouseModel", "strokes", "(IZ)I"⟩, 51) := ⟨⟨by decide +kernel, by decide +kernel⟩, List.mem_of_getElem? (i := 1120) (by decide +kernel), List.mem_of_getElem? (i := 1721) (by decide +kernel), List.mem_of_getElem? (i := 1722) (by decide +kernel)⟩
theorem lw_p124 : lw_okq (⟨"StencilHouseModel", "likeThemselves", "(Z)I"⟩, 51) := ⟨⟨by decide +kernel, by decide +kernel⟩, List.mem_of_getElem? (i := 1120) (by decide +kernel), List.mem_of_getElem? (i := 1729) (by decide +kernel), List.mem_of_getElem? (i := 1730) (by decide +kernel)⟩
theorem lw_p125 : lw_okq (⟨"StencilHouseModel", "twins", "()I"⟩, 51) := ⟨⟨by decide +kernel, by decide +kernel⟩, List.mem_of_getElem? (i := 1120) (by decide +kernel), List.mem_of_getElem? (i := 1733) (by decide +kernel), List.mem_of_getElem? (i := 1734) (by decide +kernel)⟩
theorem lw_p126 : lw_okq (⟨"StencilHouseModel", "openToAll", "()I"⟩, 51) := ⟨⟨by decide +kernel, by decide +kernel⟩, List.mem_of_getElem? (i := 1120) (by decide +kernel), List.mem_of_getElem? (i := 1737) (by decide +kernel), List.mem_of_getElem? (i := 1738) (by decide +kernel)⟩
theorem lw_p127 : lw_okq (⟨"StencilHouseModel", "falling", "()I"⟩, 51) := ⟨⟨by decide +kernel, by decide +kernel⟩, List.mem_of_getElem? (i := 1120) (by decide +kernel), List.mem_of_getElem? (i := 1741) (by decide +kernel), List.mem_of_getElem? (i := 1742) (by decide +kernel)⟩
def lw_privs_8 : List (MethodName × Nat) := [(⟨"StencilHouseModel", "orderCode", "()I"⟩, 51), (⟨"StencilHouseModel", "nextOrder", "()Z"⟩, 51), (⟨"StencilHouseModel", "swap", "(II)V"⟩, 51), (⟨"StencilHouseModel", "sure", "()I"⟩, 51), (⟨"StencilHouseModel", "askWhere", "()I"⟩, 51), (⟨"StencilHouseModel", "alike", "(I)I"⟩, 51), (⟨"StencilHouseModel", "drawDeed", "()V"⟩, 51), (⟨"StencilHouseModel", "draw", "(I)I"⟩, 51), (⟨"StencilHouseModel", "holesOf", "(IZ)I"⟩, 51), (⟨"StencilHouseModel", "joined", "(II)I"⟩, 51), (⟨"StencilHouseModel", "edge", "(I)I"⟩, 51), (⟨"StencilHouseModel", "strokes", "(IZ)I"⟩, 51), (⟨"StencilHouseModel", "likeThemselves", "(Z)I"⟩, 51), (⟨"StencilHouseModel", "twins", "()I"⟩, 51), (⟨"StencilHouseModel", "openToAll", "()I"⟩, 51), (⟨"StencilHouseModel", "falling", "()I"⟩, 51)]
theorem lw_r8 : ∀ q ∈ lw_privs_8, lw_okq q := List.forall_mem_cons.mpr ⟨lw_p112, List.forall_mem_cons.mpr ⟨lw_p113, List.forall_mem_cons.mpr ⟨lw_p114, List.forall_mem_cons.mpr ⟨lw_p115, List.forall_mem_cons.mpr ⟨lw_p116, List.forall_mem_cons.mpr ⟨lw_p117, List.forall_mem_cons.mpr ⟨lw_p118, List.forall_mem_cons.mpr ⟨lw_p119, List.forall_mem_cons.mpr ⟨lw_p120, List.forall_mem_cons.mpr ⟨lw_p121, List.forall_mem_cons.mpr ⟨lw_p122, List.forall_mem_cons.mpr ⟨lw_p123, List.forall_mem_cons.mpr ⟨lw_p124, List.forall_mem_cons.mpr ⟨lw_p125, List.forall_mem_cons.mpr ⟨lw_p126, List.forall_mem_cons.mpr ⟨lw_p127, fun _ h => absurd h List.not_mem_nil⟩⟩⟩⟩⟩⟩⟩⟩⟩⟩⟩⟩⟩⟩⟩⟩
theorem lw_p128 : lw_okq (⟨"StencilHouseModel", "needed", "()I"⟩, 51) := ⟨⟨by decide +kernel, by decide +kernel⟩, List.mem_of_getElem? (i := 1120) (by decide +kernel), List.mem_of_getElem? (i := 1745) (by decide +kernel), List.mem_of_getElem? (i := 1746) (by decide +kernel)⟩
theorem lw_p129 : lw_okq (⟨"StencilHouseModel", "stack", "()I"⟩, 51) := ⟨⟨by decide +kernel, by decide +kernel⟩, List.mem_of_getElem? (i := 1120) (by decide +kernel), List.mem_of_getElem? (i := 1749) (by decide +kernel), List.mem_of_getElem? (i := 1750) (by decide +kernel)⟩
theorem lw_p130 : lw_okq (⟨"StencilHouseModel", "stackAt", "(I)I"⟩, 51) := ⟨⟨by decide +kernel, by decide +kernel⟩, List.mem_of_getElem? (i := 1120) (by decide +kernel), List.mem_of_getElem? (i := 1753) (by decide +kernel), List.mem_of_getElem? (i := 1754) (by decide +kernel)⟩
theorem lw_p131 : lw_okq (⟨"StencilHouseModel", "nearly", "(Z)I"⟩, 51) := ⟨⟨by decide +kernel, by decide +kernel⟩, List.mem_of_getElem? (i := 1120) (by decide +kernel), List.mem_of_getElem? (i := 1757) (by decide +kernel), List.mem_of_getElem? (i := 1758) (by decide +kernel)⟩
theorem lw_p132 : lw_okq (⟨"StencilHouseModel", "unlikeOf", "(II)I"⟩, 51) := ⟨⟨by decide +kernel, by decide +kernel⟩, List.mem_of_getElem? (i := 1120) (by decide +kernel), List.mem_of_getElem? (i := 1762) (by decide +kernel), List.mem_of_getElem? (i := 1763) (by decide +kernel)⟩
theorem lw_p133 : lw_okq (⟨"StencilHouseModel", "hidden", "()I"⟩, 51) := ⟨⟨by decide +kernel, by decide +kernel⟩, List.mem_of_getElem? (i := 1120) (by decide +kernel), List.mem_of_getElem? (i := 1766) (by decide +kernel), List.mem_of_getElem? (i := 1767) (by decide +kernel)⟩
theorem lw_p134 : lw_okq (⟨"StencilHouseModel", "seenOf", "(I)I"⟩, 51) := ⟨⟨by decide +kernel, by decide +kernel⟩, List.mem_of_getElem? (i := 1120) (by decide +kernel), List.mem_of_getElem? (i := 1770) (by decide +kernel), List.mem_of_getElem? (i := 1771) (by decide +kernel)⟩
theorem lw_p135 : lw_okq (⟨"StencilHouseModel", "onTop", "()I"⟩, 51) := ⟨⟨by decide +kernel, by decide +kernel⟩, List.mem_of_getElem? (i := 1120) (by decide +kernel), List.mem_of_getElem? (i := 1786) (by decide +kernel), List.mem_of_getElem? (i := 1787) (by decide +kernel)⟩
theorem lw_p136 : lw_okq (⟨"StencilHouseModel", "places", "(I)I"⟩, 51) := ⟨⟨by decide +kernel, by decide +kernel⟩, List.mem_of_getElem? (i := 1120) (by decide +kernel), List.mem_of_getElem? (i := 1794) (by decide +kernel), List.mem_of_getElem? (i := 1795) (by decide +kernel)⟩
theorem lw_p137 : lw_okq (⟨"StencilHouseModel", "busy", "()I"⟩, 51) := ⟨⟨by decide +kernel, by decide +kernel⟩, List.mem_of_getElem? (i := 1120) (by decide +kernel), List.mem_of_getElem? (i := 1810) (by decide +kernel), List.mem_of_getElem? (i := 1811) (by decide +kernel)⟩
theorem lw_p138 : lw_okq (⟨"StencilHouseModel", "torn", "()I"⟩, 51) := ⟨⟨by decide +kernel, by decide +kernel⟩, List.mem_of_getElem? (i := 1120) (by decide +kernel), List.mem_of_getElem? (i := 1814) (by decide +kernel), List.mem_of_getElem? (i := 1815) (by decide +kernel)⟩
theorem lw_p139 : lw_okq (⟨"StencilHouseModel", "copyAll", "(II)V"⟩, 51) := ⟨⟨by decide +kernel, by decide +kernel⟩, List.mem_of_getElem? (i := 1120) (by decide +kernel), List.mem_of_getElem? (i := 1826) (by decide +kernel), List.mem_of_getElem? (i := 1827) (by decide +kernel)⟩
def lw_privs_9 : List (MethodName × Nat) := [(⟨"StencilHouseModel", "needed", "()I"⟩, 51), (⟨"StencilHouseModel", "stack", "()I"⟩, 51), (⟨"StencilHouseModel", "stackAt", "(I)I"⟩, 51), (⟨"StencilHouseModel", "nearly", "(Z)I"⟩, 51), (⟨"StencilHouseModel", "unlikeOf", "(II)I"⟩, 51), (⟨"StencilHouseModel", "hidden", "()I"⟩, 51), (⟨"StencilHouseModel", "seenOf", "(I)I"⟩, 51), (⟨"StencilHouseModel", "onTop", "()I"⟩, 51), (⟨"StencilHouseModel", "places", "(I)I"⟩, 51), (⟨"StencilHouseModel", "busy", "()I"⟩, 51), (⟨"StencilHouseModel", "torn", "()I"⟩, 51), (⟨"StencilHouseModel", "copyAll", "(II)V"⟩, 51)]
theorem lw_r9 : ∀ q ∈ lw_privs_9, lw_okq q := List.forall_mem_cons.mpr ⟨lw_p128, List.forall_mem_cons.mpr ⟨lw_p129, List.forall_mem_cons.mpr ⟨lw_p130, List.forall_mem_cons.mpr ⟨lw_p131, List.forall_mem_cons.mpr ⟨lw_p132, List.forall_mem_cons.mpr ⟨lw_p133, List.forall_mem_cons.mpr ⟨lw_p134, List.forall_mem_cons.mpr ⟨lw_p135, List.forall_mem_cons.mpr ⟨lw_p136, List.forall_mem_cons.mpr ⟨lw_p137, List.forall_mem_cons.mpr ⟨lw_p138, List.forall_mem_cons.mpr ⟨lw_p139, fun _ h => absurd h List.not_mem_nil⟩⟩⟩⟩⟩⟩⟩⟩⟩⟩⟩⟩
def lw_privs : List (MethodName × Nat) := lw_privs_1 ++ (lw_privs_2 ++ (lw_privs_3 ++ (lw_privs_4 ++ (lw_privs_5 ++ (lw_privs_6 ++ (lw_privs_7 ++ (lw_privs_8 ++ (lw_privs_9))))))))
def lw_tbl : List Cond := k2_sels lw_privs ++ tables_1
theorem lw_privs_ok : ∀ q ∈ lw_privs, lw_okq q := by
  show ∀ q ∈ lw_privs_1 ++ (lw_privs_2 ++ (lw_privs_3 ++ (lw_privs_4 ++ (lw_privs_5 ++ (lw_privs_6 ++ (lw_privs_7 ++ (lw_privs_8 ++ (lw_privs_9)))))))), lw_okq q
  exact List.forall_mem_append.mpr ⟨lw_r1, List.forall_mem_append.mpr ⟨lw_r2, List.forall_mem_append.mpr ⟨lw_r3, List.forall_mem_append.mpr ⟨lw_r4, List.forall_mem_append.mpr ⟨lw_r5, List.forall_mem_append.mpr ⟨lw_r6, List.forall_mem_append.mpr ⟨lw_r7, List.forall_mem_append.mpr ⟨lw_r8, lw_r9⟩⟩⟩⟩⟩⟩⟩⟩
-- ===== end of PART A; then your names; then what follows =====
end
section
/-! NAMES (by a program of ours out of the claim's own tables): classes, their places in the order of the slots, methods -/
def RX0 : String := "StencilHouse$Day"
def TX0 : u_T := fun k => match k with
  | 0 => ("StencilHouse$Day", "deedCount", "I", false)
  | _ => ("StencilHouse$Day", "parts", "[I", true)
def tyX0 : Nat → FieldType := fun k => match k with
  | 0 => .int
  | _ => .array .int
theorem nmX0 : ∀ a, a < 2 → ∀ b, b < 2 → a ≠ b → (TX0 a).2.1 ≠ (TX0 b).2.1 := by decide +kernel
theorem tyokX0 : ∀ k, k < 2 → parseFieldDescriptor (TX0 k).2.2.1 = some (tyX0 k) := by decide +kernel
def RX2 : String := "StencilHouse$Marks"
def TX2 : u_T := fun k => match k with
  | 0 => ("StencilHouse$Marks", "markCount", "I", false)
  | 1 => ("StencilHouse$Marks", "column", "[I", true)
  | 2 => ("StencilHouse$Marks", "row", "[I", true)
  | _ => ("StencilHouse$Marks", "sheet", "[I", true)
def tyX2 : Nat → FieldType := fun k => match k with
  | 0 => .int
  | 1 => .array .int
  | 2 => .array .int
  | _ => .array .int
theorem nmX2 : ∀ a, a < 4 → ∀ b, b < 4 → a ≠ b → (TX2 a).2.1 ≠ (TX2 b).2.1 := by decide +kernel
theorem tyokX2 : ∀ k, k < 4 → parseFieldDescriptor (TX2 k).2.2.1 = some (tyX2 k) := by decide +kernel
def RX3 : String := "StencilHouse$Orders"
def TX3 : u_T := fun k => match k with
  | 0 => ("StencilHouse$Orders", "items", "[I", true)
  | 1 => ("StencilHouse$Orders", "found", "[I", true)
  | 2 => ("StencilHouse$Orders", "spraysMade", "[I", true)
  | 3 => ("StencilHouse$Orders", "wanted", "[I", true)
  | 4 => ("StencilHouse$Orders", "tops", "[I", true)
  | 5 => ("StencilHouse$Orders", "size", "I", false)
  | _ => ("StencilHouse$Orders", "length", "I", false)
def tyX3 : Nat → FieldType := fun k => match k with
  | 0 => .array .int
  | 1 => .array .int
  | 2 => .array .int
  | 3 => .array .int
  | 4 => .array .int
  | 5 => .int
  | _ => .int
theorem nmX3 : ∀ a, a < 7 → ∀ b, b < 7 → a ≠ b → (TX3 a).2.1 ≠ (TX3 b).2.1 := by decide +kernel
theorem tyokX3 : ∀ k, k < 7 → parseFieldDescriptor (TX3 k).2.2.1 = some (tyX3 k) := by decide +kernel
def RX4 : String := "StencilHouse$Picture"
def TX4 : u_T := fun k => match k with
  | _ => ("StencilHouse$Picture", "colour", "[I", true)
def tyX4 : Nat → FieldType := fun k => match k with
  | _ => .array .int
theorem nmX4 : ∀ a, a < 1 → ∀ b, b < 1 → a ≠ b → (TX4 a).2.1 ≠ (TX4 b).2.1 := by decide +kernel
theorem tyokX4 : ∀ k, k < 1 → parseFieldDescriptor (TX4 k).2.2.1 = some (tyX4 k) := by decide +kernel
def RX5 : String := "StencilHouse$Reader"
def TX5 : u_T := fun k => match k with
  | 0 => ("StencilHouse$Reader", "shopRead", "LStencilHouse$Shop;", true)
  | 1 => ("StencilHouse$Reader", "dayRead", "LStencilHouse$Day;", true)
  | 2 => ("StencilHouse$Reader", "pictureRead", "LStencilHouse$Picture;", true)
  | 3 => ("StencilHouse$Reader", "marksRead", "LStencilHouse$Marks;", true)
  | 4 => ("StencilHouse$Reader", "fault", "I", false)
  | 5 => ("StencilHouse$Reader", "faultPlace", "I", false)
  | 6 => ("StencilHouse$Reader", "tokens", "LStencilHouse$Tokens;", true)
  | 7 => ("StencilHouse$Reader", "sheetRows", "[I", true)
  | 8 => ("StencilHouse$Reader", "numbers", "[I", true)
  | 9 => ("StencilHouse$Reader", "wornSheets", "I", false)
  | _ => ("StencilHouse$Reader", "pictureRows", "I", false)
def tyX5 : Nat → FieldType := fun k => match k with
  | 0 => .object "StencilHouse$Shop"
  | 1 => .object "StencilHouse$Day"
  | 2 => .object "StencilHouse$Picture"
  | 3 => .object "StencilHouse$Marks"
  | 4 => .int
  | 5 => .int
  | 6 => .object "StencilHouse$Tokens"
  | 7 => .array .int
  | 8 => .array .int
  | 9 => .int
  | _ => .int
theorem nmX5 : ∀ a, a < 11 → ∀ b, b < 11 → a ≠ b → (TX5 a).2.1 ≠ (TX5 b).2.1 := by decide +kernel
theorem tyokX5 : ∀ k, k < 11 → parseFieldDescriptor (TX5 k).2.2.1 = some (tyX5 k) := by decide +kernel
def RX6 : String := "StencilHouse$Shop"
def TX6 : u_T := fun k => match k with
  | 0 => ("StencilHouse$Shop", "columns", "I", false)
  | 1 => ("StencilHouse$Shop", "rows", "I", false)
  | 2 => ("StencilHouse$Shop", "slip", "I", false)
  | 3 => ("StencilHouse$Shop", "sheetCount", "I", false)
  | 4 => ("StencilHouse$Shop", "cut", "[I", true)
  | 5 => ("StencilHouse$Shop", "wear", "[I", true)
  | 6 => ("StencilHouse$Shop", "open", "[I", true)
  | 7 => ("StencilHouse$Shop", "all", "I", false)
  | 8 => ("StencilHouse$Shop", "left", "I", false)
  | 9 => ("StencilHouse$Shop", "right", "I", false)
  | _ => ("StencilHouse$Shop", "rim", "I", false)
def tyX6 : Nat → FieldType := fun k => match k with
  | 0 => .int
  | 1 => .int
  | 2 => .int
  | 3 => .int
  | 4 => .array .int
  | 5 => .array .int
  | 6 => .array .int
  | 7 => .int
  | 8 => .int
  | 9 => .int
  | _ => .int
theorem nmX6 : ∀ a, a < 11 → ∀ b, b < 11 → a ≠ b → (TX6 a).2.1 ≠ (TX6 b).2.1 := by decide +kernel
theorem tyokX6 : ∀ k, k < 11 → parseFieldDescriptor (TX6 k).2.2.1 = some (tyX6 k) := by decide +kernel
def RX7 : String := "StencilHouse$Tokens"
def TX7 : u_T := fun k => match k with
  | 0 => ("StencilHouse$Tokens", "tape", "[I", false)
  | 1 => ("StencilHouse$Tokens", "length", "I", false)
  | 2 => ("StencilHouse$Tokens", "behind", "I", false)
  | 3 => ("StencilHouse$Tokens", "kind", "I", false)
  | 4 => ("StencilHouse$Tokens", "place", "I", false)
  | _ => ("StencilHouse$Tokens", "value", "I", false)
def tyX7 : Nat → FieldType := fun k => match k with
  | 0 => .array .int
  | 1 => .int
  | 2 => .int
  | 3 => .int
  | 4 => .int
  | _ => .int
theorem nmX7 : ∀ a, a < 6 → ∀ b, b < 6 → a ≠ b → (TX7 a).2.1 ≠ (TX7 b).2.1 := by decide +kernel
theorem tyokX7 : ∀ k, k < 6 → parseFieldDescriptor (TX7 k).2.2.1 = some (tyX7 k) := by decide +kernel
def RX8 : String := "StencilHouse$Told"
def TX8 : u_T := fun k => match k with
  | 0 => ("StencilHouse$Told", "tape", "[I", true)
  | 1 => ("StencilHouse$Told", "tapeLength", "I", false)
  | 2 => ("StencilHouse$Told", "fault", "I", false)
  | 3 => ("StencilHouse$Told", "faultPlace", "I", false)
  | 4 => ("StencilHouse$Told", "counts", "[I", true)
  | 5 => ("StencilHouse$Told", "shopList", "[LStencilHouse$Shop;", true)
  | 6 => ("StencilHouse$Told", "dayList", "[LStencilHouse$Day;", true)
  | 7 => ("StencilHouse$Told", "pictureList", "[LStencilHouse$Picture;", true)
  | _ => ("StencilHouse$Told", "marksList", "[LStencilHouse$Marks;", true)
def tyX8 : Nat → FieldType := fun k => match k with
  | 0 => .array .int
  | 1 => .int
  | 2 => .int
  | 3 => .int
  | 4 => .array .int
  | 5 => .array (.object "StencilHouse$Shop")
  | 6 => .array (.object "StencilHouse$Day")
  | 7 => .array (.object "StencilHouse$Picture")
  | _ => .array (.object "StencilHouse$Marks")
theorem nmX8 : ∀ a, a < 9 → ∀ b, b < 9 → a ≠ b → (TX8 a).2.1 ≠ (TX8 b).2.1 := by decide +kernel
theorem tyokX8 : ∀ k, k < 9 → parseFieldDescriptor (TX8 k).2.2.1 = some (tyX8 k) := by decide +kernel
def RX9 : String := "StencilHouse$Wall"
def TX9 : u_T := fun k => match k with
  | 0 => ("StencilHouse$Wall", "shop", "LStencilHouse$Shop;", false)
  | 1 => ("StencilHouse$Wall", "cellsOf", "[I", true)
  | 2 => ("StencilHouse$Wall", "cut", "[I", true)
  | 3 => ("StencilHouse$Wall", "sprayed", "[I", true)
  | 4 => ("StencilHouse$Wall", "across", "[I", true)
  | 5 => ("StencilHouse$Wall", "down", "[I", true)
  | 6 => ("StencilHouse$Wall", "deedsDone", "I", false)
  | 7 => ("StencilHouse$Wall", "sprayCount", "I", false)
  | 8 => ("StencilHouse$Wall", "seed", "I", false)
  | 9 => ("StencilHouse$Wall", "firstOver", "I", false)
  | 10 => ("StencilHouse$Wall", "over", "I", false)
  | _ => ("StencilHouse$Wall", "washed", "I", false)
def tyX9 : Nat → FieldType := fun k => match k with
  | 0 => .object "StencilHouse$Shop"
  | 1 => .array .int
  | 2 => .array .int
  | 3 => .array .int
  | 4 => .array .int
  | 5 => .array .int
  | 6 => .int
  | 7 => .int
  | 8 => .int
  | 9 => .int
  | 10 => .int
  | _ => .int
theorem nmX9 : ∀ a, a < 12 → ∀ b, b < 12 → a ≠ b → (TX9 a).2.1 ≠ (TX9 b).2.1 := by decide +kernel
theorem tyokX9 : ∀ k, k < 12 → parseFieldDescriptor (TX9 k).2.2.1 = some (tyX9 k) := by decide +kernel
def RX10 : String := "StencilHouse"
def TX10 : u_T := fun k => match k with
  | 0 => ("StencilHouse", "told", "LStencilHouse$Told;", true)
  | 1 => ("StencilHouse", "images", "[LStencilHouse$Told;", true)
  | 2 => ("StencilHouse", "reader", "LStencilHouse$Reader;", true)
  | 3 => ("StencilHouse", "wall", "LStencilHouse$Wall;", true)
  | _ => ("StencilHouse", "orders", "LStencilHouse$Orders;", true)
def tyX10 : Nat → FieldType := fun k => match k with
  | 0 => .object "StencilHouse$Told"
  | 1 => .array (.object "StencilHouse$Told")
  | 2 => .object "StencilHouse$Reader"
  | 3 => .object "StencilHouse$Wall"
  | _ => .object "StencilHouse$Orders"
theorem nmX10 : ∀ a, a < 5 → ∀ b, b < 5 → a ≠ b → (TX10 a).2.1 ≠ (TX10 b).2.1 := by decide +kernel
theorem tyokX10 : ∀ k, k < 5 → parseFieldDescriptor (TX10 k).2.2.1 = some (tyX10 k) := by decide +kernel
def RX11 : String := "StencilHouseModel"
def TX11 : u_T := fun k => match k with
  | 0 => ("StencilHouseModel", "code", "I", false)
  | 1 => ("StencilHouseModel", "tape", "[B", true)
  | 2 => ("StencilHouseModel", "size", "[I", true)
  | 3 => ("StencilHouseModel", "fault", "[I", true)
  | 4 => ("StencilHouseModel", "faultPlace", "[I", true)
  | 5 => ("StencilHouseModel", "many", "[I", true)
  | 6 => ("StencilHouseModel", "shops", "[I", true)
  | 7 => ("StencilHouseModel", "days", "[I", true)
  | 8 => ("StencilHouseModel", "pictures", "[I", true)
  | 9 => ("StencilHouseModel", "marks", "[I", true)
  | 10 => ("StencilHouseModel", "reached", "I", false)
  | 11 => ("StencilHouseModel", "length", "I", false)
  | 12 => ("StencilHouseModel", "begins", "I", false)
  | 13 => ("StencilHouseModel", "sort", "I", false)
  | 14 => ("StencilHouseModel", "value", "I", false)
  | 15 => ("StencilHouseModel", "word", "J", false)
  | 16 => ("StencilHouseModel", "wrongAt", "I", false)
  | 17 => ("StencilHouseModel", "laterFault", "I", false)
  | 18 => ("StencilHouseModel", "laterPlace", "I", false)
  | 19 => ("StencilHouseModel", "told", "[I", true)
  | 20 => ("StencilHouseModel", "read", "[I", true)
  | 21 => ("StencilHouseModel", "farOne", "I", false)
  | 22 => ("StencilHouseModel", "good", "Z", false)
  | 23 => ("StencilHouseModel", "shop", "I", false)
  | 24 => ("StencilHouseModel", "wide", "I", false)
  | 25 => ("StencilHouseModel", "high", "I", false)
  | 26 => ("StencilHouseModel", "cells", "I", false)
  | 27 => ("StencilHouseModel", "sheets", "I", false)
  | 28 => ("StencilHouseModel", "sprays", "I", false)
  | 29 => ("StencilHouseModel", "cut", "[I", true)
  | 30 => ("StencilHouseModel", "open", "[I", true)
  | 31 => ("StencilHouseModel", "right", "[I", true)
  | 32 => ("StencilHouseModel", "down", "[I", true)
  | 33 => ("StencilHouseModel", "sprayed", "[I", true)
  | 34 => ("StencilHouseModel", "wall", "[I", true)
  | 35 => ("StencilHouseModel", "day", "I", false)
  | 36 => ("StencilHouseModel", "over", "I", false)
  | 37 => ("StencilHouseModel", "washed", "I", false)
  | 38 => ("StencilHouseModel", "picture", "I", false)
  | 39 => ("StencilHouseModel", "row", "[I", true)
  | 40 => ("StencilHouseModel", "rowColour", "[I", true)
  | 41 => ("StencilHouseModel", "bestRow", "[I", true)
  | 42 => ("StencilHouseModel", "ends", "[I", true)
  | 43 => ("StencilHouseModel", "which", "I", false)
  | 44 => ("StencilHouseModel", "mark", "I", false)
  | 45 => ("StencilHouseModel", "found", "I", false)
  | 46 => ("StencilHouseModel", "asked", "I", false)
  | 47 => ("StencilHouseModel", "last", "I", false)
  | 48 => ("StencilHouseModel", "tops", "[I", true)
  | 49 => ("StencilHouseModel", "seed", "I", false)
  | _ => ("StencilHouseModel", "saved", "[Z", true)
def tyX11 : Nat → FieldType := fun k => match k with
  | 0 => .int
  | 1 => .array .byte
  | 2 => .array .int
  | 3 => .array .int
  | 4 => .array .int
  | 5 => .array .int
  | 6 => .array .int
  | 7 => .array .int
  | 8 => .array .int
  | 9 => .array .int
  | 10 => .int
  | 11 => .int
  | 12 => .int
  | 13 => .int
  | 14 => .int
  | 15 => .long
  | 16 => .int
  | 17 => .int
  | 18 => .int
  | 19 => .array .int
  | 20 => .array .int
  | 21 => .int
  | 22 => .boolean
  | 23 => .int
  | 24 => .int
  | 25 => .int
  | 26 => .int
  | 27 => .int
  | 28 => .int
  | 29 => .array .int
  | 30 => .array .int
  | 31 => .array .int
  | 32 => .array .int
  | 33 => .array .int
  | 34 => .array .int
  | 35 => .int
  | 36 => .int
  | 37 => .int
  | 38 => .int
  | 39 => .array .int
  | 40 => .array .int
  | 41 => .array .int
  | 42 => .array .int
  | 43 => .int
  | 44 => .int
  | 45 => .int
  | 46 => .int
  | 47 => .int
  | 48 => .array .int
  | 49 => .int
  | _ => .array .boolean
theorem nmX11 : ∀ a, a < 51 → ∀ b, b < 51 → a ≠ b → (TX11 a).2.1 ≠ (TX11 b).2.1 := by decide +kernel
theorem tyokX11 : ∀ k, k < 51 → parseFieldDescriptor (TX11 k).2.2.1 = some (tyX11 k) := by decide +kernel
def classes : List vw_C := [(RX0, TX0, 2), (RX2, TX2, 4), (RX3, TX3, 7), (RX4, TX4, 1), (RX5, TX5, 11), (RX6, TX6, 11), (RX7, TX7, 6), (RX8, TX8, 9), (RX9, TX9, 12), (RX10, TX10, 5), (RX11, TX11, 51)]
def clty : List (Nat → FieldType) := [tyX0, tyX2, tyX3, tyX4, tyX5, tyX6, tyX7, tyX8, tyX9, tyX10, tyX11]
end
section
/-! THE ABSTRACT MACHINE. A value: an int, a long, a reference to the object of a kind and a number, null (true) or nothing known (false). The memory: whole numbers, other values, what is alive, each by kind, number, place. -/
abbrev AV : Type := Int32 ⊕ Int64 ⊕ (Nat × Nat) ⊕ Bool
abbrev aI (x : Int32) : AV := .inl x
abbrev aL (x : Int64) : AV := .inr (.inl x)
abbrev aR (c i : Nat) : AV := .inr (.inr (.inl (c, i)))
abbrev aN : AV := .inr (.inr (.inr true))
abbrev aU : AV := .inr (.inr (.inr false))
abbrev MI : Type := Nat → Nat → Nat → Int32
abbrev MR : Type := Nat → Nat → Nat → AV
abbrev LV : Type := Nat → Nat → Bool
abbrev MM : Type := MI × MR × LV
abbrev PL : Type := List (Nat × Nat)
abbrev PO : Type := AV → MM → Prop
abbrev XT : Type := Nat → PL → Nat → Nat → List AV → List AV → MM → PO → Prop
def u3 {α : Type} (f : Nat → Nat → Nat → α) (c i k : Nat) (v : α) : Nat → Nat → Nat → α := fun c' i' k' => if c' = c ∧ i' = i ∧ k' = k then v else f c' i' k'
def u2 {α : Type} (f : Nat → Nat → Nat → α) (c i : Nat) (g : Nat → α) : Nat → Nat → Nat → α := fun c' i' k' => if c' = c ∧ i' = i then g k' else f c' i' k'
def u1 {α : Type} (f : Nat → Nat → α) (c i : Nat) (v : α) : Nat → Nat → α := fun c' i' => if c' = c ∧ i' = i then v else f c' i'
/-- the kinds of objects: 0 Day, 1 Marks, 2 Orders, 3 Picture, 4 Reader, 5 Shop, 6 Tokens, 7 Told, 8 Wall, 9 the house, 10 the model; 11 the script, 12 .. 15 its own static arrays, 16 a text, 17 its bytes; arrays from 20 on -/
def aks : List (FieldType × Nat) := [(.int, 600), (.int, 4), (.object "StencilHouse$Shop", 2), (.object "StencilHouse$Day", 2), (.object "StencilHouse$Picture", 2), (.object "StencilHouse$Marks", 2), (.int, 6), (.int, 6), (.int, 6), (.int, 160), (.int, 25), (.int, 8), (.int, 8), (.int, 8), (.int, 30), (.int, 5), (.int, 0), (.int, 10), (.int, 6), (.int, 6), (.int, 6), (.int, 6), (.int, 6), (.int, 6), (.int, 6), (.int, 10), (.int, 175), (.object "StencilHouse$Told", 3), (.int, 0), (.int, 0), (.byte, 2400), (.int, 4), (.int, 4), (.int, 4), (.int, 16), (.int, 320), (.int, 1288), (.int, 208), (.int, 264), (.int, 161), (.int, 5), (.int, 6), (.int, 6), (.int, 6), (.int, 6), (.int, 6), (.int, 25), (.int, 6), (.int, 6), (.int, 6), (.int, 117649), (.int, 175), (.boolean, 3)]
def ak (c : Nat) : Option (FieldType × Nat) := match Nat.ble 20 c with
  | true => aks[c - 20]?
  | false => none
def stk (c : Nat) : Bool := Nat.ble 11 c && Nat.ble c 19
def sta (c : Nat) : Option (List Int32) := match c with
  | 12 => some [0, 4, 10, 11, 13]
  | 13 => some [2, 1, -1, 2, 2, 1, 1, 3, 3, 1, -1, 3, 2]
  | 14 => some [1, 1, 0, 0, 0, 0, 0, 0, 0, 0, 1, 0, 0, 1, 0, 0, 0, 0, 0, 0, 0, 0, 0, 0, 0, 0, 0, 1, 0, 0, 0, 0, 0, 0, 0, 0, 0, 0, 0]
  | 15 => some [5, 5, 0, 10, 0, 0, 31, 0, 0, 5, 9, 0, 5, 9, 0, 5, 0, 0, 5, 0, 0, 5, 4, 4, 5, 4, 4, 9, 0, 0, 9, 0, 0, 4, 4, 5, 4, 4, 0]
  | _ => none
def stx : List (List Int32) := [[115, 105, 122, 101], [115, 108, 105, 112], [115, 104, 101, 101, 116], [119, 101, 97, 114], [115, 112, 114, 97, 121], [102, 108, 105, 112], [116, 117, 114, 110], [115, 108, 105, 100, 101], [112, 97, 116, 99, 104], [119, 97, 115, 104], [114, 111, 119], [116, 111, 112], [98, 97, 114, 101]]
/-- links of a class: fields (kind, place, whether a whole number); calls (how, which, arguments beside the receiver, locals, answer, objects made); constants; made classes; array classes; static fields -/
abbrev LK : Type := List (Nat × Nat × Nat × Bool) × List (Nat × Nat × Nat × Nat × Nat × Nat × Nat) × List (Nat × AV) × List (Nat × Nat) × List (Nat × FieldType) × List (Nat × AV)
def cI (n : Int) : Int32 := match n with
  | .ofNat n => Int32.ofNat n
  | .negSucc n => - Int32.ofNat (n + 1)
def tg (pc : Nat) (off : Int) : Nat := match off with
  | .ofNat n => pc + n
  | .negSucc n => pc - (n + 1)
def pI (S : List AV) (f : Int32 → List AV → Prop) : Prop := match S with
  | .inl x :: S => f x S
  | _ => False
def pL (S : List AV) (f : Int64 → List AV → Prop) : Prop := match S with
  | .inr (.inl x) :: S => f x S
  | _ => False
def pR (S : List AV) (f : Nat → Nat → List AV → Prop) : Prop := match S with
  | .inr (.inr (.inl q)) :: S => f q.1 q.2 S
  | _ => False
/-- a reference or null -/
def pA (S : List AV) (f : AV → List AV → Prop) : Prop := match S with
  | .inr (.inr (.inl q)) :: S => f (aR q.1 q.2) S
  | .inr (.inr (.inr true)) :: S => f aN S
  | _ => False
def pN (S : List AV) (fr fn : List AV → Prop) : Prop := match S with
  | .inr (.inr (.inl _)) :: S => fr S
  | .inr (.inr (.inr true)) :: S => fn S
  | _ => False
def pV (S : List AV) (f : AV → List AV → Prop) : Prop := match S with
  | v :: S => f v S
  | _ => False
/-- a list's row of a key -/
def pK {α : Type} (l : List (Nat × α)) (k : Nat) (f : α → Prop) : Prop := match l.lookup k with
  | some v => f v
  | none => False
/-- a class's kind -/
def pB (b : Bool) (A : Prop) : Prop := match b with
  | true => A
  | false => False
def pP (P : PL) (f : Nat → Nat → PL → Prop) : Prop := match P with
  | q :: P => f q.1 q.2 P
  | [] => False
def pO {α : Type} (o : Option α) (f : α → Prop) : Prop := match o with
  | some v => f v
  | none => False
/-- an answer of one word that is a whole number -/
def isIT2 (t : FieldType) : Bool := match t with
  | .boolean | .byte | .char => true
  | _ => false
def p1 (v : AV) (f : AV → Prop) : Prop := match v with
  | .inl x => f (aI x)
  | .inr (.inr (.inl q)) => f (aR q.1 q.2)
  | .inr (.inr (.inr true)) => f aN
  | _ => False
def gL (L : List AV) (k : Nat) : AV := L.getD k aU
/-- a value of one word comes into a local -/
def sL (L : List AV) (k : Nat) (v : AV) (f : List AV → Prop) : Prop := match Nat.blt k L.length with
  | true => (match k with
    | 0 => f (L.set 0 v)
    | j + 1 => (match gL L j with
      | .inr (.inl _) => False
      | _ => f (L.set (j + 1) v)))
  | false => False
def sL2 (L : List AV) (k : Nat) (x : Int64) (f : List AV → Prop) : Prop := match Nat.blt (k + 1) L.length with
  | true => (match k with
    | 0 => f ((L.set 0 (aL x)).set 1 aU)
    | j + 1 => (match gL L j with
      | .inr (.inl _) => False
      | _ => f ((L.set (j + 1) (aL x)).set (j + 2) aU)))
  | false => False
def brc (c : Jvm.ClassFile.Cond) (x y : Int32) (a b : Prop) : Prop := match c with
  | .eq => (x = y → a) ∧ (¬ x = y → b)
  | .ne => (¬ x = y → a) ∧ (x = y → b)
  | .lt => (x < y → a) ∧ (¬ x < y → b)
  | .ge => (y ≤ x → a) ∧ (¬ y ≤ x → b)
  | .gt => (y < x → a) ∧ (¬ y < x → b)
  | .le => (x ≤ y → a) ∧ (¬ x ≤ y → b)
def onI (f : Int32 → MM → Prop) : PO := fun v M => match v with
  | .inl x => f x M
  | _ => False
def onA (c : Nat) (fn : MM → Prop) (f : Nat → MM → Prop) : PO := fun v M => match v with
  | .inr (.inr (.inl q)) => q.1 = c ∧ f q.2 M
  | .inr (.inr (.inr true)) => fn M
  | _ => False
/-- behind a call, by the kind of its answer: none, a whole number, a reference to an object of a kind or null -/
def onR (r : Nat) (fv : MM → Prop) (f : AV → MM → Prop) : PO := match r with
  | 0 => fun _ M => fv M
  | 1 => onI fun x M => f (aI x) M
  | r + 2 => onA r (fun M => f aN M) (fun j M => f (aR r j) M)
/-- one more call -/
def pD (d : Nat) (f : Nat → Prop) : Prop := match d with
  | 0 => False
  | d + 1 => f d
def isInt (t : FieldType) : Bool := match t with
  | .int => true
  | _ => false
/-- the locals at a method's entry -/
def ent : List AV → Nat → List AV
  | [], n => List.replicate n aU
  | .inr (.inl x) :: A, n => .inr (.inl x) :: aU :: ent A (n - 2)
  | v :: A, n => v :: ent A (n - 1)
def swT (x : Int32) (pc : Nat) (J : Nat → Prop) : Int → List Int → Prop
  | _, [] => True
  | lo, o :: os => (x = cI lo → J (tg pc o)) ∧ swT x pc J (lo + 1) os
def swL (x : Int32) (pc : Nat) (J : Nat → Prop) (dflt : Int) : List (Int × Int) → Prop
  | [] => J (tg pc dflt)
  | (v, o) :: os => (x = cI v → J (tg pc o)) ∧ (¬ x = cI v → swL x pc J dflt os)
def dv (t : FieldType) : AV := match t with
  | .long => aL 0
  | _ => aN
def isIT (t : FieldType) : Bool := match t with
  | .int | .boolean | .byte => true
  | _ => false
/-- the types of the objects' places -/
def fts : List (List FieldType) := [[.int, .array .int],
  [.int, .array .int, .array .int, .array .int],
  [.array .int, .array .int, .array .int, .array .int, .array .int, .int, .int],
  [.array .int],
  [.object "StencilHouse$Shop", .object "StencilHouse$Day", .object "StencilHouse$Picture", .object "StencilHouse$Marks", .int, .int, .object "StencilHouse$Tokens", .array .int, .array .int, .int, .int],
  [.int, .int, .int, .int, .array .int, .array .int, .array .int, .int, .int, .int, .int],
  [.array .int, .int, .int, .int, .int, .int],
  [.array .int, .int, .int, .int, .array .int, .array (.object "StencilHouse$Shop"), .array (.object "StencilHouse$Day"), .array (.object "StencilHouse$Picture"), .array (.object "StencilHouse$Marks")],
  [.object "StencilHouse$Shop", .array .int, .array .int, .array .int, .array .int, .array .int, .int, .int, .int, .int, .int, .int],
  [.object "StencilHouse$Told", .array (.object "StencilHouse$Told"), .object "StencilHouse$Reader", .object "StencilHouse$Wall", .object "StencilHouse$Orders"],
  [.int, .array .byte, .array .int, .array .int, .array .int, .array .int, .array .int, .array .int, .array .int, .array .int, .int, .int, .int, .int, .int, .long, .int, .int, .int, .array .int, .array .int, .int, .boolean, .int, .int, .int, .int, .int, .int, .array .int, .array .int, .array .int, .array .int, .array .int, .array .int, .int, .int, .int, .int, .array .int, .array .int, .array .int, .array .int, .int, .int, .int, .int, .int, .array .int, .int, .array .boolean]]
/-- the type of a place -/
def ftk (c k : Nat) : FieldType := match Nat.ble 20 c with
  | true => (match aks[c - 20]? with
    | some q => q.1
    | none => .int)
  | false => (fts.getD c []).getD k .int
def sz1 (k : Nat) : Nat := match Nat.ble 20 k with
  | true => ((ak k).getD (.int, 0)).2
  | false => (classes.getD k ("", fun _ => ("", "", "", false), 0)).2.2
/-- an object that was made: its places are empty, it is alive -/
def mk (M : MM) (c i : Nat) : MM := (u2 M.1 c i (fun _ => 0), u2 M.2.1 c i (fun k => if k < sz1 c then dv (ftk c k) else M.2.1 c i k), u1 M.2.2 c i true)
/-- whether a place is final -/
def finB (c j : Nat) : Bool := ((classes.getD c ("", fun _ => ("", "", "", false), 0)).2.1 j).2.2.2
def stepI (gl : Nat) (gx : Nat → Int32) (X : XT) (d : Nat) (R : LK) (rt : Option FieldType) (hw : Nat) (oc : String) (Q : PO) (K J : Nat → PL → List AV → List AV → MM → Prop) (i : Instr) (pc : Nat) (P : PL) (L S : List AV) (M : MM) : Prop :=
  match i with
  | .aload_n k => pA [gL L k.val] fun v _ => K (pc + 1) P L (v :: S) M
  | .aload k => pA [gL L k] fun v _ => K (pc + 2) P L (v :: S) M
  | .iload_n k => pI [gL L k.val] fun x _ => K (pc + 1) P L (aI x :: S) M
  | .iload k => pI [gL L k] fun x _ => K (pc + 2) P L (aI x :: S) M
  | .lload_n k => pL [gL L k.val] fun x _ => K (pc + 1) P L (aL x :: S) M
  | .lload k => pL [gL L k] fun x _ => K (pc + 2) P L (aL x :: S) M
  | .astore_n k => pA S fun v S => sL L k.val v fun L => K (pc + 1) P L S M
  | .astore k => pA S fun v S => sL L k v fun L => K (pc + 2) P L S M
  | .istore_n k => pI S fun x S => sL L k.val (aI x) fun L => K (pc + 1) P L S M
  | .istore k => pI S fun x S => sL L k (aI x) fun L => K (pc + 2) P L S M
  | .lstore k => pL S fun x S => sL2 L k x fun L => K (pc + 2) P L S M
  | .iinc k n => pI [gL L k] fun x _ => sL L k (aI (x + cI n)) fun L => K (pc + 3) P L S M
  | .iconst n => K (pc + 1) P L (aI (cI n) :: S) M
  | .bipush n => K (pc + 2) P L (aI (cI n) :: S) M
  | .sipush n => K (pc + 3) P L (aI (cI n) :: S) M
  | .lconst n => K (pc + 1) P L (aL (Int64.ofNat n.val) :: S) M
  | .aconst_null => K (pc + 1) P L (aN :: S) M
  | .ldc k => pK R.2.2.1 k fun v => p1 v fun v => K (pc + 2) P L (v :: S) M
  | .ldc_w k => pK R.2.2.1 k fun v => pI [v] fun x _ => K (pc + 3) P L (aI x :: S) M
  | .ldc2_w k => pK R.2.2.1 k fun v => pL [v] fun x _ => K (pc + 3) P L (aL x :: S) M
  | .iadd => pI S fun y S => pI S fun x S => K (pc + 1) P L (aI (x + y) :: S) M
  | .isub => pI S fun y S => pI S fun x S => K (pc + 1) P L (aI (x - y) :: S) M
  | .imul => pI S fun y S => pI S fun x S => K (pc + 1) P L (aI (x * y) :: S) M
  | .idiv => pI S fun y S => pI S fun x S => ¬ y = 0 ∧ K (pc + 1) P L (aI (x / y) :: S) M
  | .irem => pI S fun y S => pI S fun x S => ¬ y = 0 ∧ K (pc + 1) P L (aI (x - x / y * y) :: S) M
  | .iand => pI S fun y S => pI S fun x S => K (pc + 1) P L (aI (x &&& y) :: S) M
  | .ior => pI S fun y S => pI S fun x S => K (pc + 1) P L (aI (x ||| y) :: S) M
  | .ixor => pI S fun y S => pI S fun x S => K (pc + 1) P L (aI (x ^^^ y) :: S) M
  | .ishl => pI S fun y S => pI S fun x S => K (pc + 1) P L (aI (x <<< (y &&& 31)) :: S) M
  | .ishr => pI S fun y S => pI S fun x S => K (pc + 1) P L (aI (x >>> (y &&& 31)) :: S) M
  | .iushr => pI S fun y S => pI S fun x S => K (pc + 1) P L (aI ((x.toUInt32 >>> (y.toUInt32 &&& Int32.toUInt32 31)).toInt32) :: S) M
  | .ineg => pI S fun x S => K (pc + 1) P L (aI (- x) :: S) M
  | .i2l => pI S fun x S => K (pc + 1) P L (aL x.toInt64 :: S) M
  | .i2b => pI S fun x S => K (pc + 1) P L (aI x.toInt8.toInt32 :: S) M
  | .i2c => pI S fun x S => K (pc + 1) P L (aI (x.toUInt32 % 65536).toInt32 :: S) M
  | .lshl => pI S fun y S => pL S fun x S => K (pc + 1) P L (aL (x <<< (y.toInt64 &&& 63)) :: S) M
  | .lor => pL S fun y S => pL S fun x S => K (pc + 1) P L (aL (x ||| y) :: S) M
  | .lcmp => pL S fun y S => pL S fun x S => K (pc + 1) P L (aI (lg_cmp x y) :: S) M
  | .dup => pV S fun v S => p1 v fun v => K (pc + 1) P L (v :: v :: S) M
  | .dup2 => pV S fun w S => pV S fun v S => p1 w fun w => p1 v fun v => K (pc + 1) P L (w :: v :: w :: v :: S) M
  | .pop => pV S fun v S => p1 v fun _ => K (pc + 1) P L S M
  | .goto o => J (tg pc o) P L S M
  | .if_icmp c o => pI S fun y S => pI S fun x S => brc c x y (J (tg pc o) P L S M) (K (pc + 3) P L S M)
  | .ifCond c o => pI S fun x S => brc c x 0 (J (tg pc o) P L S M) (K (pc + 3) P L S M)
  | .ifnull o => pN S (fun S => K (pc + 3) P L S M) (fun S => J (tg pc o) P L S M)
  | .ifnonnull o => pN S (fun S => J (tg pc o) P L S M) (fun S => K (pc + 3) P L S M)
  | .tableswitch o lo hi os => pI S fun x S => (x < cI lo ∨ cI hi < x → J (tg pc o) P L S M) ∧ swT x pc (fun t => J t P L S M) lo os.toList
  | .lookupswitch o ps => pI S fun x S => swL x pc (fun t => J t P L S M) o ps.toList
  | .getfield k => pR S fun c i S => pK R.1 k fun e => pB (Nat.beq c e.1) (match Nat.beq e.1 16 with
    | true => K (pc + 3) P L ((match e.2.2 with
      | true => aI 0
      | false => aR 17 i) :: S) M
    | false => K (pc + 3) P L ((match e.2.2 with
      | true => aI (M.1 c i e.2.1)
      | false => M.2.1 c i e.2.1) :: S) M)
  | .putfield k => pV S fun v S => pR S fun c i S => pK R.1 k fun e => pB (Nat.beq c e.1) <| pB (match finB c e.2.1 with
    | true => Nat.beq hw 2 && decide (oc = (classes.getD c ("", fun _ => ("", "", "", false), 0)).1)
    | false => Nat.blt c 11) (match e.2.2 with
    | true => pI [v] fun x _ => (match ftk c e.2.1 with
      | .int => K (pc + 3) P L S (u3 M.1 c i e.2.1 x, M.2)
      | t => (narrow t (.int x) = .int x ∧ fits t (.int x) = true) ∧ K (pc + 3) P L S (u3 M.1 c i e.2.1 x, M.2))
    | false => (match ftk c e.2.1 with
      | .long => pL [v] fun x _ => K (pc + 3) P L S (M.1, u3 M.2.1 c i e.2.1 (aL x), M.2.2)
      | _ => pA [v] fun v _ => K (pc + 3) P L S (M.1, u3 M.2.1 c i e.2.1 v, M.2.2)))
  | .getstatic k => pK R.2.2.2.2.2 k fun v => p1 v fun v => K (pc + 3) P L (v :: S) M
  | .iaload => pI S fun j S => pR S fun c i S => (match ak c with
    | some q => pB (isInt q.1) (vp_in j q.2 ∧ K (pc + 1) P L (aI (M.1 c i j.toNatClampNeg) :: S) M)
    | none => (match sta c with
      | some l => vp_in j l.length ∧ K (pc + 1) P L (aI (l.getD j.toNatClampNeg 0) :: S) M
      | none => pB (Nat.beq c 11) (vp_in j gl ∧ K (pc + 1) P L (aI (gx j.toNatClampNeg) :: S) M)))
  | .baload => pI S fun j S => pR S fun c i S => (match ak c with
    | some q => pB (isIT q.1 && !isInt q.1) (vp_in j q.2 ∧ K (pc + 1) P L (aI (M.1 c i j.toNatClampNeg) :: S) M)
    | none => pB (Nat.beq c 17) (vp_in j (stx.getD i []).length ∧ K (pc + 1) P L (aI ((stx.getD i []).getD j.toNatClampNeg 0) :: S) M))
  | .aaload => pI S fun j S => pR S fun c i S => pO (ak c) fun q => (match q.1 with
    | .object _ => vp_in j q.2 ∧ K (pc + 1) P L (M.2.1 c i j.toNatClampNeg :: S) M
    | _ => False)
  | .iastore => pI S fun x S => pI S fun j S => pR S fun c i S => pO (ak c) fun q => pB (isInt q.1) (vp_in j q.2 ∧ K (pc + 1) P L S (u3 M.1 c i j.toNatClampNeg x, M.2))
  | .bastore => pI S fun x S => pI S fun j S => pR S fun c i S => pO (ak c) fun q => pB (isIT q.1 && !isInt q.1) (vp_in j q.2 ∧ K (pc + 1) P L S (u3 M.1 c i j.toNatClampNeg (vp_nar q.1 x), M.2))
  | .aastore => pR S fun c' i' S => pI S fun j S => pR S fun c i S => pO (ak c) fun q => (match q.1 with
    | .object C => ((classes.getD c' ("", fun _ => ("", "", "", false), 0)).1 = C ∧ c' < 11) ∧ vp_in j q.2 ∧ K (pc + 1) P L S (M.1, u3 M.2.1 c i j.toNatClampNeg (aR c' i'), M.2.2)
    | _ => False)
  | .arraylength => pR S fun c i S => (match ak c with
    | some q => K (pc + 1) P L (aI (Int32.ofNat q.2) :: S) M
    | none => (match Nat.beq c 11 with
      | true => K (pc + 1) P L (aI (Int32.ofNat gl) :: S) M
      | false => pB (Nat.beq c 17) (K (pc + 1) P L (aI (Int32.ofNat (stx.getD i []).length) :: S) M)))
  | .new k => pP P fun c i P => pK R.2.2.2.1 k fun c' => pB (Nat.beq c c') (M.2.2 c i = false ∧ K (pc + 3) P L (aR c i :: S) (mk M c i))
  | .newarray t => pI S fun x S => pP P fun c i P => pO (ak c) fun q => (newarray.typeOf t = q.1 ∧ x = Int32.ofNat q.2) ∧ M.2.2 c i = false ∧ K (pc + 2) P L (aR c i :: S) (mk M c i)
  | .anewarray k => pI S fun x S => pP P fun c i P => pO (ak c) fun q => (R.2.2.2.2.1.lookup k = some q.1 ∧ x = Int32.ofNat q.2) ∧ M.2.2 c i = false ∧ K (pc + 3) P L (aR c i :: S) (mk M c i)
  | .ireturn => pI S fun x S => pB S.isEmpty (match rt with
    | some .int => Q (aI x) M
    | some t => (match isIT2 t with
      | true => narrow t (.int x) = .int x ∧ Q (aI x) M
      | false => False)
    | _ => False)
  | .areturn => pA S fun v S => pB S.isEmpty (match rt with
    | some (.object _) => Q v M
    | _ => False)
  | .return_ => pB S.isEmpty (match rt with
    | none => Q aU M
    | _ => False)
  | .invokevirtual k => pK R.2.1 k fun e => pR (S.drop e.2.2.1) fun c i T => pB (Nat.beq (c + 10) e.1) (pD d fun d => (T.length ≤ 4 ∧ (S.take e.2.2.1).length = e.2.2.1 ∧ (ent (aR c i :: (S.take e.2.2.1).reverse) e.2.2.2.1).length = e.2.2.2.1) ∧ X d (P.take e.2.2.2.2.2) e.2.1 0 (ent (aR c i :: (S.take e.2.2.1).reverse) e.2.2.2.1) [] M (onR e.2.2.2.2.1 (fun M => K (pc + 3) (P.drop e.2.2.2.2.2) L T M) fun v M => K (pc + 3) (P.drop e.2.2.2.2.2) L (v :: T) M))
  | .invokestatic k => pK R.2.1 k fun e => (match e.1 with
    | 1 => pD d fun d => ((S.drop e.2.2.1).length ≤ 4 ∧ (S.take e.2.2.1).length = e.2.2.1 ∧ (ent (S.take e.2.2.1).reverse e.2.2.2.1).length = e.2.2.2.1) ∧ X d (P.take e.2.2.2.2.2) e.2.1 0 (ent (S.take e.2.2.1).reverse e.2.2.2.1) [] M (onR e.2.2.2.2.1 (fun M => K (pc + 3) (P.drop e.2.2.2.2.2) L (S.drop e.2.2.1) M) fun v M => K (pc + 3) (P.drop e.2.2.2.2.2) L (v :: S.drop e.2.2.1) M)
    | 5 => pD d fun _ => pI S fun n S => pI S fun dp S => pR S fun c' i' S => pI S fun sp S => pR S fun c i S => pO (ak c) fun q => pO (ak c') fun q' => pB (isInt q.1 && isInt q'.1) ((S.length ≤ 4 ∧ ¬ sp < 0 ∧ ¬ dp < 0 ∧ ¬ n < 0 ∧ sp.toNatClampNeg + n.toNatClampNeg ≤ q.2 ∧ dp.toNatClampNeg + n.toNatClampNeg ≤ q'.2) ∧ K (pc + 3) P L S (u2 M.1 c' i' (va_cpy (M.1 c i) (M.1 c' i') sp.toNatClampNeg dp.toNatClampNeg n.toNatClampNeg), M.2))
    | 6 => pD d fun d => pD d fun _ => pI S fun n S => pI S fun x S => (S.length ≤ 4 ∧ ¬ x < 0 ∧ x < n) ∧ K (pc + 3) P L S M
    | 7 => pD d fun _ => pI S fun y S => pI S fun x S => S.length ≤ 4 ∧ K (pc + 3) P L (aI (if x < y then y else x) :: S) M
    | 8 => pD d fun _ => pI S fun y S => pI S fun x S => S.length ≤ 4 ∧ K (pc + 3) P L (aI (if y < x then y else x) :: S) M
    | _ => False)
  | .invokespecial k => pK R.2.1 k fun e => (match e.1 with
    | 2 => pR (S.drop e.2.2.1) fun c i T => pD d fun d => (T.length ≤ 4 ∧ (S.take e.2.2.1).length = e.2.2.1 ∧ (ent (aR c i :: (S.take e.2.2.1).reverse) e.2.2.2.1).length = e.2.2.2.1) ∧ X d (P.take e.2.2.2.2.2) e.2.1 0 (ent (aR c i :: (S.take e.2.2.1).reverse) e.2.2.2.1) [] M (fun _ M => K (pc + 3) (P.drop e.2.2.2.2.2) L T M)
    | 3 => pR (S.drop e.2.2.1) fun c i T => pD d fun d => (T.length ≤ 4 ∧ (S.take e.2.2.1).length = e.2.2.1 ∧ (ent (aR c i :: (S.take e.2.2.1).reverse) e.2.2.2.1).length = e.2.2.2.1) ∧ X d (P.take e.2.2.2.2.2) e.2.1 0 (ent (aR c i :: (S.take e.2.2.1).reverse) e.2.2.2.1) [] M (fun _ M => K (pc + 3) (P.drop e.2.2.2.2.2) L T M)
    | 4 => pD d fun _ => pR S fun _ _ S => S.length ≤ 4 ∧ K (pc + 3) P L S M
    | _ => False)
  | _ => False
/-- a run of pieces of code: it goes on from a place where a piece begins, and leaves to X at any other -/
def runB (gl : Nat) (gx : Nat → Int32) (X : XT) (d : Nat) (R : LK) (rt : Option FieldType) (hw : Nat) (oc : String) (Q : PO) (y : Nat) (T : List (Nat × List Instr)) : Nat → List Instr → Nat → PL → List AV → List AV → MM → Prop
  | 0, _, pc, P, L, S, M => X d P y pc L S M Q
  | f + 1, [], pc, P, L, S, M => (match T.lookup pc with
    | some is => runB gl gx X d R rt hw oc Q y T f is pc P L S M
    | none => X d P y pc L S M Q)
  | f + 1, i :: is, pc, P, L, S, M => stepI gl gx X d R rt hw oc Q (fun pc P L S M => runB gl gx X d R rt hw oc Q y T f is pc P L S M) (fun pc P L S M => runB gl gx X d R rt hw oc Q y T f [] pc P L S M) i pc P L S M
end
section
/-! THE TABLES of the abstract machine (by a program of ours out of the claim's own tables) -/
/-- links of StencilHouse$Day -/
def lk_0 : LK := ([(9, 0, 0, true), (15, 0, 1, false)], [(3, 4, 0, 0, 0, 0, 0), (19, 5, 0, 0, 0, 0, 0)], [], [], [], [])
/-- links of StencilHouse$Figures -/
def lk_1 : LK := ([(37, 5, 3, true), (41, 5, 6, false), (67, 5, 2, true), (73, 5, 1, true), (76, 5, 0, true), (87, 5, 4, false), (100, 5, 7, true)], [(9, 1, 5, 4, 7, 1, 0), (15, 15, 98, 1, 3, 1, 0), (21, 15, 94, 0, 1, 1, 0), (25, 15, 95, 1, 4, 1, 0), (28, 1, 313, 1, 1, 1, 0), (33, 1, 8, 2, 4, 1, 0), (45, 1, 11, 7, 12, 1, 0), (49, 1, 9, 2, 2, 1, 0), (53, 7, 0, 0, 0, 0, 0), (59, 1, 14, 3, 6, 1, 0), (63, 15, 101, 3, 6, 1, 0), (70, 15, 99, 2, 6, 1, 0), (79, 1, 20, 4, 4, 1, 0), (83, 15, 92, 2, 3, 1, 0), (90, 15, 102, 1, 6, 1, 0), (93, 15, 103, 1, 5, 1, 0), (96, 1, 26, 3, 4, 1, 0), (103, 15, 93, 2, 3, 1, 0), (106, 1, 30, 2, 4, 1, 0), (109, 1, 32, 1, 6, 1, 0), (113, 15, 90, 1, 2, 1, 0), (117, 1, 34, 2, 3, 1, 0), (120, 13, 66, 2, 6, 1, 0)], [], [], [], [])
/-- links of StencilHouse$Marks -/
def lk_2 : LK := ([(9, 1, 0, true), (15, 1, 1, false), (19, 1, 2, false), (22, 1, 3, false)], [(3, 4, 0, 0, 0, 0, 0), (25, 5, 0, 0, 0, 0, 0)], [], [], [], [])
/-- links of StencilHouse$Orders -/
def lk_3 : LK := ([(9, 2, 0, false), (15, 2, 1, false), (18, 2, 2, false), (21, 2, 3, false), (24, 2, 4, false), (27, 2, 5, true), (31, 2, 6, true), (57, 5, 3, true), (85, 5, 6, false), (92, 5, 7, true), (120, 1, 0, true), (125, 1, 1, false), (128, 1, 2, false), (135, 5, 0, true), (141, 1, 3, false), (147, 5, 1, true)], [(3, 4, 0, 0, 0, 0, 0), (34, 8, 0, 0, 0, 0, 0), (40, 12, 43, 2, 5, 0, 0), (44, 12, 44, 2, 4, 1, 0), (47, 13, 67, 1, 4, 1, 0), (53, 13, 66, 2, 6, 1, 0), (62, 12, 46, 2, 6, 1, 0), (66, 12, 41, 2, 3, 0, 0), (69, 12, 48, 1, 6, 1, 0), (72, 12, 47, 0, 2, 1, 0), (76, 5, 0, 0, 0, 0, 0), (82, 12, 42, 0, 4, 1, 0), (88, 12, 49, 1, 3, 1, 0), (95, 12, 51, 1, 6, 1, 0), (99, 12, 58, 0, 2, 0, 0), (102, 12, 56, 2, 5, 1, 0), (106, 12, 55, 0, 3, 1, 0), (110, 12, 54, 0, 1, 1, 0), (113, 12, 59, 1, 5, 0, 0), (117, 12, 60, 1, 8, 1, 0), (131, 15, 92, 2, 3, 1, 0), (138, 12, 57, 2, 4, 1, 0), (144, 15, 93, 2, 3, 1, 0), (150, 7, 0, 0, 0, 0, 0)], [], [], [], [])
/-- links of StencilHouse$Picture -/
def lk_4 : LK := ([(9, 3, 0, false), (21, 5, 1, true), (27, 5, 0, true)], [(3, 4, 0, 0, 0, 0, 0), (15, 5, 0, 0, 0, 0, 0), (30, 13, 64, 2, 3, 1, 0), (34, 15, 92, 2, 3, 1, 0), (38, 13, 65, 1, 4, 1, 0)], [], [], [], [])
/-- links of StencilHouse$Reader -/
def lk_5 : LK := ([(12, 4, 0, false), (21, 4, 1, false), (28, 4, 2, false), (35, 4, 3, false), (39, 4, 4, true), (43, 4, 5, true), (49, 4, 6, false), (53, 4, 7, false), (57, 4, 8, false), (60, 4, 9, true), (63, 4, 10, true), (73, 6, 3, true), (80, 6, 4, true), (94, 0, 0, true), (98, 1, 0, true), (161, 5, 3, true), (164, 6, 5, true), (173, 5, 0, true), (176, 5, 1, true), (179, 5, 2, true), (197, 5, 5, false), (199, 3, 0, false), (205, 5, 4, false)], [(3, 4, 0, 0, 0, 0, 0), (11, 3, 85, 0, 1, 0, 3), (20, 3, 0, 0, 1, 0, 1), (27, 3, 61, 0, 1, 0, 1), (34, 3, 37, 0, 1, 0, 3), (48, 3, 105, 0, 1, 0, 1), (66, 14, 72, 0, 2, 0, 0), (69, 16, 106, 2, 3, 0, 0), (76, 14, 73, 1, 6, 1, 0), (83, 15, 88, 0, 2, 0, 0), (86, 14, 83, 1, 4, 0, 0), (90, 15, 89, 0, 2, 0, 0), (93, 15, 86, 0, 2, 0, 0), (97, 13, 62, 0, 2, 0, 0), (101, 14, 74, 1, 3, 1, 0), (105, 14, 76, 1, 2, 1, 0), (108, 14, 78, 2, 3, 0, 0), (112, 16, 107, 0, 1, 0, 0), (118, 14, 77, 2, 4, 0, 0), (121, 14, 79, 2, 3, 0, 0), (127, 1, 75, 1, 1, 18, 0), (131, 16, 110, 1, 3, 1, 0), (181, 14, 80, 1, 3, 0, 0), (184, 14, 81, 2, 3, 0, 0), (187, 14, 82, 1, 3, 0, 0), (190, 11, 38, 3, 4, 0, 0), (194, 10, 1, 4, 6, 0, 0), (202, 14, 84, 3, 5, 0, 0)], [(135, aR 16 0), (137, aR 16 1), (139, aR 16 2), (141, aR 16 3), (143, aR 16 4), (145, aR 16 5), (147, aR 16 6), (149, aR 16 7), (151, aR 16 8), (153, aR 16 9), (155, aR 16 10), (157, aR 16 11), (159, aR 16 12)], [(9, 5), (18, 0), (25, 3), (32, 1), (46, 6)], [(9, .object "StencilHouse$Shop"), (18, .object "StencilHouse$Day"), (25, .object "StencilHouse$Picture"), (32, .object "StencilHouse$Marks")], [(115, aR 13 0), (124, aR 12 0), (167, aR 14 0), (170, aR 15 0)])
/-- links of StencilHouse$Shop -/
def lk_6 : LK := ([(9, 5, 0, true), (15, 5, 1, true), (18, 5, 2, true), (21, 5, 3, true), (24, 5, 4, false), (28, 5, 5, false), (31, 5, 6, false), (34, 5, 7, true), (37, 5, 8, true), (40, 5, 9, true), (43, 5, 10, true)], [(3, 4, 0, 0, 0, 0, 0), (46, 5, 0, 0, 0, 0, 0), (52, 15, 100, 1, 2, 1, 0), (56, 15, 97, 1, 2, 1, 0), (59, 15, 99, 2, 6, 1, 0), (63, 15, 96, 1, 2, 1, 0), (66, 15, 98, 1, 3, 1, 0), (69, 15, 90, 1, 2, 1, 0)], [], [], [], [])
/-- links of StencilHouse$Tokens -/
def lk_7 : LK := ([(7, 6, 0, false), (13, 6, 1, true), (17, 6, 2, true), (20, 6, 3, true), (23, 6, 4, true), (26, 6, 5, true)], [(1, 4, 0, 0, 0, 0, 0), (29, 8, 0, 0, 0, 0, 0), (35, 16, 107, 0, 1, 0, 0), (38, 1, 111, 1, 1, 1, 0), (42, 1, 112, 1, 1, 1, 0), (45, 16, 108, 0, 1, 0, 0), (48, 1, 113, 1, 1, 1, 0), (51, 16, 109, 0, 1, 0, 0), (54, 26, 314, 0, 1, 1, 0), (59, 26, 317, 1, 2, 1, 0)], [], [], [], [])
/-- links of StencilHouse$Told -/
def lk_8 : LK := ([(9, 7, 0, false), (15, 7, 1, true), (19, 7, 2, true), (22, 7, 3, true), (25, 7, 4, false), (30, 7, 5, false), (36, 7, 6, false), (42, 7, 7, false), (48, 7, 8, false), (79, 4, 0, false), (85, 4, 1, false), (89, 4, 2, false), (93, 4, 3, false)], [(3, 4, 0, 0, 0, 0, 0), (52, 3, 85, 0, 1, 0, 3), (53, 3, 0, 0, 1, 0, 1), (54, 3, 61, 0, 1, 0, 1), (55, 3, 37, 0, 1, 0, 3), (56, 5, 0, 0, 0, 0, 0), (62, 15, 87, 1, 2, 0, 0), (66, 10, 3, 1, 2, 0, 0), (69, 13, 63, 1, 2, 0, 0), (72, 11, 39, 1, 2, 0, 0), (75, 17, 117, 2, 3, 1, 0)], [], [(28, 5), (34, 0), (40, 3), (46, 1)], [(28, .object "StencilHouse$Shop"), (34, .object "StencilHouse$Day"), (40, .object "StencilHouse$Picture"), (46, .object "StencilHouse$Marks")], [])
/-- links of StencilHouse$Wall -/
def lk_9 : LK := ([(12, 8, 0, false), (18, 8, 1, false), (22, 8, 2, false), (25, 8, 3, false), (28, 8, 4, false), (31, 8, 5, false), (34, 8, 6, true), (38, 8, 7, true), (41, 8, 8, true), (44, 8, 9, true), (47, 8, 10, true), (50, 8, 11, true), (53, 5, 4, false), (54, 0, 0, true), (74, 5, 3, true), (111, 5, 5, false), (123, 5, 0, true)], [(3, 4, 0, 0, 0, 0, 0), (11, 3, 85, 0, 1, 0, 3), (59, 10, 2, 2, 3, 1, 0), (63, 18, 131, 4, 5, 1, 0), (67, 18, 128, 0, 2, 0, 0), (70, 18, 130, 1, 2, 1, 0), (77, 18, 129, 2, 5, 0, 0), (82, 18, 132, 1, 2, 1, 0), (86, 15, 90, 1, 2, 1, 0), (89, 18, 133, 2, 5, 1, 0), (93, 15, 102, 1, 6, 1, 0), (96, 15, 103, 1, 5, 1, 0), (99, 18, 135, 3, 4, 1, 0), (103, 18, 136, 3, 5, 1, 0), (106, 1, 313, 1, 1, 1, 0), (114, 18, 137, 1, 2, 1, 0), (117, 18, 134, 2, 4, 0, 0), (120, 15, 92, 2, 3, 1, 0), (126, 15, 100, 1, 2, 1, 0), (129, 15, 101, 3, 6, 1, 0), (133, 18, 138, 0, 3, 1, 0), (137, 18, 142, 1, 3, 1, 0), (140, 15, 91, 1, 2, 1, 0)], [(81, aI (1103515245))], [(9, 5)], [(9, .object "StencilHouse$Shop")], [])
/-- links of StencilHouse -/
def lk_10 : LK := ([(10, 9, 0, false), (16, 9, 1, false), (23, 9, 2, false), (30, 9, 3, false), (37, 9, 4, false), (41, 7, 1, true), (49, 7, 2, true), (52, 7, 3, true), (59, 7, 0, false), (67, 4, 4, true), (68, 4, 5, true), (77, 5, 0, true), (82, 5, 1, true), (85, 5, 2, true), (88, 5, 3, true), (99, 0, 0, true), (123, 5, 4, false), (174, 5, 6, false), (189, 1, 0, true), (194, 1, 3, false), (197, 1, 1, false), (200, 1, 2, false), (238, 5, 7, true), (293, 8, 9, true), (299, 8, 10, true), (302, 8, 11, true), (311, 7, 4, false)], [(1, 4, 0, 0, 0, 0, 0), (9, 2, 114, 0, 2, 0, 30), (22, 3, 70, 0, 1, 0, 16), (29, 3, 124, 0, 1, 0, 9), (36, 3, 40, 0, 1, 0, 5), (45, 17, 116, 1, 3, 0, 0), (55, 17, 118, 2, 3, 1, 0), (63, 14, 71, 3, 5, 0, 0), (69, 17, 119, 3, 5, 1, 0), (73, 17, 120, 1, 2, 7, 0), (91, 15, 104, 1, 3, 1, 0), (95, 17, 121, 1, 2, 2, 0), (104, 10, 2, 2, 3, 1, 0), (108, 18, 125, 1, 3, 0, 0), (112, 18, 126, 2, 4, 1, 0), (116, 18, 141, 1, 3, 1, 0), (119, 15, 90, 1, 2, 1, 0), (126, 1, 4, 2, 4, 1, 0), (132, 1, 313, 1, 1, 1, 0), (137, 17, 122, 1, 2, 5, 0), (141, 12, 45, 2, 4, 1, 0), (145, 12, 52, 1, 2, 1, 0), (148, 1, 6, 1, 5, 1, 0), (152, 1, 7, 1, 4, 1, 0), (155, 1, 10, 2, 5, 1, 0), (158, 1, 9, 2, 2, 1, 0), (161, 15, 91, 1, 2, 1, 0), (164, 1, 12, 3, 5, 1, 0), (168, 1, 13, 2, 4, 1, 0), (171, 1, 15, 2, 6, 1, 0), (177, 1, 16, 3, 7, 1, 0), (180, 13, 64, 2, 3, 1, 0), (185, 17, 123, 1, 2, 3, 0), (203, 12, 53, 3, 8, 1, 0), (207, 18, 127, 2, 4, 0, 0), (211, 1, 17, 2, 5, 1, 0), (214, 1, 18, 2, 6, 1, 0), (217, 1, 19, 2, 5, 1, 0), (220, 1, 21, 2, 5, 1, 0), (223, 1, 22, 2, 6, 1, 0), (226, 1, 23, 1, 3, 1, 0), (229, 1, 24, 1, 3, 1, 0), (232, 1, 25, 1, 4, 1, 0), (235, 1, 27, 1, 3, 1, 0), (241, 15, 94, 0, 1, 1, 0), (245, 15, 95, 1, 4, 1, 0), (248, 1, 28, 1, 3, 1, 0), (251, 1, 29, 1, 4, 1, 0), (254, 1, 31, 1, 4, 1, 0), (257, 1, 30, 2, 4, 1, 0), (260, 1, 32, 1, 6, 1, 0), (263, 1, 33, 1, 2, 1, 0), (266, 1, 35, 1, 3, 1, 0), (269, 1, 34, 2, 3, 1, 0), (272, 12, 50, 1, 6, 1, 0), (275, 13, 68, 0, 3, 1, 0), (278, 13, 69, 0, 5, 1, 0), (281, 13, 66, 2, 6, 1, 0), (284, 13, 65, 1, 4, 1, 0), (287, 15, 98, 1, 3, 1, 0), (290, 1, 36, 2, 4, 1, 0), (296, 18, 139, 0, 4, 1, 0), (305, 18, 138, 0, 3, 1, 0), (308, 18, 140, 0, 3, 1, 0), (314, 17, 115, 1, 3, 0, 0)], [], [(7, 7), (20, 4), (27, 8), (34, 2)], [(7, .object "StencilHouse$Told")], [])
/-- links of StencilHouseModel -/
def lk_11 : LK := ([(7, 10, 1, false), (13, 10, 2, false), (17, 10, 3, false), (20, 10, 4, false), (23, 10, 5, false), (26, 10, 6, false), (29, 10, 7, false), (32, 10, 8, false), (35, 10, 9, false), (38, 10, 19, false), (41, 10, 20, false), (44, 10, 29, false), (47, 10, 30, false), (50, 10, 31, false), (53, 10, 32, false), (56, 10, 33, false), (59, 10, 34, false), (62, 10, 39, false), (65, 10, 40, false), (68, 10, 41, false), (72, 10, 42, false), (75, 10, 48, false), (78, 10, 50, false), (82, 10, 0, true), (102, 10, 10, true), (105, 10, 11, true), (112, 10, 12, true), (115, 10, 15, false), (119, 10, 13, true), (122, 10, 14, true), (125, 10, 16, true), (128, 10, 17, true), (131, 10, 18, true), (142, 10, 22, true), (176, 10, 21, true), (243, 10, 23, true), (250, 10, 24, true), (253, 10, 25, true), (256, 10, 26, true), (259, 10, 27, true), (268, 10, 28, true), (289, 10, 35, true), (292, 10, 36, true), (295, 10, 37, true), (361, 10, 38, true), (395, 10, 43, true), (413, 10, 44, true), (431, 10, 45, true), (434, 10, 46, true), (437, 10, 47, true), (464, 10, 49, true)], [(1, 4, 0, 0, 0, 0, 0), (86, 1, 177, 2, 2, 1, 0), (90, 1, 181, 4, 5, 0, 0), (94, 1, 176, 3, 3, 1, 0), (98, 20, 185, 1, 3, 0, 0), (108, 20, 187, 0, 1, 1, 0), (134, 20, 189, 0, 1, 1, 0), (138, 20, 190, 2, 3, 0, 0), (146, 20, 188, 0, 3, 0, 0), (149, 1, 179, 2, 2, 1, 0), (153, 20, 192, 3, 4, 0, 0), (157, 20, 193, 3, 5, 0, 0), (163, 20, 194, 1, 3, 1, 0), (173, 20, 191, 3, 4, 1, 0), (179, 1, 178, 2, 2, 1, 0), (194, 20, 196, 1, 3, 1, 0), (198, 20, 197, 1, 4, 0, 0), (207, 20, 195, 2, 4, 1, 0), (211, 20, 198, 2, 6, 1, 0), (214, 20, 199, 2, 5, 1, 0), (217, 20, 200, 2, 4, 1, 0), (220, 20, 201, 3, 5, 1, 0), (224, 20, 202, 1, 6, 1, 0), (227, 20, 203, 0, 3, 1, 0), (230, 20, 205, 3, 5, 0, 0), (234, 20, 183, 2, 3, 1, 0), (237, 20, 204, 1, 3, 1, 0), (240, 20, 206, 2, 3, 0, 0), (246, 20, 209, 1, 2, 1, 0), (262, 20, 212, 0, 3, 0, 0), (265, 20, 211, 0, 2, 0, 0), (271, 20, 218, 1, 2, 1, 0), (274, 20, 215, 1, 2, 1, 0), (277, 20, 216, 1, 4, 1, 0), (280, 20, 217, 1, 5, 1, 0), (283, 20, 210, 1, 2, 1, 0), (286, 20, 213, 1, 2, 1, 0), (298, 20, 223, 1, 2, 1, 0), (301, 20, 221, 0, 1, 1, 0), (304, 20, 222, 2, 3, 1, 0), (307, 20, 219, 3, 7, 1, 0), (311, 20, 225, 1, 2, 1, 0), (314, 20, 226, 2, 4, 0, 0), (317, 20, 229, 2, 3, 1, 0), (320, 20, 232, 1, 4, 1, 0), (323, 20, 227, 2, 3, 1, 0), (326, 20, 228, 2, 6, 1, 0), (330, 20, 230, 3, 4, 1, 0), (333, 20, 231, 3, 5, 1, 0), (336, 20, 233, 4, 5, 1, 0), (340, 20, 234, 1, 2, 1, 0), (343, 20, 236, 2, 3, 1, 0), (346, 20, 235, 1, 3, 1, 0), (349, 20, 214, 1, 2, 1, 0), (352, 20, 238, 0, 3, 1, 0), (355, 20, 239, 1, 3, 1, 0), (358, 1, 180, 1, 3, 1, 0), (364, 20, 243, 2, 3, 1, 0), (367, 20, 244, 1, 2, 1, 0), (370, 20, 245, 1, 5, 1, 0), (373, 20, 246, 2, 6, 1, 0), (376, 20, 247, 1, 7, 1, 0), (379, 20, 248, 2, 5, 0, 0), (383, 20, 242, 1, 2, 1, 0), (386, 20, 249, 0, 5, 1, 0), (389, 20, 251, 1, 4, 1, 0), (392, 20, 253, 1, 4, 1, 0), (398, 1, 255, 1, 3, 1, 0), (401, 20, 256, 2, 10, 1, 0), (404, 20, 257, 2, 6, 1, 0), (407, 20, 259, 3, 4, 1, 0), (410, 1, 260, 2, 5, 1, 0), (416, 20, 266, 1, 2, 1, 0), (419, 20, 265, 0, 1, 1, 0), (422, 20, 264, 2, 3, 1, 0), (425, 20, 269, 2, 4, 0, 0), (428, 20, 271, 1, 3, 1, 0), (440, 20, 268, 0, 2, 0, 0), (443, 20, 272, 0, 4, 1, 0), (446, 20, 273, 0, 3, 1, 0), (449, 20, 270, 0, 3, 1, 0), (452, 20, 275, 1, 4, 1, 0), (455, 20, 274, 1, 5, 0, 0), (458, 20, 277, 0, 3, 1, 0), (461, 20, 276, 0, 3, 1, 0), (468, 20, 279, 1, 2, 1, 0), (471, 20, 280, 0, 6, 0, 0), (474, 20, 282, 2, 5, 1, 0), (477, 20, 283, 2, 7, 1, 0), (480, 20, 284, 1, 4, 1, 0), (483, 20, 285, 2, 7, 1, 0), (486, 20, 292, 1, 4, 1, 0), (490, 20, 294, 2, 3, 1, 0), (493, 20, 296, 1, 4, 1, 0), (496, 20, 287, 1, 4, 1, 0), (500, 20, 288, 0, 6, 1, 0), (503, 20, 289, 0, 3, 1, 0), (506, 20, 290, 0, 3, 1, 0), (509, 20, 291, 0, 3, 1, 0), (512, 20, 293, 0, 3, 1, 0), (515, 20, 295, 1, 6, 1, 0), (518, 20, 297, 0, 3, 1, 0), (521, 20, 301, 0, 4, 1, 0), (524, 20, 303, 1, 4, 1, 0), (527, 20, 307, 0, 3, 1, 0), (530, 20, 308, 0, 3, 1, 0), (533, 20, 182, 2, 4, 0, 0)], [(71, aI (117649)), (161, aL (495672714612)), (167, aL (1936292453)), (169, aL (1936484720)), (171, aL (2003132786)), (182, aL (495807783289)), (184, aL (1718380912)), (186, aL (1953854062)), (188, aL (495740085349)), (190, aL (482671354728)), (192, aL (2002875240)), (201, aL (7499639)), (203, aL (7630704)), (205, aL (1650553445)), (467, aI (1103515245)), (489, aI (1000000))], [], [], [])
/-- links of java/lang/Integer -/
def lk_12 : LK := ([], [], [(265, aI (1431655765)), (266, aI (858993459)), (267, aI (252645135))], [], [], [])
/-- links of java/lang/String -/
def lk_13 : LK := ([(9, 16, 0, false), (15, 16, 1, true)], [(335, 26, 315, 0, 1, 1, 0), (492, 26, 316, 0, 1, 1, 0), (495, 1, 318, 2, 2, 1, 0)], [], [], [], [(38, aI 1)])
/-- links of java/lang/StringLatin1 -/
def lk_14 : LK := ([], [(9, 6, 0, 0, 0, 0, 0)], [], [], [], [])
/-- links of StencilHouseLaw -/
def lk_15 : LK := ([], [(9, 2, 143, 0, 1, 0, 65), (12, 2, 175, 0, 1, 0, 23), (13, 19, 144, 5, 6, 1, 0), (17, 20, 184, 5, 6, 1, 0), (18, 19, 145, 1, 2, 1, 0), (22, 20, 186, 1, 2, 1, 0), (23, 19, 146, 2, 4, 1, 0), (27, 20, 207, 2, 4, 1, 0), (28, 19, 147, 1, 2, 1, 0), (31, 20, 208, 1, 2, 1, 0), (32, 19, 148, 2, 4, 1, 0), (35, 20, 220, 2, 4, 1, 0), (36, 19, 149, 3, 5, 1, 0), (40, 20, 224, 3, 4, 1, 0), (41, 19, 150, 2, 5, 1, 0), (44, 20, 237, 2, 3, 1, 0), (45, 19, 151, 4, 7, 1, 0), (49, 20, 240, 4, 5, 1, 0), (50, 19, 152, 3, 6, 1, 0), (54, 20, 241, 3, 11, 1, 0), (55, 19, 153, 3, 7, 1, 0), (58, 20, 250, 3, 5, 1, 0), (59, 19, 154, 2, 5, 1, 0), (63, 20, 252, 2, 6, 1, 0), (64, 19, 155, 2, 5, 1, 0), (67, 20, 254, 2, 5, 1, 0), (68, 19, 156, 3, 5, 1, 0), (71, 20, 258, 3, 7, 1, 0), (72, 19, 157, 4, 9, 1, 0), (76, 20, 261, 4, 10, 1, 0), (77, 19, 158, 3, 5, 1, 0), (80, 20, 262, 3, 7, 1, 0), (81, 19, 159, 3, 5, 1, 0), (84, 20, 263, 3, 4, 1, 0), (85, 19, 160, 3, 5, 1, 0), (88, 20, 267, 3, 4, 1, 0), (89, 19, 161, 3, 6, 1, 0), (92, 20, 278, 3, 4, 1, 0), (93, 19, 162, 4, 6, 1, 0), (96, 20, 281, 4, 6, 1, 0), (97, 19, 163, 3, 6, 1, 0), (100, 20, 286, 3, 4, 1, 0), (101, 19, 164, 2, 4, 1, 0), (104, 20, 298, 2, 3, 1, 0), (105, 19, 165, 3, 5, 1, 0), (108, 20, 299, 3, 4, 1, 0), (109, 19, 166, 2, 4, 1, 0), (112, 20, 300, 2, 3, 1, 0), (113, 19, 167, 2, 5, 1, 0), (116, 20, 302, 2, 7, 1, 0), (117, 19, 168, 2, 4, 1, 0), (120, 20, 304, 2, 7, 1, 0), (121, 19, 169, 3, 7, 1, 0), (124, 20, 305, 3, 6, 1, 0), (125, 19, 170, 2, 5, 1, 0), (128, 20, 306, 2, 5, 1, 0), (129, 19, 171, 3, 6, 1, 0), (132, 20, 309, 3, 7, 1, 0), (133, 19, 172, 1, 2, 1, 0), (136, 20, 310, 1, 2, 1, 0), (137, 19, 173, 1, 3, 1, 31), (141, 20, 311, 1, 2, 1, 0), (142, 19, 174, 1, 3, 1, 0), (145, 20, 312, 1, 2, 1, 0)], [], [(7, 9), (10, 10)], [], [])
/-- methods: name, code, locals, answer, links -/
abbrev MT : Type := MethodName × ByteArray × Nat × Option FieldType × Nat × LK
def mtl_0 : List MT := [
  (⟨"StencilHouse$Day", "<init>", "()V"⟩, prog_2_method_1_code, 1, none, 2, lk_0),
  (⟨"StencilHouse$Day", "add", "(IIII)V"⟩, prog_2_method_2_code, 6, none, 1, lk_0),
  (⟨"StencilHouse$Day", "part", "(II)I"⟩, prog_2_method_3_code, 3, (Option.some .int), 1, lk_0),
  (⟨"StencilHouse$Day", "copyFrom", "(LStencilHouse$Day;)V"⟩, prog_2_method_4_code, 2, none, 1, lk_0),
  (⟨"StencilHouse$Figures", "fewestPatches", "(LStencilHouse$Shop;I)I"⟩, prog_3_method_2_code, 4, (Option.some .int), 0, lk_1),
  (⟨"StencilHouse$Figures", "leastPatches", "(LStencilHouse$Shop;III)I"⟩, prog_3_method_3_code, 7, (Option.some .int), 0, lk_1),
  (⟨"StencilHouse$Figures", "fewestCovering", "(LStencilHouse$Shop;)I"⟩, prog_3_method_4_code, 5, (Option.some .int), 0, lk_1),
  (⟨"StencilHouse$Figures", "mostApart", "(LStencilHouse$Shop;)I"⟩, prog_3_method_5_code, 4, (Option.some .int), 0, lk_1),
  (⟨"StencilHouse$Figures", "liesApart", "(LStencilHouse$Shop;I)Z"⟩, prog_3_method_6_code, 4, (Option.some .boolean), 0, lk_1),
  (⟨"StencilHouse$Figures", "duelWorth", "(LStencilHouse$Shop;I)I"⟩, prog_3_method_7_code, 2, (Option.some .int), 0, lk_1),
  (⟨"StencilHouse$Figures", "duelFirst", "(LStencilHouse$Shop;I)I"⟩, prog_3_method_8_code, 5, (Option.some .int), 0, lk_1),
  (⟨"StencilHouse$Figures", "bestWorth", "(LStencilHouse$Shop;IIIIII)I"⟩, prog_3_method_9_code, 12, (Option.some .int), 0, lk_1),
  (⟨"StencilHouse$Figures", "chanceOver", "(LStencilHouse$Shop;II)I"⟩, prog_3_method_10_code, 5, (Option.some .int), 0, lk_1),
  (⟨"StencilHouse$Figures", "chanceUnder", "(LStencilHouse$Shop;I)I"⟩, prog_3_method_11_code, 4, (Option.some .int), 0, lk_1),
  (⟨"StencilHouse$Figures", "openTenths", "(LStencilHouse$Shop;II)I"⟩, prog_3_method_12_code, 6, (Option.some .int), 0, lk_1),
  (⟨"StencilHouse$Figures", "greatestDivisor", "(II)I"⟩, prog_3_method_13_code, 6, (Option.some .int), 0, lk_1),
  (⟨"StencilHouse$Figures", "slidesWithin", "(LStencilHouse$Shop;II)I"⟩, prog_3_method_14_code, 7, (Option.some .int), 0, lk_1),
  (⟨"StencilHouse$Figures", "holeCount", "(LStencilHouse$Shop;I)I"⟩, prog_3_method_15_code, 5, (Option.some .int), 0, lk_1),
  (⟨"StencilHouse$Figures", "largestHole", "(LStencilHouse$Shop;I)I"⟩, prog_3_method_16_code, 6, (Option.some .int), 0, lk_1),
  (⟨"StencilHouse$Figures", "edge", "(LStencilHouse$Shop;I)I"⟩, prog_3_method_17_code, 5, (Option.some .int), 0, lk_1)]
def mtl_1 : List MT := [
  (⟨"StencilHouse$Figures", "isOpenAt", "(LStencilHouse$Shop;III)Z"⟩, prog_3_method_18_code, 4, (Option.some .boolean), 0, lk_1),
  (⟨"StencilHouse$Figures", "strokeCount", "(LStencilHouse$Shop;I)I"⟩, prog_3_method_19_code, 5, (Option.some .int), 0, lk_1),
  (⟨"StencilHouse$Figures", "longestStroke", "(LStencilHouse$Shop;I)I"⟩, prog_3_method_20_code, 6, (Option.some .int), 0, lk_1),
  (⟨"StencilHouse$Figures", "mirrored", "(LStencilHouse$Shop;)I"⟩, prog_3_method_21_code, 3, (Option.some .int), 0, lk_1),
  (⟨"StencilHouse$Figures", "turnedAlike", "(LStencilHouse$Shop;)I"⟩, prog_3_method_22_code, 3, (Option.some .int), 0, lk_1),
  (⟨"StencilHouse$Figures", "twins", "(LStencilHouse$Shop;)I"⟩, prog_3_method_23_code, 4, (Option.some .int), 0, lk_1),
  (⟨"StencilHouse$Figures", "areTwins", "(LStencilHouse$Shop;II)Z"⟩, prog_3_method_24_code, 4, (Option.some .boolean), 0, lk_1),
  (⟨"StencilHouse$Figures", "openToAll", "(LStencilHouse$Shop;)I"⟩, prog_3_method_25_code, 3, (Option.some .int), 0, lk_1),
  (⟨"StencilHouse$Figures", "fallingSheets", "(LStencilHouse$Shop;)I"⟩, prog_3_method_26_code, 3, (Option.some .int), 0, lk_1),
  (⟨"StencilHouse$Figures", "needed", "(LStencilHouse$Shop;)I"⟩, prog_3_method_27_code, 4, (Option.some .int), 0, lk_1),
  (⟨"StencilHouse$Figures", "openCount", "(LStencilHouse$Shop;I)I"⟩, prog_3_method_28_code, 4, (Option.some .int), 0, lk_1),
  (⟨"StencilHouse$Figures", "stackCell", "(LStencilHouse$Shop;)I"⟩, prog_3_method_29_code, 4, (Option.some .int), 0, lk_1),
  (⟨"StencilHouse$Figures", "nearestTwo", "(LStencilHouse$Shop;)I"⟩, prog_3_method_30_code, 6, (Option.some .int), 0, lk_1),
  (⟨"StencilHouse$Figures", "nearestUnlike", "(LStencilHouse$Shop;)I"⟩, prog_3_method_31_code, 2, (Option.some .int), 0, lk_1),
  (⟨"StencilHouse$Figures", "onTop", "(LStencilHouse$Shop;I)I"⟩, prog_3_method_32_code, 3, (Option.some .int), 0, lk_1),
  (⟨"StencilHouse$Figures", "hiddenSheets", "(LStencilHouse$Shop;)I"⟩, prog_3_method_33_code, 3, (Option.some .int), 0, lk_1),
  (⟨"StencilHouse$Figures", "offCount", "(LStencilHouse$Shop;LStencilHouse$Picture;)I"⟩, prog_3_method_34_code, 4, (Option.some .int), 0, lk_1),
  (⟨"StencilHouse$Marks", "<init>", "()V"⟩, prog_4_method_1_code, 1, none, 2, lk_2),
  (⟨"StencilHouse$Marks", "add", "(III)V"⟩, prog_4_method_2_code, 4, none, 1, lk_2),
  (⟨"StencilHouse$Marks", "copyFrom", "(LStencilHouse$Marks;)V"⟩, prog_4_method_3_code, 2, none, 1, lk_2)]
def mtl_2 : List MT := [
  (⟨"StencilHouse$Orders", "<init>", "()V"⟩, prog_5_method_1_code, 1, none, 2, lk_3),
  (⟨"StencilHouse$Orders", "begin", "(II)V"⟩, prog_5_method_2_code, 3, none, 1, lk_3),
  (⟨"StencilHouse$Orders", "advance", "()Z"⟩, prog_5_method_3_code, 4, (Option.some .boolean), 1, lk_3),
  (⟨"StencilHouse$Orders", "fill", "(II)V"⟩, prog_5_method_4_code, 5, none, 1, lk_3),
  (⟨"StencilHouse$Orders", "leastUnused", "(II)I"⟩, prog_5_method_5_code, 4, (Option.some .int), 1, lk_3),
  (⟨"StencilHouse$Orders", "fewestSprays", "(LStencilHouse$Shop;LStencilHouse$Picture;)I"⟩, prog_5_method_6_code, 4, (Option.some .int), 1, lk_3),
  (⟨"StencilHouse$Orders", "findSprays", "(LStencilHouse$Shop;I)Z"⟩, prog_5_method_7_code, 6, (Option.some .boolean), 1, lk_3),
  (⟨"StencilHouse$Orders", "isLessThanFound", "()Z"⟩, prog_5_method_8_code, 2, (Option.some .boolean), 1, lk_3),
  (⟨"StencilHouse$Orders", "makesWanted", "(LStencilHouse$Shop;)Z"⟩, prog_5_method_9_code, 6, (Option.some .boolean), 1, lk_3),
  (⟨"StencilHouse$Orders", "colourOfAll", "(I)I"⟩, prog_5_method_10_code, 3, (Option.some .int), 1, lk_3),
  (⟨"StencilHouse$Orders", "mostShown", "(LStencilHouse$Shop;)I"⟩, prog_5_method_11_code, 6, (Option.some .int), 1, lk_3),
  (⟨"StencilHouse$Orders", "shownCount", "(LStencilHouse$Shop;)I"⟩, prog_5_method_12_code, 6, (Option.some .int), 1, lk_3),
  (⟨"StencilHouse$Orders", "foundAt", "(I)I"⟩, prog_5_method_13_code, 2, (Option.some .int), 1, lk_3),
  (⟨"StencilHouse$Orders", "tellFitting", "(LStencilHouse$Shop;LStencilHouse$Marks;I)I"⟩, prog_5_method_14_code, 8, (Option.some .int), 1, lk_3),
  (⟨"StencilHouse$Orders", "lastItem", "()I"⟩, prog_5_method_15_code, 1, (Option.some .int), 1, lk_3),
  (⟨"StencilHouse$Orders", "asNumber", "()I"⟩, prog_5_method_16_code, 3, (Option.some .int), 1, lk_3),
  (⟨"StencilHouse$Orders", "fitsAll", "(LStencilHouse$Shop;LStencilHouse$Marks;)Z"⟩, prog_5_method_17_code, 5, (Option.some .boolean), 1, lk_3),
  (⟨"StencilHouse$Orders", "topAt", "(LStencilHouse$Shop;I)I"⟩, prog_5_method_18_code, 4, (Option.some .int), 1, lk_3),
  (⟨"StencilHouse$Orders", "clearTops", "()V"⟩, prog_5_method_19_code, 2, none, 1, lk_3),
  (⟨"StencilHouse$Orders", "countTops", "(LStencilHouse$Shop;)V"⟩, prog_5_method_20_code, 5, none, 1, lk_3)]
def mtl_3 : List MT := [
  (⟨"StencilHouse$Orders", "cellToAsk", "(LStencilHouse$Shop;)I"⟩, prog_5_method_21_code, 8, (Option.some .int), 1, lk_3),
  (⟨"StencilHouse$Picture", "<init>", "()V"⟩, prog_6_method_1_code, 1, none, 2, lk_4),
  (⟨"StencilHouse$Picture", "clear", "()V"⟩, prog_6_method_2_code, 2, none, 1, lk_4),
  (⟨"StencilHouse$Picture", "copyFrom", "(LStencilHouse$Picture;)V"⟩, prog_6_method_3_code, 2, none, 1, lk_4),
  (⟨"StencilHouse$Picture", "colourAt", "(II)I"⟩, prog_6_method_4_code, 3, (Option.some .int), 1, lk_4),
  (⟨"StencilHouse$Picture", "placesOf", "(I)I"⟩, prog_6_method_5_code, 4, (Option.some .int), 1, lk_4),
  (⟨"StencilHouse$Picture", "cellsOf", "(LStencilHouse$Shop;I)I"⟩, prog_6_method_6_code, 6, (Option.some .int), 1, lk_4),
  (⟨"StencilHouse$Picture", "isWithin", "(LStencilHouse$Shop;)Z"⟩, prog_6_method_7_code, 4, (Option.some .boolean), 1, lk_4),
  (⟨"StencilHouse$Picture", "colourCount", "()I"⟩, prog_6_method_8_code, 3, (Option.some .int), 1, lk_4),
  (⟨"StencilHouse$Picture", "commonest", "()I"⟩, prog_6_method_9_code, 5, (Option.some .int), 1, lk_4),
  (⟨"StencilHouse$Reader", "<init>", "()V"⟩, prog_7_method_1_code, 1, none, 2, lk_5),
  (⟨"StencilHouse$Reader", "read", "([III)V"⟩, prog_7_method_2_code, 5, none, 1, lk_5),
  (⟨"StencilHouse$Reader", "clear", "()V"⟩, prog_7_method_3_code, 2, none, 1, lk_5),
  (⟨"StencilHouse$Reader", "readLine", "(I)Z"⟩, prog_7_method_4_code, 6, (Option.some .boolean), 1, lk_5),
  (⟨"StencilHouse$Reader", "wordOfSort", "(I)I"⟩, prog_7_method_5_code, 3, (Option.some .int), 1, lk_5),
  (⟨"StencilHouse$Reader", "spelling", "(I)Ljava/lang/String;"⟩, prog_7_method_6_code, 1, (Option.some (.object "java/lang/String")), 0, lk_5),
  (⟨"StencilHouse$Reader", "hasRoomFor", "(I)Z"⟩, prog_7_method_7_code, 2, (Option.some .boolean), 1, lk_5),
  (⟨"StencilHouse$Reader", "takeNumber", "(II)V"⟩, prog_7_method_8_code, 4, none, 1, lk_5),
  (⟨"StencilHouse$Reader", "note", "(II)V"⟩, prog_7_method_9_code, 3, none, 1, lk_5),
  (⟨"StencilHouse$Reader", "store", "(II)V"⟩, prog_7_method_10_code, 3, none, 1, lk_5)]
def mtl_4 : List MT := [
  (⟨"StencilHouse$Reader", "storeSheet", "(I)V"⟩, prog_7_method_11_code, 3, none, 1, lk_5),
  (⟨"StencilHouse$Reader", "storeWear", "(II)V"⟩, prog_7_method_12_code, 3, none, 1, lk_5),
  (⟨"StencilHouse$Reader", "storeRow", "(I)V"⟩, prog_7_method_13_code, 3, none, 1, lk_5),
  (⟨"StencilHouse$Reader", "checkShop", "(I)V"⟩, prog_7_method_14_code, 4, none, 1, lk_5),
  (⟨"StencilHouse$Reader", "cutRow", "(III)V"⟩, prog_7_method_15_code, 5, none, 1, lk_5),
  (⟨"StencilHouse$Shop", "<init>", "()V"⟩, prog_8_method_1_code, 1, none, 2, lk_6),
  (⟨"StencilHouse$Shop", "clear", "()V"⟩, prog_8_method_2_code, 2, none, 1, lk_6),
  (⟨"StencilHouse$Shop", "copyFrom", "(LStencilHouse$Shop;)V"⟩, prog_8_method_3_code, 2, none, 1, lk_6),
  (⟨"StencilHouse$Shop", "measure", "()V"⟩, prog_8_method_4_code, 2, none, 1, lk_6),
  (⟨"StencilHouse$Shop", "openSheets", "()V"⟩, prog_8_method_5_code, 2, none, 1, lk_6),
  (⟨"StencilHouse$Shop", "hasSheet", "(I)Z"⟩, prog_8_method_6_code, 2, (Option.some .boolean), 1, lk_6),
  (⟨"StencilHouse$Shop", "hasCell", "(I)Z"⟩, prog_8_method_7_code, 2, (Option.some .boolean), 1, lk_6),
  (⟨"StencilHouse$Shop", "hasPlace", "(II)Z"⟩, prog_8_method_8_code, 3, (Option.some .boolean), 1, lk_6),
  (⟨"StencilHouse$Shop", "isOpen", "(II)Z"⟩, prog_8_method_9_code, 3, (Option.some .boolean), 1, lk_6),
  (⟨"StencilHouse$Shop", "everySheet", "()I"⟩, prog_8_method_10_code, 1, (Option.some .int), 1, lk_6),
  (⟨"StencilHouse$Shop", "union", "(I)I"⟩, prog_8_method_11_code, 4, (Option.some .int), 1, lk_6),
  (⟨"StencilHouse$Shop", "beside", "(I)I"⟩, prog_8_method_12_code, 2, (Option.some .int), 1, lk_6),
  (⟨"StencilHouse$Shop", "toRight", "(I)I"⟩, prog_8_method_13_code, 2, (Option.some .int), 1, lk_6),
  (⟨"StencilHouse$Shop", "falling", "(I)I"⟩, prog_8_method_14_code, 3, (Option.some .int), 1, lk_6),
  (⟨"StencilHouse$Shop", "grown", "(II)I"⟩, prog_8_method_15_code, 6, (Option.some .int), 1, lk_6)]
def mtl_5 : List MT := [
  (⟨"StencilHouse$Shop", "opened", "(I)I"⟩, prog_8_method_16_code, 2, (Option.some .int), 1, lk_6),
  (⟨"StencilHouse$Shop", "slid", "(III)I"⟩, prog_8_method_17_code, 6, (Option.some .int), 1, lk_6),
  (⟨"StencilHouse$Shop", "flipped", "(I)I"⟩, prog_8_method_18_code, 6, (Option.some .int), 1, lk_6),
  (⟨"StencilHouse$Shop", "turned", "(I)I"⟩, prog_8_method_19_code, 5, (Option.some .int), 1, lk_6),
  (⟨"StencilHouse$Shop", "tellSheet", "(I)I"⟩, prog_8_method_20_code, 3, (Option.some .int), 1, lk_6),
  (⟨"StencilHouse$Tokens", "<init>", "()V"⟩, prog_9_method_1_code, 1, none, 2, lk_7),
  (⟨"StencilHouse$Tokens", "begin", "([II)V"⟩, prog_9_method_2_code, 3, none, 1, lk_7),
  (⟨"StencilHouse$Tokens", "next", "()V"⟩, prog_9_method_3_code, 1, none, 1, lk_7),
  (⟨"StencilHouse$Tokens", "nextWord", "()V"⟩, prog_9_method_4_code, 1, none, 1, lk_7),
  (⟨"StencilHouse$Tokens", "nextNumber", "()V"⟩, prog_9_method_5_code, 1, none, 1, lk_7),
  (⟨"StencilHouse$Tokens", "isWord", "(Ljava/lang/String;)Z"⟩, prog_9_method_6_code, 3, (Option.some .boolean), 1, lk_7),
  (⟨"StencilHouse$Tokens", "isBlank", "(I)Z"⟩, prog_9_method_7_code, 1, (Option.some .boolean), 0, lk_7),
  (⟨"StencilHouse$Tokens", "isLetter", "(I)Z"⟩, prog_9_method_8_code, 1, (Option.some .boolean), 0, lk_7),
  (⟨"StencilHouse$Tokens", "isDigit", "(I)Z"⟩, prog_9_method_9_code, 1, (Option.some .boolean), 0, lk_7),
  (⟨"StencilHouse$Told", "<init>", "()V"⟩, prog_10_method_1_code, 2, none, 2, lk_8),
  (⟨"StencilHouse$Told", "copyFrom", "(LStencilHouse$Told;)V"⟩, prog_10_method_2_code, 3, none, 1, lk_8),
  (⟨"StencilHouse$Told", "append", "(I)V"⟩, prog_10_method_3_code, 3, none, 1, lk_8),
  (⟨"StencilHouse$Told", "has", "(II)Z"⟩, prog_10_method_4_code, 3, (Option.some .boolean), 1, lk_8),
  (⟨"StencilHouse$Told", "hasPlaceFor", "(II)Z"⟩, prog_10_method_5_code, 3, (Option.some .boolean), 1, lk_8),
  (⟨"StencilHouse$Told", "take", "(LStencilHouse$Reader;II)I"⟩, prog_10_method_6_code, 5, (Option.some .int), 1, lk_8)]
def mtl_6 : List MT := [
  (⟨"StencilHouse$Told", "shopAt", "(I)LStencilHouse$Shop;"⟩, prog_10_method_7_code, 2, (Option.some (.object "StencilHouse$Shop")), 1, lk_8),
  (⟨"StencilHouse$Told", "dayAt", "(I)LStencilHouse$Day;"⟩, prog_10_method_8_code, 2, (Option.some (.object "StencilHouse$Day")), 1, lk_8),
  (⟨"StencilHouse$Told", "pictureAt", "(I)LStencilHouse$Picture;"⟩, prog_10_method_9_code, 2, (Option.some (.object "StencilHouse$Picture")), 1, lk_8),
  (⟨"StencilHouse$Told", "marksAt", "(I)LStencilHouse$Marks;"⟩, prog_10_method_10_code, 2, (Option.some (.object "StencilHouse$Marks")), 1, lk_8),
  (⟨"StencilHouse$Wall", "<init>", "()V"⟩, prog_11_method_1_code, 1, none, 2, lk_9),
  (⟨"StencilHouse$Wall", "begin", "(LStencilHouse$Shop;)V"⟩, prog_11_method_2_code, 3, none, 1, lk_9),
  (⟨"StencilHouse$Wall", "run", "(LStencilHouse$Day;I)I"⟩, prog_11_method_3_code, 4, (Option.some .int), 1, lk_9),
  (⟨"StencilHouse$Wall", "runDrawn", "(II)V"⟩, prog_11_method_4_code, 4, none, 1, lk_9),
  (⟨"StencilHouse$Wall", "actDrawn", "()V"⟩, prog_11_method_5_code, 2, none, 1, lk_9),
  (⟨"StencilHouse$Wall", "actDrawnWith", "(II)V"⟩, prog_11_method_6_code, 5, none, 1, lk_9),
  (⟨"StencilHouse$Wall", "draw", "(I)I"⟩, prog_11_method_7_code, 2, (Option.some .int), 1, lk_9),
  (⟨"StencilHouse$Wall", "act", "(IIII)Z"⟩, prog_11_method_8_code, 5, (Option.some .boolean), 1, lk_9),
  (⟨"StencilHouse$Wall", "washOff", "(I)Z"⟩, prog_11_method_9_code, 2, (Option.some .boolean), 1, lk_9),
  (⟨"StencilHouse$Wall", "sprayOn", "(II)Z"⟩, prog_11_method_10_code, 5, (Option.some .boolean), 1, lk_9),
  (⟨"StencilHouse$Wall", "overlay", "(II)V"⟩, prog_11_method_11_code, 4, none, 1, lk_9),
  (⟨"StencilHouse$Wall", "slideTo", "(III)Z"⟩, prog_11_method_12_code, 4, (Option.some .boolean), 1, lk_9),
  (⟨"StencilHouse$Wall", "patchAt", "(III)Z"⟩, prog_11_method_13_code, 5, (Option.some .boolean), 1, lk_9),
  (⟨"StencilHouse$Wall", "openNow", "(I)I"⟩, prog_11_method_14_code, 2, (Option.some .int), 1, lk_9),
  (⟨"StencilHouse$Wall", "painted", "()I"⟩, prog_11_method_15_code, 3, (Option.some .int), 1, lk_9),
  (⟨"StencilHouse$Wall", "busiest", "()I"⟩, prog_11_method_16_code, 4, (Option.some .int), 1, lk_9)]
def mtl_7 : List MT := [
  (⟨"StencilHouse$Wall", "tornSheets", "()I"⟩, prog_11_method_17_code, 3, (Option.some .int), 1, lk_9),
  (⟨"StencilHouse$Wall", "tell", "(I)I"⟩, prog_11_method_18_code, 3, (Option.some .int), 1, lk_9),
  (⟨"StencilHouse$Wall", "colourOf", "(I)I"⟩, prog_11_method_19_code, 3, (Option.some .int), 1, lk_9),
  (⟨"StencilHouse", "<init>", "()V"⟩, prog_1_method_1_code, 1, none, 2, lk_10),
  (⟨"StencilHouse", "feed", "(IIIII)I"⟩, prog_1_method_2_code, 6, (Option.some .int), 1, lk_10),
  (⟨"StencilHouse", "end", "(I)I"⟩, prog_1_method_3_code, 2, (Option.some .int), 1, lk_10),
  (⟨"StencilHouse", "text", "(II)I"⟩, prog_1_method_4_code, 4, (Option.some .int), 1, lk_10),
  (⟨"StencilHouse", "fault", "(I)I"⟩, prog_1_method_5_code, 2, (Option.some .int), 1, lk_10),
  (⟨"StencilHouse", "shop", "(II)I"⟩, prog_1_method_6_code, 4, (Option.some .int), 1, lk_10),
  (⟨"StencilHouse", "deed", "(III)I"⟩, prog_1_method_7_code, 5, (Option.some .int), 1, lk_10),
  (⟨"StencilHouse", "stop", "(II)I"⟩, prog_1_method_8_code, 5, (Option.some .int), 1, lk_10),
  (⟨"StencilHouse", "state", "(IIII)I"⟩, prog_1_method_9_code, 7, (Option.some .int), 1, lk_10),
  (⟨"StencilHouse", "bridges", "(IIZ)I"⟩, prog_1_method_10_code, 6, (Option.some .int), 1, lk_10),
  (⟨"StencilHouse", "make", "(III)I"⟩, prog_1_method_11_code, 7, (Option.some .int), 1, lk_10),
  (⟨"StencilHouse", "cover", "(IZ)I"⟩, prog_1_method_12_code, 5, (Option.some .int), 1, lk_10),
  (⟨"StencilHouse", "atOnce", "(IZ)I"⟩, prog_1_method_13_code, 5, (Option.some .int), 1, lk_10),
  (⟨"StencilHouse", "duel", "(IIZ)I"⟩, prog_1_method_14_code, 5, (Option.some .int), 1, lk_10),
  (⟨"StencilHouse", "chance", "(IIIZ)I"⟩, prog_1_method_15_code, 9, (Option.some .int), 1, lk_10),
  (⟨"StencilHouse", "within", "(III)I"⟩, prog_1_method_16_code, 5, (Option.some .int), 1, lk_10),
  (⟨"StencilHouse", "picture", "(III)I"⟩, prog_1_method_17_code, 5, (Option.some .int), 1, lk_10)]
def mtl_8 : List MT := [
  (⟨"StencilHouse", "mark", "(III)I"⟩, prog_1_method_18_code, 5, (Option.some .int), 1, lk_10),
  (⟨"StencilHouse", "fits", "(III)I"⟩, prog_1_method_19_code, 6, (Option.some .int), 1, lk_10),
  (⟨"StencilHouse", "drawn", "(IIII)I"⟩, prog_1_method_20_code, 6, (Option.some .int), 1, lk_10),
  (⟨"StencilHouse", "holes", "(III)I"⟩, prog_1_method_21_code, 6, (Option.some .int), 1, lk_10),
  (⟨"StencilHouse", "sheets", "(II)I"⟩, prog_1_method_22_code, 4, (Option.some .int), 1, lk_10),
  (⟨"StencilHouse", "unlike", "(III)I"⟩, prog_1_method_23_code, 5, (Option.some .int), 1, lk_10),
  (⟨"StencilHouse", "seen", "(II)I"⟩, prog_1_method_24_code, 4, (Option.some .int), 1, lk_10),
  (⟨"StencilHouse", "show", "(II)I"⟩, prog_1_method_25_code, 5, (Option.some .int), 1, lk_10),
  (⟨"StencilHouse", "colours", "(II)I"⟩, prog_1_method_26_code, 4, (Option.some .int), 1, lk_10),
  (⟨"StencilHouse", "plain", "(III)I"⟩, prog_1_method_27_code, 7, (Option.some .int), 1, lk_10),
  (⟨"StencilHouse", "off", "(II)I"⟩, prog_1_method_28_code, 5, (Option.some .int), 1, lk_10),
  (⟨"StencilHouse", "after", "(III)I"⟩, prog_1_method_29_code, 6, (Option.some .int), 1, lk_10),
  (⟨"StencilHouse", "count", "(I)I"⟩, prog_1_method_30_code, 2, (Option.some .int), 1, lk_10),
  (⟨"StencilHouse", "image", "(I)Z"⟩, prog_1_method_31_code, 3, (Option.some .boolean), 1, lk_10),
  (⟨"StencilHouse", "again", "(I)Z"⟩, prog_1_method_32_code, 3, (Option.some .boolean), 1, lk_10),
  (⟨"StencilHouseModel", "<init>", "()V"⟩, prog_13_method_1_code, 1, none, 2, lk_11),
  (⟨"StencilHouseModel", "in", "(III)Z"⟩, prog_13_method_3_code, 3, (Option.some .boolean), 0, lk_11),
  (⟨"StencilHouseModel", "has", "(II)Z"⟩, prog_13_method_4_code, 2, (Option.some .boolean), 0, lk_11),
  (⟨"StencilHouseModel", "greater", "(II)I"⟩, prog_13_method_5_code, 2, (Option.some .int), 0, lk_11),
  (⟨"StencilHouseModel", "lesser", "(II)I"⟩, prog_13_method_6_code, 2, (Option.some .int), 0, lk_11)]
def mtl_9 : List MT := [
  (⟨"StencilHouseModel", "ones", "(I)I"⟩, prog_13_method_7_code, 3, (Option.some .int), 0, lk_11),
  (⟨"StencilHouseModel", "copyRow", "([IIII)V"⟩, prog_13_method_8_code, 5, none, 0, lk_11),
  (⟨"StencilHouseModel", "copyAll", "(II)V"⟩, prog_13_method_9_code, 4, none, 1, lk_11),
  (⟨"StencilHouseModel", "is", "(II)Z"⟩, prog_13_method_10_code, 3, (Option.some .boolean), 1, lk_11),
  (⟨"StencilHouseModel", "feed", "(IIIII)I"⟩, prog_13_method_11_code, 6, (Option.some .int), 1, lk_11),
  (⟨"StencilHouseModel", "four", "(I)V"⟩, prog_13_method_12_code, 3, none, 1, lk_11),
  (⟨"StencilHouseModel", "end", "(I)I"⟩, prog_13_method_13_code, 2, (Option.some .int), 1, lk_11),
  (⟨"StencilHouseModel", "see", "()I"⟩, prog_13_method_14_code, 1, (Option.some .int), 1, lk_11),
  (⟨"StencilHouseModel", "token", "()V"⟩, prog_13_method_15_code, 3, none, 1, lk_11),
  (⟨"StencilHouseModel", "fails", "()Z"⟩, prog_13_method_16_code, 1, (Option.some .boolean), 1, lk_11),
  (⟨"StencilHouseModel", "addsFault", "(II)V"⟩, prog_13_method_17_code, 3, none, 1, lk_11),
  (⟨"StencilHouseModel", "take", "(III)Z"⟩, prog_13_method_18_code, 4, (Option.some .boolean), 1, lk_11),
  (⟨"StencilHouseModel", "full", "(III)V"⟩, prog_13_method_19_code, 4, none, 1, lk_11),
  (⟨"StencilHouseModel", "list", "(IIZ)V"⟩, prog_13_method_20_code, 5, none, 1, lk_11),
  (⟨"StencilHouseModel", "sheetLine", "(I)Z"⟩, prog_13_method_21_code, 3, (Option.some .boolean), 1, lk_11),
  (⟨"StencilHouseModel", "shopLine", "(JI)Z"⟩, prog_13_method_22_code, 4, (Option.some .boolean), 1, lk_11),
  (⟨"StencilHouseModel", "deedBy", "(J)I"⟩, prog_13_method_23_code, 3, (Option.some .int), 1, lk_11),
  (⟨"StencilHouseModel", "keepRow", "(I)V"⟩, prog_13_method_24_code, 4, none, 1, lk_11),
  (⟨"StencilHouseModel", "dayLine", "(JI)Z"⟩, prog_13_method_25_code, 6, (Option.some .boolean), 1, lk_11),
  (⟨"StencilHouseModel", "pictureLine", "(JI)Z"⟩, prog_13_method_26_code, 5, (Option.some .boolean), 1, lk_11)]
def mtl_10 : List MT := [
  (⟨"StencilHouseModel", "markLine", "(JI)Z"⟩, prog_13_method_27_code, 4, (Option.some .boolean), 1, lk_11),
  (⟨"StencilHouseModel", "lineOf", "(IJI)Z"⟩, prog_13_method_28_code, 5, (Option.some .boolean), 1, lk_11),
  (⟨"StencilHouseModel", "allLines", "(I)Z"⟩, prog_13_method_29_code, 6, (Option.some .boolean), 1, lk_11),
  (⟨"StencilHouseModel", "cutsTooFar", "()Z"⟩, prog_13_method_30_code, 3, (Option.some .boolean), 1, lk_11),
  (⟨"StencilHouseModel", "readText", "(I)Z"⟩, prog_13_method_31_code, 3, (Option.some .boolean), 1, lk_11),
  (⟨"StencilHouseModel", "store", "([III)V"⟩, prog_13_method_32_code, 5, none, 1, lk_11),
  (⟨"StencilHouseModel", "storeOf", "(II)V"⟩, prog_13_method_33_code, 3, none, 1, lk_11),
  (⟨"StencilHouseModel", "text", "(II)I"⟩, prog_13_method_34_code, 4, (Option.some .int), 1, lk_11),
  (⟨"StencilHouseModel", "fault", "(I)I"⟩, prog_13_method_35_code, 2, (Option.some .int), 1, lk_11),
  (⟨"StencilHouseModel", "of", "(I)I"⟩, prog_13_method_36_code, 2, (Option.some .int), 1, lk_11),
  (⟨"StencilHouseModel", "hand", "(I)Z"⟩, prog_13_method_37_code, 2, (Option.some .boolean), 1, lk_11),
  (⟨"StencilHouseModel", "clean", "()V"⟩, prog_13_method_38_code, 2, none, 1, lk_11),
  (⟨"StencilHouseModel", "asTold", "()V"⟩, prog_13_method_39_code, 3, none, 1, lk_11),
  (⟨"StencilHouseModel", "isSheet", "(I)Z"⟩, prog_13_method_40_code, 2, (Option.some .boolean), 1, lk_11),
  (⟨"StencilHouseModel", "isCell", "(I)Z"⟩, prog_13_method_41_code, 2, (Option.some .boolean), 1, lk_11),
  (⟨"StencilHouseModel", "isRim", "(I)Z"⟩, prog_13_method_42_code, 2, (Option.some .boolean), 1, lk_11),
  (⟨"StencilHouseModel", "besides", "(I)I"⟩, prog_13_method_43_code, 4, (Option.some .int), 1, lk_11),
  (⟨"StencilHouseModel", "fallsBy", "(I)I"⟩, prog_13_method_44_code, 5, (Option.some .int), 1, lk_11),
  (⟨"StencilHouseModel", "openBy", "(I)I"⟩, prog_13_method_45_code, 2, (Option.some .int), 1, lk_11),
  (⟨"StencilHouseModel", "slid", "(III)I"⟩, prog_13_method_46_code, 7, (Option.some .int), 1, lk_11)]
def mtl_11 : List MT := [
  (⟨"StencilHouseModel", "shop", "(II)I"⟩, prog_13_method_47_code, 4, (Option.some .int), 1, lk_11),
  (⟨"StencilHouseModel", "deeds", "()I"⟩, prog_13_method_48_code, 1, (Option.some .int), 1, lk_11),
  (⟨"StencilHouseModel", "deedOf", "(II)I"⟩, prog_13_method_49_code, 3, (Option.some .int), 1, lk_11),
  (⟨"StencilHouseModel", "hasDay", "(I)Z"⟩, prog_13_method_50_code, 2, (Option.some .boolean), 1, lk_11),
  (⟨"StencilHouseModel", "deed", "(III)I"⟩, prog_13_method_51_code, 4, (Option.some .int), 1, lk_11),
  (⟨"StencilHouseModel", "openNow", "(I)I"⟩, prog_13_method_52_code, 2, (Option.some .int), 1, lk_11),
  (⟨"StencilHouseModel", "paint", "(II)V"⟩, prog_13_method_53_code, 4, none, 1, lk_11),
  (⟨"StencilHouseModel", "spray", "(II)Z"⟩, prog_13_method_54_code, 3, (Option.some .boolean), 1, lk_11),
  (⟨"StencilHouseModel", "turnedBy", "(IZ)I"⟩, prog_13_method_55_code, 6, (Option.some .int), 1, lk_11),
  (⟨"StencilHouseModel", "cuts", "(II)Z"⟩, prog_13_method_56_code, 3, (Option.some .boolean), 1, lk_11),
  (⟨"StencilHouseModel", "slides", "(III)Z"⟩, prog_13_method_57_code, 4, (Option.some .boolean), 1, lk_11),
  (⟨"StencilHouseModel", "patches", "(III)Z"⟩, prog_13_method_58_code, 5, (Option.some .boolean), 1, lk_11),
  (⟨"StencilHouseModel", "washes", "(I)Z"⟩, prog_13_method_59_code, 4, (Option.some .boolean), 1, lk_11),
  (⟨"StencilHouseModel", "does", "(IIII)Z"⟩, prog_13_method_60_code, 5, (Option.some .boolean), 1, lk_11),
  (⟨"StencilHouseModel", "doesDeed", "(I)Z"⟩, prog_13_method_61_code, 2, (Option.some .boolean), 1, lk_11),
  (⟨"StencilHouseModel", "play", "(I)I"⟩, prog_13_method_62_code, 3, (Option.some .int), 1, lk_11),
  (⟨"StencilHouseModel", "layAll", "(II)Z"⟩, prog_13_method_63_code, 3, (Option.some .boolean), 1, lk_11),
  (⟨"StencilHouseModel", "stop", "(II)I"⟩, prog_13_method_64_code, 3, (Option.some .int), 1, lk_11),
  (⟨"StencilHouseModel", "coloured", "()I"⟩, prog_13_method_65_code, 3, (Option.some .int), 1, lk_11),
  (⟨"StencilHouseModel", "ofState", "(I)I"⟩, prog_13_method_66_code, 3, (Option.some .int), 1, lk_11)]
def mtl_12 : List MT := [
  (⟨"StencilHouseModel", "state", "(IIII)I"⟩, prog_13_method_67_code, 5, (Option.some .int), 1, lk_11),
  (⟨"StencilHouseModel", "bridges", "(IIZ)I"⟩, prog_13_method_68_code, 11, (Option.some .int), 1, lk_11),
  (⟨"StencilHouseModel", "hasPicture", "(I)Z"⟩, prog_13_method_69_code, 2, (Option.some .boolean), 1, lk_11),
  (⟨"StencilHouseModel", "colourAt", "(II)I"⟩, prog_13_method_70_code, 3, (Option.some .int), 1, lk_11),
  (⟨"StencilHouseModel", "colourOf", "(I)I"⟩, prog_13_method_71_code, 2, (Option.some .int), 1, lk_11),
  (⟨"StencilHouseModel", "goesBeyond", "(I)Z"⟩, prog_13_method_72_code, 5, (Option.some .boolean), 1, lk_11),
  (⟨"StencilHouseModel", "layRow", "(II)Z"⟩, prog_13_method_73_code, 6, (Option.some .boolean), 1, lk_11),
  (⟨"StencilHouseModel", "makes", "(I)Z"⟩, prog_13_method_74_code, 7, (Option.some .boolean), 1, lk_11),
  (⟨"StencilHouseModel", "keepFirst", "(IZ)V"⟩, prog_13_method_75_code, 5, none, 1, lk_11),
  (⟨"StencilHouseModel", "fewestSprays", "()I"⟩, prog_13_method_76_code, 5, (Option.some .int), 1, lk_11),
  (⟨"StencilHouseModel", "make", "(III)I"⟩, prog_13_method_77_code, 5, (Option.some .int), 1, lk_11),
  (⟨"StencilHouseModel", "openAll", "(I)I"⟩, prog_13_method_78_code, 4, (Option.some .int), 1, lk_11),
  (⟨"StencilHouseModel", "cover", "(IZ)I"⟩, prog_13_method_79_code, 6, (Option.some .int), 1, lk_11),
  (⟨"StencilHouseModel", "areApart", "(I)Z"⟩, prog_13_method_80_code, 4, (Option.some .boolean), 1, lk_11),
  (⟨"StencilHouseModel", "atOnce", "(IZ)I"⟩, prog_13_method_81_code, 5, (Option.some .int), 1, lk_11),
  (⟨"StencilHouseModel", "sevens", "(I)I"⟩, prog_13_method_82_code, 3, (Option.some .int), 0, lk_11),
  (⟨"StencilHouseModel", "endOf", "(II)I"⟩, prog_13_method_83_code, 10, (Option.some .int), 1, lk_11),
  (⟨"StencilHouseModel", "fold", "(IZ)I"⟩, prog_13_method_84_code, 6, (Option.some .int), 1, lk_11),
  (⟨"StencilHouseModel", "duel", "(IIZ)I"⟩, prog_13_method_85_code, 7, (Option.some .int), 1, lk_11),
  (⟨"StencilHouseModel", "isOpen", "(III)Z"⟩, prog_13_method_86_code, 4, (Option.some .boolean), 1, lk_11)]
def mtl_13 : List MT := [
  (⟨"StencilHouseModel", "common", "(II)I"⟩, prog_13_method_87_code, 5, (Option.some .int), 0, lk_11),
  (⟨"StencilHouseModel", "chance", "(IIIZ)I"⟩, prog_13_method_88_code, 10, (Option.some .int), 1, lk_11),
  (⟨"StencilHouseModel", "within", "(III)I"⟩, prog_13_method_89_code, 7, (Option.some .int), 1, lk_11),
  (⟨"StencilHouseModel", "picture", "(III)I"⟩, prog_13_method_90_code, 4, (Option.some .int), 1, lk_11),
  (⟨"StencilHouseModel", "markOf", "(II)I"⟩, prog_13_method_91_code, 3, (Option.some .int), 1, lk_11),
  (⟨"StencilHouseModel", "allMarks", "()I"⟩, prog_13_method_92_code, 1, (Option.some .int), 1, lk_11),
  (⟨"StencilHouseModel", "hasMarks", "(I)Z"⟩, prog_13_method_93_code, 2, (Option.some .boolean), 1, lk_11),
  (⟨"StencilHouseModel", "mark", "(III)I"⟩, prog_13_method_94_code, 4, (Option.some .int), 1, lk_11),
  (⟨"StencilHouseModel", "firstOrder", "()V"⟩, prog_13_method_95_code, 2, none, 1, lk_11),
  (⟨"StencilHouseModel", "swap", "(II)V"⟩, prog_13_method_96_code, 4, none, 1, lk_11),
  (⟨"StencilHouseModel", "nextOrder", "()Z"⟩, prog_13_method_97_code, 3, (Option.some .boolean), 1, lk_11),
  (⟨"StencilHouseModel", "topOf", "(I)I"⟩, prog_13_method_98_code, 3, (Option.some .int), 1, lk_11),
  (⟨"StencilHouseModel", "isSo", "()Z"⟩, prog_13_method_99_code, 4, (Option.some .boolean), 1, lk_11),
  (⟨"StencilHouseModel", "orderCode", "()I"⟩, prog_13_method_100_code, 3, (Option.some .int), 1, lk_11),
  (⟨"StencilHouseModel", "findOrders", "(I)V"⟩, prog_13_method_101_code, 5, none, 1, lk_11),
  (⟨"StencilHouseModel", "alike", "(I)I"⟩, prog_13_method_102_code, 4, (Option.some .int), 1, lk_11),
  (⟨"StencilHouseModel", "askWhere", "()I"⟩, prog_13_method_103_code, 3, (Option.some .int), 1, lk_11),
  (⟨"StencilHouseModel", "sure", "()I"⟩, prog_13_method_104_code, 3, (Option.some .int), 1, lk_11),
  (⟨"StencilHouseModel", "fits", "(III)I"⟩, prog_13_method_105_code, 4, (Option.some .int), 1, lk_11),
  (⟨"StencilHouseModel", "draw", "(I)I"⟩, prog_13_method_106_code, 2, (Option.some .int), 1, lk_11)]
def mtl_14 : List MT := [
  (⟨"StencilHouseModel", "drawDeed", "()V"⟩, prog_13_method_107_code, 6, none, 1, lk_11),
  (⟨"StencilHouseModel", "drawn", "(IIII)I"⟩, prog_13_method_108_code, 6, (Option.some .int), 1, lk_11),
  (⟨"StencilHouseModel", "joined", "(II)I"⟩, prog_13_method_109_code, 5, (Option.some .int), 1, lk_11),
  (⟨"StencilHouseModel", "holesOf", "(IZ)I"⟩, prog_13_method_110_code, 7, (Option.some .int), 1, lk_11),
  (⟨"StencilHouseModel", "edge", "(I)I"⟩, prog_13_method_111_code, 4, (Option.some .int), 1, lk_11),
  (⟨"StencilHouseModel", "strokes", "(IZ)I"⟩, prog_13_method_112_code, 7, (Option.some .int), 1, lk_11),
  (⟨"StencilHouseModel", "holes", "(III)I"⟩, prog_13_method_113_code, 4, (Option.some .int), 1, lk_11),
  (⟨"StencilHouseModel", "likeThemselves", "(Z)I"⟩, prog_13_method_114_code, 4, (Option.some .int), 1, lk_11),
  (⟨"StencilHouseModel", "twins", "()I"⟩, prog_13_method_115_code, 6, (Option.some .int), 1, lk_11),
  (⟨"StencilHouseModel", "openToAll", "()I"⟩, prog_13_method_116_code, 3, (Option.some .int), 1, lk_11),
  (⟨"StencilHouseModel", "falling", "()I"⟩, prog_13_method_117_code, 3, (Option.some .int), 1, lk_11),
  (⟨"StencilHouseModel", "needed", "()I"⟩, prog_13_method_118_code, 3, (Option.some .int), 1, lk_11),
  (⟨"StencilHouseModel", "stackAt", "(I)I"⟩, prog_13_method_119_code, 4, (Option.some .int), 1, lk_11),
  (⟨"StencilHouseModel", "stack", "()I"⟩, prog_13_method_120_code, 3, (Option.some .int), 1, lk_11),
  (⟨"StencilHouseModel", "unlikeOf", "(II)I"⟩, prog_13_method_121_code, 3, (Option.some .int), 1, lk_11),
  (⟨"StencilHouseModel", "nearly", "(Z)I"⟩, prog_13_method_122_code, 6, (Option.some .int), 1, lk_11),
  (⟨"StencilHouseModel", "seenOf", "(I)I"⟩, prog_13_method_123_code, 4, (Option.some .int), 1, lk_11),
  (⟨"StencilHouseModel", "hidden", "()I"⟩, prog_13_method_124_code, 3, (Option.some .int), 1, lk_11),
  (⟨"StencilHouseModel", "sheets", "(II)I"⟩, prog_13_method_125_code, 3, (Option.some .int), 1, lk_11),
  (⟨"StencilHouseModel", "unlike", "(III)I"⟩, prog_13_method_126_code, 4, (Option.some .int), 1, lk_11)]
def mtl_15 : List MT := [
  (⟨"StencilHouseModel", "seen", "(II)I"⟩, prog_13_method_127_code, 3, (Option.some .int), 1, lk_11),
  (⟨"StencilHouseModel", "onTop", "()I"⟩, prog_13_method_128_code, 4, (Option.some .int), 1, lk_11),
  (⟨"StencilHouseModel", "show", "(II)I"⟩, prog_13_method_129_code, 7, (Option.some .int), 1, lk_11),
  (⟨"StencilHouseModel", "places", "(I)I"⟩, prog_13_method_130_code, 4, (Option.some .int), 1, lk_11),
  (⟨"StencilHouseModel", "colours", "(II)I"⟩, prog_13_method_131_code, 7, (Option.some .int), 1, lk_11),
  (⟨"StencilHouseModel", "plain", "(III)I"⟩, prog_13_method_132_code, 6, (Option.some .int), 1, lk_11),
  (⟨"StencilHouseModel", "off", "(II)I"⟩, prog_13_method_133_code, 5, (Option.some .int), 1, lk_11),
  (⟨"StencilHouseModel", "busy", "()I"⟩, prog_13_method_134_code, 3, (Option.some .int), 1, lk_11),
  (⟨"StencilHouseModel", "torn", "()I"⟩, prog_13_method_135_code, 3, (Option.some .int), 1, lk_11),
  (⟨"StencilHouseModel", "after", "(III)I"⟩, prog_13_method_136_code, 7, (Option.some .int), 1, lk_11),
  (⟨"StencilHouseModel", "count", "(I)I"⟩, prog_13_method_137_code, 2, (Option.some .int), 1, lk_11),
  (⟨"StencilHouseModel", "image", "(I)Z"⟩, prog_13_method_138_code, 2, (Option.some .boolean), 1, lk_11),
  (⟨"StencilHouseModel", "again", "(I)Z"⟩, prog_13_method_139_code, 2, (Option.some .boolean), 1, lk_11),
  (⟨"java/lang/Integer", "bitCount", "(I)I"⟩, prog_14_method_49_code, 1, (Option.some .int), 0, lk_12),
  (⟨"java/lang/String", "length", "()I"⟩, prog_16_method_54_code, 1, (Option.some .int), 1, lk_13),
  (⟨"java/lang/String", "coder", "()B"⟩, prog_16_method_152_code, 1, (Option.some .byte), 1, lk_13),
  (⟨"java/lang/String", "isLatin1", "()Z"⟩, prog_16_method_154_code, 1, (Option.some .boolean), 1, lk_13),
  (⟨"java/lang/String", "charAt", "(I)C"⟩, prog_16_method_56_code, 2, (Option.some .char), 1, lk_13),
  (⟨"java/lang/StringLatin1", "charAt", "([BI)C"⟩, prog_17_method_2_code, 2, (Option.some .char), 0, lk_14)]
def mtl_law : List MT := [(x, code, 4, some .boolean, 3, lk_15)]
def mtl : List MT := mtl_0 ++ (mtl_1 ++ (mtl_2 ++ (mtl_3 ++ (mtl_4 ++ (mtl_5 ++ (mtl_6 ++ (mtl_7 ++ (mtl_8 ++ (mtl_9 ++ (mtl_10 ++ (mtl_11 ++ (mtl_12 ++ (mtl_13 ++ (mtl_14 ++ (mtl_15 ++ mtl_law)))))))))))))))
def mt (y : Nat) : Option MT := mtl[y]?
end
section
/-! FACTS of the tables: every word that a link or a method stands on is among the claim's words, by its place -/
def tabs (k : Nat) : List Cond := match k with
  | 0 => tables_1_1
  | 1 => tables_1_2
  | 2 => tables_1_3
  | 3 => tables_1_4
  | 4 => tables_1_5
  | 5 => tables_1_6
  | 6 => tables_1_7
  | 7 => tables_1_8
  | 8 => k2_sels lw_privs_1
  | 9 => k2_sels lw_privs_2
  | 10 => k2_sels lw_privs_3
  | 11 => k2_sels lw_privs_4
  | 12 => k2_sels lw_privs_5
  | 13 => k2_sels lw_privs_6
  | 14 => k2_sels lw_privs_7
  | 15 => k2_sels lw_privs_8
  | 16 => k2_sels lw_privs_9
  | _ => []
theorem tabs_p {L : List (MethodName × Nat)} {w : Cond} (h : w ∈ k2_sels L) (hs : ∀ q ∈ L, q ∈ lw_privs) : w ∈ k2_sels lw_privs := by
  obtain ⟨q, hq, rfl⟩ := List.mem_map.mp h
  exact List.mem_map.mpr ⟨q, hs q hq, rfl⟩
theorem tabs_mem {w : Cond} : ∀ (k : Nat), w ∈ tabs k → w ∈ lw_tbl
  | 0, h => List.mem_append_right _ (show w ∈ tables_1 from by unfold tables_1; exact List.mem_append_left _ h)
  | 1, h => List.mem_append_right _ (show w ∈ tables_1 from by unfold tables_1; exact List.mem_append_right _ (List.mem_append_left _ h))
  | 2, h => List.mem_append_right _ (show w ∈ tables_1 from by unfold tables_1; exact List.mem_append_right _ (List.mem_append_right _ (List.mem_append_left _ h)))
  | 3, h => List.mem_append_right _ (show w ∈ tables_1 from by unfold tables_1; exact List.mem_append_right _ (List.mem_append_right _ (List.mem_append_right _ (List.mem_append_left _ h))))
  | 4, h => List.mem_append_right _ (show w ∈ tables_1 from by unfold tables_1; exact List.mem_append_right _ (List.mem_append_right _ (List.mem_append_right _ (List.mem_append_right _ (List.mem_append_left _ h)))))
  | 5, h => List.mem_append_right _ (show w ∈ tables_1 from by unfold tables_1; exact List.mem_append_right _ (List.mem_append_right _ (List.mem_append_right _ (List.mem_append_right _ (List.mem_append_right _ (List.mem_append_left _ h))))))
  | 6, h => List.mem_append_right _ (show w ∈ tables_1 from by unfold tables_1; exact List.mem_append_right _ (List.mem_append_right _ (List.mem_append_right _ (List.mem_append_right _ (List.mem_append_right _ (List.mem_append_right _ (List.mem_append_left _ h)))))))
  | 7, h => List.mem_append_right _ (show w ∈ tables_1 from by unfold tables_1; exact List.mem_append_right _ (List.mem_append_right _ (List.mem_append_right _ (List.mem_append_right _ (List.mem_append_right _ (List.mem_append_right _ (List.mem_append_right _ h)))))))
  | 8, h => List.mem_append_left _ (tabs_p (L := lw_privs_1) h (fun q hq => by unfold lw_privs; simp only [List.mem_append]; exact Or.inl hq))
  | 9, h => List.mem_append_left _ (tabs_p (L := lw_privs_2) h (fun q hq => by unfold lw_privs; simp only [List.mem_append]; exact Or.inr (Or.inl hq)))
  | 10, h => List.mem_append_left _ (tabs_p (L := lw_privs_3) h (fun q hq => by unfold lw_privs; simp only [List.mem_append]; exact Or.inr (Or.inr (Or.inl hq))))
  | 11, h => List.mem_append_left _ (tabs_p (L := lw_privs_4) h (fun q hq => by unfold lw_privs; simp only [List.mem_append]; exact Or.inr (Or.inr (Or.inr (Or.inl hq)))))
  | 12, h => List.mem_append_left _ (tabs_p (L := lw_privs_5) h (fun q hq => by unfold lw_privs; simp only [List.mem_append]; exact Or.inr (Or.inr (Or.inr (Or.inr (Or.inl hq))))))
  | 13, h => List.mem_append_left _ (tabs_p (L := lw_privs_6) h (fun q hq => by unfold lw_privs; simp only [List.mem_append]; exact Or.inr (Or.inr (Or.inr (Or.inr (Or.inr (Or.inl hq)))))))
  | 14, h => List.mem_append_left _ (tabs_p (L := lw_privs_7) h (fun q hq => by unfold lw_privs; simp only [List.mem_append]; exact Or.inr (Or.inr (Or.inr (Or.inr (Or.inr (Or.inr (Or.inl hq))))))))
  | 15, h => List.mem_append_left _ (tabs_p (L := lw_privs_8) h (fun q hq => by unfold lw_privs; simp only [List.mem_append]; exact Or.inr (Or.inr (Or.inr (Or.inr (Or.inr (Or.inr (Or.inr (Or.inl hq)))))))))
  | 16, h => List.mem_append_left _ (tabs_p (L := lw_privs_9) h (fun q hq => by unfold lw_privs; simp only [List.mem_append]; exact Or.inr (Or.inr (Or.inr (Or.inr (Or.inr (Or.inr (Or.inr (Or.inr (hq))))))))))
  | k + 17, h => by cases h
def nthC : List Cond → Nat → Option Cond
  | [], _ => none
  | w :: _, 0 => some w
  | _ :: ws, n + 1 => nthC ws n
theorem nthC_mem {w : Cond} : ∀ (l : List Cond) (n : Nat), nthC l n = some w → w ∈ l
  | [], _, h => by cases h
  | a :: l, 0, h => by cases h; exact List.mem_cons_self
  | a :: l, n + 1, h => List.mem_cons_of_mem _ (nthC_mem l n h)
theorem inT_r {w : Cond} (k p : Nat) (h : nthC (tabs k) p = some w) : w ∈ lw_tbl := tabs_mem k (nthC_mem _ _ h)
def inT (w : Cond) (p : Nat × Nat) : Bool := decide (nthC (tabs p.1) p.2 = some w)
theorem inT_mem {w : Cond} {p : Nat × Nat} (h : inT w p = true) : w ∈ lw_tbl := inT_r p.1 p.2 (of_decide_eq_true h)
def inTs : List Cond → List (Nat × Nat) → Bool
  | [], _ => true
  | w :: ws, p :: ps => inT w p && inTs ws ps
  | _, _ => false
theorem inTs_mem {ws : List Cond} : ∀ {ps : List (Nat × Nat)}, inTs ws ps = true → ∀ w ∈ ws, w ∈ lw_tbl := by
  induction ws with
  | nil => intro ps _ w hw; cases hw
  | cons a ws ih =>
    intro ps h w hw
    cases ps with
    | nil => simp [inTs] at h
    | cons p ps =>
      simp only [inTs, Bool.and_eq_true] at h
      rcases List.mem_cons.mp hw with rfl | h1
      · exact inT_mem h.1
      · exact ih h.2 w h1
/-- the words that outlast a call -/
def lw_g : List Cond := lw_tbl.filter goodWord
theorem lw_g_of {w : Cond} (h : w ∈ lw_tbl) (hg : goodWord w = true) : w ∈ lw_g := List.mem_filter.mpr ⟨h, hg⟩
theorem lw_g_good : GoodIn lw_g lw_g := fun w h => ⟨h, good_of_word (List.mem_filter.mp h).2⟩
def mneed (r : MT) : List Cond := .initialized r.1.cls :: (match r.2.2.2.2.1 with
  | 0 => [.static r.1]
  | 1 => [.instanceMethod r.1, .selects r.1.cls r.1 r.1]
  | _ => [.instanceMethod r.1])
def mok (r : MT) (ps : List (Nat × Nat)) : Bool := inTs (mneed r) ps && (mneed r).all goodWord && Jvm.plainName r.1.cls && decide (r.1.cls ≠ "java/lang/invoke/MethodHandle") && decide (r.1.cls ≠ "java/lang/invoke/VarHandle") && Nat.ble r.2.2.1 45 && (match r.2.2.2.2.1 with
  | 0 => decide (r.1.name ≠ "<init>")
  | 1 => decide (r.1.name ≠ "<init>")
  | _ => decide (r.1.name = "<init>") && decide (r.2.2.2.1 = none))
def moks : List MT → List (List (Nat × Nat)) → Bool
  | r :: rs, p :: ps => mok r p && moks rs ps
  | [], [] => true
  | _, _ => false
/-- what is known of a method of the table that may be called -/
def MokP (r : MT) : Prop := (∀ w ∈ mneed r, w ∈ lw_g) ∧ Jvm.plainName r.1.cls = true ∧ (r.1.cls ≠ "java/lang/invoke/MethodHandle" ∧ r.1.cls ≠ "java/lang/invoke/VarHandle") ∧ r.2.2.1 ≤ 45 ∧ (r.2.2.2.2.1 = 2 → r.1.name = "<init>" ∧ r.2.2.2.1 = none)
theorem mok_P {r : MT} {p : List (Nat × Nat)} (h : mok r p = true) : MokP r := by
  simp only [mok, Bool.and_eq_true, decide_eq_true_eq] at h
  obtain ⟨⟨⟨⟨⟨⟨h1, h2⟩, h3⟩, h4⟩, h5⟩, h6⟩, h7⟩ := h
  refine ⟨fun w hw => lw_g_of (inTs_mem h1 w hw) (List.all_eq_true.mp h2 w hw), h3, ⟨h4, h5⟩, Nat.le_of_ble_eq_true h6, fun e => ?_⟩
  rw [e] at h7
  simp only [Bool.and_eq_true, decide_eq_true_eq] at h7
  exact h7
theorem moks_P : ∀ {rs : List MT} {ps : List (List (Nat × Nat))}, moks rs ps = true → ∀ r ∈ rs, MokP r := by
  intro rs
  induction rs with
  | nil => intro ps _ r hr; cases hr
  | cons a rs ih =>
    intro ps h r hr
    cases ps with
    | nil => cases h
    | cons p ps =>
      simp only [moks, Bool.and_eq_true] at h
      rcases List.mem_cons.mp hr with rfl | h1
      · exact mok_P h.1
      · exact ih h.2 r h1
def CodeIn (r : MT) : Prop := Cond.code r.1 r.2.1 r.2.2.1 r.2.2.2.1 ∈ lw_tbl
theorem mcode_0 : ∀ r ∈ mtl_0, CodeIn r := List.forall_mem_cons.mpr ⟨inT_r 0 116 rfl, List.forall_mem_cons.mpr ⟨inT_r 2 81 rfl, List.forall_mem_cons.mpr ⟨inT_r 2 176 rfl, List.forall_mem_cons.mpr ⟨inT_r 2 132 rfl, List.forall_mem_cons.mpr ⟨inT_r 3 29 rfl, List.forall_mem_cons.mpr ⟨inT_r 3 32 rfl, List.forall_mem_cons.mpr ⟨inT_r 3 104 rfl, List.forall_mem_cons.mpr ⟨inT_r 3 120 rfl, List.forall_mem_cons.mpr ⟨inT_r 3 123 rfl, List.forall_mem_cons.mpr ⟨inT_r 3 133 rfl, List.forall_mem_cons.mpr ⟨inT_r 3 130 rfl, List.forall_mem_cons.mpr ⟨inT_r 3 136 rfl, List.forall_mem_cons.mpr ⟨inT_r 3 148 rfl, List.forall_mem_cons.mpr ⟨inT_r 3 155 rfl, List.forall_mem_cons.mpr ⟨inT_r 3 151 rfl, List.forall_mem_cons.mpr ⟨inT_r 3 158 rfl, List.forall_mem_cons.mpr ⟨inT_r 3 165 rfl, List.forall_mem_cons.mpr ⟨inT_r 4 8 rfl, List.forall_mem_cons.mpr ⟨inT_r 4 12 rfl, List.forall_mem_cons.mpr ⟨inT_r 4 15 rfl, fun _ h => absurd h List.not_mem_nil⟩⟩⟩⟩⟩⟩⟩⟩⟩⟩⟩⟩⟩⟩⟩⟩⟩⟩⟩⟩
set_option maxRecDepth 100000 in
theorem mok_0 : moks mtl_0 [[(0, 4), (0, 115)], [(0, 4), (2, 79), (2, 80)], [(0, 4), (2, 174), (2, 175)], [(0, 4), (2, 130), (2, 131)], [(0, 19), (3, 28)], [(0, 19), (3, 31)], [(0, 19), (3, 103)], [(0, 19), (3, 119)], [(0, 19), (3, 122)], [(0, 19), (3, 132)], [(0, 19), (3, 129)], [(0, 19), (3, 135)], [(0, 19), (3, 147)], [(0, 19), (3, 154)], [(0, 19), (3, 150)], [(0, 19), (3, 157)], [(0, 19), (3, 164)], [(0, 19), (4, 7)], [(0, 19), (4, 11)], [(0, 19), (4, 14)]] = true := by decide +kernel
theorem mcode_1 : ∀ r ∈ mtl_1, CodeIn r := List.forall_mem_cons.mpr ⟨inT_r 4 18 rfl, List.forall_mem_cons.mpr ⟨inT_r 4 22 rfl, List.forall_mem_cons.mpr ⟨inT_r 4 25 rfl, List.forall_mem_cons.mpr ⟨inT_r 4 32 rfl, List.forall_mem_cons.mpr ⟨inT_r 4 36 rfl, List.forall_mem_cons.mpr ⟨inT_r 4 40 rfl, List.forall_mem_cons.mpr ⟨inT_r 4 43 rfl, List.forall_mem_cons.mpr ⟨inT_r 4 46 rfl, List.forall_mem_cons.mpr ⟨inT_r 4 51 rfl, List.forall_mem_cons.mpr ⟨inT_r 4 54 rfl, List.forall_mem_cons.mpr ⟨inT_r 4 60 rfl, List.forall_mem_cons.mpr ⟨inT_r 4 57 rfl, List.forall_mem_cons.mpr ⟨inT_r 4 65 rfl, List.forall_mem_cons.mpr ⟨inT_r 4 68 rfl, List.forall_mem_cons.mpr ⟨inT_r 4 76 rfl, List.forall_mem_cons.mpr ⟨inT_r 4 73 rfl, List.forall_mem_cons.mpr ⟨inT_r 4 127 rfl, List.forall_mem_cons.mpr ⟨inT_r 0 141 rfl, List.forall_mem_cons.mpr ⟨inT_r 2 77 rfl, List.forall_mem_cons.mpr ⟨inT_r 2 142 rfl, fun _ h => absurd h List.not_mem_nil⟩⟩⟩⟩⟩⟩⟩⟩⟩⟩⟩⟩⟩⟩⟩⟩⟩⟩⟩⟩
set_option maxRecDepth 100000 in
theorem mok_1 : moks mtl_1 [[(0, 19), (4, 17)], [(0, 19), (4, 21)], [(0, 19), (4, 24)], [(0, 19), (4, 31)], [(0, 19), (4, 35)], [(0, 19), (4, 39)], [(0, 19), (4, 42)], [(0, 19), (4, 45)], [(0, 19), (4, 50)], [(0, 19), (4, 53)], [(0, 19), (4, 59)], [(0, 19), (4, 56)], [(0, 19), (4, 64)], [(0, 19), (4, 67)], [(0, 19), (4, 75)], [(0, 19), (4, 72)], [(0, 19), (4, 126)], [(0, 6), (0, 140)], [(0, 6), (2, 75), (2, 76)], [(0, 6), (2, 140), (2, 141)]] = true := by decide +kernel
theorem mcode_2 : ∀ r ∈ mtl_2, CodeIn r := List.forall_mem_cons.mpr ⟨inT_r 1 93 rfl, List.forall_mem_cons.mpr ⟨inT_r 3 67 rfl, List.forall_mem_cons.mpr ⟨inT_r 3 93 rfl, List.forall_mem_cons.mpr ⟨inT_r 3 72 rfl, List.forall_mem_cons.mpr ⟨inT_r 3 76 rfl, List.forall_mem_cons.mpr ⟨inT_r 3 46 rfl, List.forall_mem_cons.mpr ⟨inT_r 3 63 rfl, List.forall_mem_cons.mpr ⟨inT_r 3 88 rfl, List.forall_mem_cons.mpr ⟨inT_r 3 80 rfl, List.forall_mem_cons.mpr ⟨inT_r 3 84 rfl, List.forall_mem_cons.mpr ⟨inT_r 4 93 rfl, List.forall_mem_cons.mpr ⟨inT_r 4 97 rfl, List.forall_mem_cons.mpr ⟨inT_r 3 97 rfl, List.forall_mem_cons.mpr ⟨inT_r 3 186 rfl, List.forall_mem_cons.mpr ⟨inT_r 3 211 rfl, List.forall_mem_cons.mpr ⟨inT_r 3 207 rfl, List.forall_mem_cons.mpr ⟨inT_r 3 194 rfl, List.forall_mem_cons.mpr ⟨inT_r 3 199 rfl, List.forall_mem_cons.mpr ⟨inT_r 3 190 rfl, List.forall_mem_cons.mpr ⟨inT_r 3 215 rfl, fun _ h => absurd h List.not_mem_nil⟩⟩⟩⟩⟩⟩⟩⟩⟩⟩⟩⟩⟩⟩⟩⟩⟩⟩⟩⟩
set_option maxRecDepth 100000 in
theorem mok_2 : moks mtl_2 [[(0, 10), (1, 92)], [(0, 10), (3, 66), (9, 8)], [(0, 10), (3, 92), (9, 14)], [(0, 10), (3, 71), (9, 9)], [(0, 10), (3, 75), (9, 10)], [(0, 10), (3, 44), (3, 45)], [(0, 10), (3, 62), (9, 7)], [(0, 10), (3, 87), (9, 13)], [(0, 10), (3, 79), (9, 11)], [(0, 10), (3, 83), (9, 12)], [(0, 10), (4, 91), (4, 92)], [(0, 10), (4, 96), (10, 9)], [(0, 10), (3, 95), (3, 96)], [(0, 10), (3, 184), (3, 185)], [(0, 10), (3, 210), (10, 3)], [(0, 10), (3, 206), (10, 2)], [(0, 10), (3, 193), (10, 0)], [(0, 10), (3, 198), (10, 1)], [(0, 10), (3, 189), (9, 15)], [(0, 10), (3, 214), (10, 4)]] = true := by decide +kernel
theorem mcode_3 : ∀ r ∈ mtl_3, CodeIn r := List.forall_mem_cons.mpr ⟨inT_r 3 219 rfl, List.forall_mem_cons.mpr ⟨inT_r 0 131 rfl, List.forall_mem_cons.mpr ⟨inT_r 1 172 rfl, List.forall_mem_cons.mpr ⟨inT_r 2 137 rfl, List.forall_mem_cons.mpr ⟨inT_r 3 54 rfl, List.forall_mem_cons.mpr ⟨inT_r 4 109 rfl, List.forall_mem_cons.mpr ⟨inT_r 3 59 rfl, List.forall_mem_cons.mpr ⟨inT_r 3 50 rfl, List.forall_mem_cons.mpr ⟨inT_r 4 105 rfl, List.forall_mem_cons.mpr ⟨inT_r 4 113 rfl, List.forall_mem_cons.mpr ⟨inT_r 0 203 rfl, List.forall_mem_cons.mpr ⟨inT_r 1 160 rfl, List.forall_mem_cons.mpr ⟨inT_r 1 164 rfl, List.forall_mem_cons.mpr ⟨inT_r 1 204 rfl, List.forall_mem_cons.mpr ⟨inT_r 1 208 rfl, List.forall_mem_cons.mpr ⟨inT_r 1 213 rfl, List.forall_mem_cons.mpr ⟨inT_r 2 42 rfl, List.forall_mem_cons.mpr ⟨inT_r 2 53 rfl, List.forall_mem_cons.mpr ⟨inT_r 2 46 rfl, List.forall_mem_cons.mpr ⟨inT_r 2 61 rfl, fun _ h => absurd h List.not_mem_nil⟩⟩⟩⟩⟩⟩⟩⟩⟩⟩⟩⟩⟩⟩⟩⟩⟩⟩⟩⟩
set_option maxRecDepth 100000 in
theorem mok_3 : moks mtl_3 [[(0, 10), (3, 218), (10, 5)], [(0, 5), (0, 130)], [(0, 5), (1, 170), (1, 171)], [(0, 5), (2, 135), (2, 136)], [(0, 5), (3, 52), (3, 53)], [(0, 5), (4, 107), (4, 108)], [(0, 5), (3, 57), (3, 58)], [(0, 5), (3, 48), (3, 49)], [(0, 5), (4, 103), (4, 104)], [(0, 5), (4, 111), (4, 112)], [(0, 7), (0, 202)], [(0, 7), (1, 158), (1, 159)], [(0, 7), (1, 163), (8, 0)], [(0, 7), (1, 203), (8, 3)], [(0, 7), (1, 207), (8, 4)], [(0, 7), (1, 212)], [(0, 7), (2, 41), (8, 5)], [(0, 7), (2, 52), (8, 7)], [(0, 7), (2, 45), (8, 6)], [(0, 7), (2, 60), (8, 8)]] = true := by decide +kernel
theorem mcode_4 : ∀ r ∈ mtl_4, CodeIn r := List.forall_mem_cons.mpr ⟨inT_r 2 65 rfl, List.forall_mem_cons.mpr ⟨inT_r 2 69 rfl, List.forall_mem_cons.mpr ⟨inT_r 2 73 rfl, List.forall_mem_cons.mpr ⟨inT_r 2 89 rfl, List.forall_mem_cons.mpr ⟨inT_r 2 93 rfl, List.forall_mem_cons.mpr ⟨inT_r 0 45 rfl, List.forall_mem_cons.mpr ⟨inT_r 1 168 rfl, List.forall_mem_cons.mpr ⟨inT_r 2 125 rfl, List.forall_mem_cons.mpr ⟨inT_r 2 85 rfl, List.forall_mem_cons.mpr ⟨inT_r 2 97 rfl, List.forall_mem_cons.mpr ⟨inT_r 2 164 rfl, List.forall_mem_cons.mpr ⟨inT_r 3 21 rfl, List.forall_mem_cons.mpr ⟨inT_r 3 1 rfl, List.forall_mem_cons.mpr ⟨inT_r 3 203 rfl, List.forall_mem_cons.mpr ⟨inT_r 3 108 rfl, List.forall_mem_cons.mpr ⟨inT_r 3 112 rfl, List.forall_mem_cons.mpr ⟨inT_r 2 113 rfl, List.forall_mem_cons.mpr ⟨inT_r 2 117 rfl, List.forall_mem_cons.mpr ⟨inT_r 2 105 rfl, List.forall_mem_cons.mpr ⟨inT_r 2 109 rfl, fun _ h => absurd h List.not_mem_nil⟩⟩⟩⟩⟩⟩⟩⟩⟩⟩⟩⟩⟩⟩⟩⟩⟩⟩⟩⟩
set_option maxRecDepth 100000 in
theorem mok_4 : moks mtl_4 [[(0, 7), (2, 64), (8, 9)], [(0, 7), (2, 68), (8, 10)], [(0, 7), (2, 72), (8, 11)], [(0, 7), (2, 88), (8, 12)], [(0, 7), (2, 92), (8, 13)], [(0, 3), (0, 44)], [(0, 3), (1, 166), (1, 167)], [(0, 3), (2, 123), (2, 124)], [(0, 3), (2, 83), (2, 84)], [(0, 3), (2, 95), (2, 96)], [(0, 3), (2, 162), (2, 163)], [(0, 3), (3, 19), (3, 20)], [(0, 3), (2, 239), (3, 0)], [(0, 3), (3, 201), (3, 202)], [(0, 3), (3, 106), (3, 107)], [(0, 3), (3, 110), (3, 111)], [(0, 3), (2, 111), (2, 112)], [(0, 3), (2, 116), (8, 14)], [(0, 3), (2, 103), (2, 104)], [(0, 3), (2, 107), (2, 108)]] = true := by decide +kernel
theorem mcode_5 : ∀ r ∈ mtl_5, CodeIn r := List.forall_mem_cons.mpr ⟨inT_r 2 101 rfl, List.forall_mem_cons.mpr ⟨inT_r 2 217 rfl, List.forall_mem_cons.mpr ⟨inT_r 2 225 rfl, List.forall_mem_cons.mpr ⟨inT_r 2 229 rfl, List.forall_mem_cons.mpr ⟨inT_r 2 160 rfl, List.forall_mem_cons.mpr ⟨inT_r 0 217 rfl, List.forall_mem_cons.mpr ⟨inT_r 1 176 rfl, List.forall_mem_cons.mpr ⟨inT_r 1 183 rfl, List.forall_mem_cons.mpr ⟨inT_r 1 193 rfl, List.forall_mem_cons.mpr ⟨inT_r 1 200 rfl, List.forall_mem_cons.mpr ⟨inT_r 1 230 rfl, List.forall_mem_cons.mpr ⟨inT_r 1 186 rfl, List.forall_mem_cons.mpr ⟨inT_r 1 189 rfl, List.forall_mem_cons.mpr ⟨inT_r 1 196 rfl, List.forall_mem_cons.mpr ⟨inT_r 0 32 rfl, List.forall_mem_cons.mpr ⟨inT_r 4 153 rfl, List.forall_mem_cons.mpr ⟨inT_r 1 140 rfl, List.forall_mem_cons.mpr ⟨inT_r 1 156 rfl, List.forall_mem_cons.mpr ⟨inT_r 1 152 rfl, List.forall_mem_cons.mpr ⟨inT_r 2 121 rfl, fun _ h => absurd h List.not_mem_nil⟩⟩⟩⟩⟩⟩⟩⟩⟩⟩⟩⟩⟩⟩⟩⟩⟩⟩⟩⟩
set_option maxRecDepth 100000 in
theorem mok_5 : moks mtl_5 [[(0, 3), (2, 99), (2, 100)], [(0, 3), (2, 215), (2, 216)], [(0, 3), (2, 223), (2, 224)], [(0, 3), (2, 227), (2, 228)], [(0, 3), (2, 158), (2, 159)], [(0, 8), (0, 216)], [(0, 8), (1, 174), (1, 175)], [(0, 8), (1, 181), (1, 182)], [(0, 8), (1, 192), (8, 1)], [(0, 8), (1, 199), (8, 2)], [(0, 8), (1, 228), (1, 229)], [(0, 8), (1, 185)], [(0, 8), (1, 188)], [(0, 8), (1, 195)], [(0, 2), (0, 31)], [(0, 2), (4, 151), (4, 152)], [(0, 2), (1, 138), (1, 139)], [(0, 2), (1, 154), (1, 155)], [(0, 2), (1, 150), (1, 151)], [(0, 2), (2, 119), (2, 120)]] = true := by decide +kernel
theorem mcode_6 : ∀ r ∈ mtl_6, CodeIn r := List.forall_mem_cons.mpr ⟨inT_r 2 156 rfl, List.forall_mem_cons.mpr ⟨inT_r 2 172 rfl, List.forall_mem_cons.mpr ⟨inT_r 3 42 rfl, List.forall_mem_cons.mpr ⟨inT_r 3 178 rfl, List.forall_mem_cons.mpr ⟨inT_r 1 45 rfl, List.forall_mem_cons.mpr ⟨inT_r 2 184 rfl, List.forall_mem_cons.mpr ⟨inT_r 2 188 rfl, List.forall_mem_cons.mpr ⟨inT_r 3 228 rfl, List.forall_mem_cons.mpr ⟨inT_r 3 232 rfl, List.forall_mem_cons.mpr ⟨inT_r 4 1 rfl, List.forall_mem_cons.mpr ⟨inT_r 3 236 rfl, List.forall_mem_cons.mpr ⟨inT_r 2 193 rfl, List.forall_mem_cons.mpr ⟨inT_r 2 197 rfl, List.forall_mem_cons.mpr ⟨inT_r 2 208 rfl, List.forall_mem_cons.mpr ⟨inT_r 2 221 rfl, List.forall_mem_cons.mpr ⟨inT_r 2 233 rfl, List.forall_mem_cons.mpr ⟨inT_r 2 237 rfl, List.forall_mem_cons.mpr ⟨inT_r 2 212 rfl, List.forall_mem_cons.mpr ⟨inT_r 3 13 rfl, List.forall_mem_cons.mpr ⟨inT_r 4 136 rfl, fun _ h => absurd h List.not_mem_nil⟩⟩⟩⟩⟩⟩⟩⟩⟩⟩⟩⟩⟩⟩⟩⟩⟩⟩⟩⟩
set_option maxRecDepth 100000 in
theorem mok_6 : moks mtl_6 [[(0, 2), (2, 154), (2, 155)], [(0, 2), (2, 170), (2, 171)], [(0, 2), (3, 40), (3, 41)], [(0, 2), (3, 176), (3, 177)], [(0, 9), (1, 44)], [(0, 9), (2, 182), (2, 183)], [(0, 9), (2, 186), (2, 187)], [(0, 9), (3, 226), (3, 227)], [(0, 9), (3, 231), (10, 6)], [(0, 9), (4, 0), (10, 8)], [(0, 9), (3, 235), (10, 7)], [(0, 9), (2, 192), (8, 15)], [(0, 9), (2, 196), (9, 0)], [(0, 9), (2, 207), (9, 1)], [(0, 9), (2, 220), (9, 3)], [(0, 9), (2, 232), (9, 4)], [(0, 9), (2, 236), (9, 5)], [(0, 9), (2, 211), (9, 2)], [(0, 9), (3, 11), (3, 12)], [(0, 9), (4, 134), (4, 135)]] = true := by decide +kernel
theorem mcode_7 : ∀ r ∈ mtl_7, CodeIn r := List.forall_mem_cons.mpr ⟨inT_r 4 141 rfl, List.forall_mem_cons.mpr ⟨inT_r 3 9 rfl, List.forall_mem_cons.mpr ⟨inT_r 3 17 rfl, List.forall_mem_cons.mpr ⟨inT_r 0 24 rfl, List.forall_mem_cons.mpr ⟨inT_r 1 136 rfl, List.forall_mem_cons.mpr ⟨inT_r 1 144 rfl, List.forall_mem_cons.mpr ⟨inT_r 1 148 rfl, List.forall_mem_cons.mpr ⟨inT_r 2 148 rfl, List.forall_mem_cons.mpr ⟨inT_r 2 152 rfl, List.forall_mem_cons.mpr ⟨inT_r 2 168 rfl, List.forall_mem_cons.mpr ⟨inT_r 2 180 rfl, List.forall_mem_cons.mpr ⟨inT_r 3 5 rfl, List.forall_mem_cons.mpr ⟨inT_r 3 25 rfl, List.forall_mem_cons.mpr ⟨inT_r 3 38 rfl, List.forall_mem_cons.mpr ⟨inT_r 3 101 rfl, List.forall_mem_cons.mpr ⟨inT_r 3 117 rfl, List.forall_mem_cons.mpr ⟨inT_r 3 127 rfl, List.forall_mem_cons.mpr ⟨inT_r 3 144 rfl, List.forall_mem_cons.mpr ⟨inT_r 3 162 rfl, List.forall_mem_cons.mpr ⟨inT_r 3 169 rfl, fun _ h => absurd h List.not_mem_nil⟩⟩⟩⟩⟩⟩⟩⟩⟩⟩⟩⟩⟩⟩⟩⟩⟩⟩⟩⟩
set_option maxRecDepth 100000 in
theorem mok_7 : moks mtl_7 [[(0, 9), (4, 139), (4, 140)], [(0, 9), (3, 7), (3, 8)], [(0, 9), (3, 16), (9, 6)], [(0, 1), (0, 23)], [(0, 1), (1, 134), (1, 135)], [(0, 1), (1, 142), (1, 143)], [(0, 1), (1, 146), (1, 147)], [(0, 1), (2, 146), (2, 147)], [(0, 1), (2, 150), (2, 151)], [(0, 1), (2, 166), (2, 167)], [(0, 1), (2, 178), (2, 179)], [(0, 1), (3, 3), (3, 4)], [(0, 1), (3, 23), (3, 24)], [(0, 1), (3, 36), (3, 37)], [(0, 1), (3, 99), (3, 100)], [(0, 1), (3, 115), (3, 116)], [(0, 1), (3, 125), (3, 126)], [(0, 1), (3, 142), (3, 143)], [(0, 1), (3, 160), (3, 161)], [(0, 1), (3, 167), (3, 168)]] = true := by decide +kernel
theorem mcode_8 : ∀ r ∈ mtl_8, CodeIn r := List.forall_mem_cons.mpr ⟨inT_r 3 174 rfl, List.forall_mem_cons.mpr ⟨inT_r 3 182 rfl, List.forall_mem_cons.mpr ⟨inT_r 3 224 rfl, List.forall_mem_cons.mpr ⟨inT_r 4 5 rfl, List.forall_mem_cons.mpr ⟨inT_r 4 29 rfl, List.forall_mem_cons.mpr ⟨inT_r 4 80 rfl, List.forall_mem_cons.mpr ⟨inT_r 4 84 rfl, List.forall_mem_cons.mpr ⟨inT_r 4 89 rfl, List.forall_mem_cons.mpr ⟨inT_r 4 101 rfl, List.forall_mem_cons.mpr ⟨inT_r 4 117 rfl, List.forall_mem_cons.mpr ⟨inT_r 4 124 rfl, List.forall_mem_cons.mpr ⟨inT_r 4 132 rfl, List.forall_mem_cons.mpr ⟨inT_r 4 145 rfl, List.forall_mem_cons.mpr ⟨inT_r 4 149 rfl, List.forall_mem_cons.mpr ⟨inT_r 4 158 rfl, List.forall_mem_cons.mpr ⟨inT_r 4 163 rfl, List.forall_mem_cons.mpr ⟨inT_r 5 95 rfl, List.forall_mem_cons.mpr ⟨inT_r 5 229 rfl, List.forall_mem_cons.mpr ⟨inT_r 5 161 rfl, List.forall_mem_cons.mpr ⟨inT_r 5 143 rfl, fun _ h => absurd h List.not_mem_nil⟩⟩⟩⟩⟩⟩⟩⟩⟩⟩⟩⟩⟩⟩⟩⟩⟩⟩⟩⟩
set_option maxRecDepth 100000 in
theorem mok_8 : moks mtl_8 [[(0, 1), (3, 172), (3, 173)], [(0, 1), (3, 180), (3, 181)], [(0, 1), (3, 222), (3, 223)], [(0, 1), (4, 3), (4, 4)], [(0, 1), (4, 27), (4, 28)], [(0, 1), (4, 78), (4, 79)], [(0, 1), (4, 82), (4, 83)], [(0, 1), (4, 87), (4, 88)], [(0, 1), (4, 99), (4, 100)], [(0, 1), (4, 115), (4, 116)], [(0, 1), (4, 122), (4, 123)], [(0, 1), (4, 130), (4, 131)], [(0, 1), (4, 143), (4, 144)], [(0, 1), (4, 147), (4, 148)], [(0, 1), (4, 156), (4, 157)], [(0, 11), (4, 162)], [(0, 11), (5, 94)], [(0, 11), (5, 228)], [(0, 11), (5, 160)], [(0, 11), (5, 142)]] = true := by decide +kernel
theorem mcode_9 : ∀ r ∈ mtl_9, CodeIn r := List.forall_mem_cons.mpr ⟨inT_r 6 104 rfl, List.forall_mem_cons.mpr ⟨inT_r 7 151 rfl, List.forall_mem_cons.mpr ⟨inT_r 7 148 rfl, List.forall_mem_cons.mpr ⟨inT_r 5 103 rfl, List.forall_mem_cons.mpr ⟨inT_r 5 84 rfl, List.forall_mem_cons.mpr ⟨inT_r 5 88 rfl, List.forall_mem_cons.mpr ⟨inT_r 5 92 rfl, List.forall_mem_cons.mpr ⟨inT_r 5 115 rfl, List.forall_mem_cons.mpr ⟨inT_r 5 111 rfl, List.forall_mem_cons.mpr ⟨inT_r 5 154 rfl, List.forall_mem_cons.mpr ⟨inT_r 5 140 rfl, List.forall_mem_cons.mpr ⟨inT_r 5 158 rfl, List.forall_mem_cons.mpr ⟨inT_r 5 136 rfl, List.forall_mem_cons.mpr ⟨inT_r 5 147 rfl, List.forall_mem_cons.mpr ⟨inT_r 5 132 rfl, List.forall_mem_cons.mpr ⟨inT_r 5 127 rfl, List.forall_mem_cons.mpr ⟨inT_r 5 169 rfl, List.forall_mem_cons.mpr ⟨inT_r 5 179 rfl, List.forall_mem_cons.mpr ⟨inT_r 5 165 rfl, List.forall_mem_cons.mpr ⟨inT_r 5 183 rfl, fun _ h => absurd h List.not_mem_nil⟩⟩⟩⟩⟩⟩⟩⟩⟩⟩⟩⟩⟩⟩⟩⟩⟩⟩⟩⟩
set_option maxRecDepth 100000 in
theorem mok_9 : moks mtl_9 [[(0, 11), (6, 103)], [(0, 11), (7, 150)], [(0, 11), (7, 147), (16, 11)], [(0, 11), (5, 102), (10, 11)], [(0, 11), (5, 82), (5, 83)], [(0, 11), (5, 87), (10, 10)], [(0, 11), (5, 90), (5, 91)], [(0, 11), (5, 114), (10, 14)], [(0, 11), (5, 110), (10, 13)], [(0, 11), (5, 153), (11, 6)], [(0, 11), (5, 139), (11, 4)], [(0, 11), (5, 157), (11, 7)], [(0, 11), (5, 135), (11, 3)], [(0, 11), (5, 146), (11, 5)], [(0, 11), (5, 131), (11, 2)], [(0, 11), (5, 126), (11, 1)], [(0, 11), (5, 168), (11, 9)], [(0, 11), (5, 178), (11, 10)], [(0, 11), (5, 164), (11, 8)], [(0, 11), (5, 182), (11, 11)]] = true := by decide +kernel
theorem mcode_10 : ∀ r ∈ mtl_10, CodeIn r := List.forall_mem_cons.mpr ⟨inT_r 5 188 rfl, List.forall_mem_cons.mpr ⟨inT_r 5 123 rfl, List.forall_mem_cons.mpr ⟨inT_r 5 119 rfl, List.forall_mem_cons.mpr ⟨inT_r 5 194 rfl, List.forall_mem_cons.mpr ⟨inT_r 5 107 rfl, List.forall_mem_cons.mpr ⟨inT_r 5 202 rfl, List.forall_mem_cons.mpr ⟨inT_r 5 198 rfl, List.forall_mem_cons.mpr ⟨inT_r 5 99 rfl, List.forall_mem_cons.mpr ⟨inT_r 5 206 rfl, List.forall_mem_cons.mpr ⟨inT_r 5 218 rfl, List.forall_mem_cons.mpr ⟨inT_r 5 214 rfl, List.forall_mem_cons.mpr ⟨inT_r 5 226 rfl, List.forall_mem_cons.mpr ⟨inT_r 5 222 rfl, List.forall_mem_cons.mpr ⟨inT_r 6 9 rfl, List.forall_mem_cons.mpr ⟨inT_r 6 93 rfl, List.forall_mem_cons.mpr ⟨inT_r 6 1 rfl, List.forall_mem_cons.mpr ⟨inT_r 6 5 rfl, List.forall_mem_cons.mpr ⟨inT_r 5 237 rfl, List.forall_mem_cons.mpr ⟨inT_r 5 233 rfl, List.forall_mem_cons.mpr ⟨inT_r 6 61 rfl, fun _ h => absurd h List.not_mem_nil⟩⟩⟩⟩⟩⟩⟩⟩⟩⟩⟩⟩⟩⟩⟩⟩⟩⟩⟩⟩
set_option maxRecDepth 100000 in
theorem mok_10 : moks mtl_10 [[(0, 11), (5, 187), (11, 12)], [(0, 11), (5, 122), (11, 0)], [(0, 11), (5, 118), (10, 15)], [(0, 11), (5, 193), (11, 13)], [(0, 11), (5, 106), (10, 12)], [(0, 11), (5, 201), (11, 15)], [(0, 11), (5, 197), (11, 14)], [(0, 11), (5, 97), (5, 98)], [(0, 11), (5, 204), (5, 205)], [(0, 11), (5, 217), (12, 1)], [(0, 11), (5, 213), (12, 0)], [(0, 11), (5, 225), (12, 3)], [(0, 11), (5, 221), (12, 2)], [(0, 11), (6, 8), (12, 8)], [(0, 11), (6, 92), (13, 10)], [(0, 11), (6, 0), (12, 6)], [(0, 11), (6, 4), (12, 7)], [(0, 11), (5, 236), (12, 5)], [(0, 11), (5, 232), (12, 4)], [(0, 11), (6, 60), (13, 3)]] = true := by decide +kernel
theorem mcode_11 : ∀ r ∈ mtl_11, CodeIn r := List.forall_mem_cons.mpr ⟨inT_r 5 210 rfl, List.forall_mem_cons.mpr ⟨inT_r 6 21 rfl, List.forall_mem_cons.mpr ⟨inT_r 6 25 rfl, List.forall_mem_cons.mpr ⟨inT_r 6 17 rfl, List.forall_mem_cons.mpr ⟨inT_r 6 13 rfl, List.forall_mem_cons.mpr ⟨inT_r 6 57 rfl, List.forall_mem_cons.mpr ⟨inT_r 6 65 rfl, List.forall_mem_cons.mpr ⟨inT_r 6 53 rfl, List.forall_mem_cons.mpr ⟨inT_r 6 69 rfl, List.forall_mem_cons.mpr ⟨inT_r 6 73 rfl, List.forall_mem_cons.mpr ⟨inT_r 6 77 rfl, List.forall_mem_cons.mpr ⟨inT_r 6 81 rfl, List.forall_mem_cons.mpr ⟨inT_r 6 49 rfl, List.forall_mem_cons.mpr ⟨inT_r 6 45 rfl, List.forall_mem_cons.mpr ⟨inT_r 6 41 rfl, List.forall_mem_cons.mpr ⟨inT_r 6 37 rfl, List.forall_mem_cons.mpr ⟨inT_r 6 33 rfl, List.forall_mem_cons.mpr ⟨inT_r 6 29 rfl, List.forall_mem_cons.mpr ⟨inT_r 6 97 rfl, List.forall_mem_cons.mpr ⟨inT_r 6 89 rfl, fun _ h => absurd h List.not_mem_nil⟩⟩⟩⟩⟩⟩⟩⟩⟩⟩⟩⟩⟩⟩⟩⟩⟩⟩⟩⟩
set_option maxRecDepth 100000 in
theorem mok_11 : moks mtl_11 [[(0, 11), (5, 208), (5, 209)], [(0, 11), (6, 20), (12, 10)], [(0, 11), (6, 24), (12, 11)], [(0, 11), (6, 16), (12, 9)], [(0, 11), (6, 11), (6, 12)], [(0, 11), (6, 56), (13, 2)], [(0, 11), (6, 64), (13, 4)], [(0, 11), (6, 52), (13, 1)], [(0, 11), (6, 68), (13, 5)], [(0, 11), (6, 72), (13, 6)], [(0, 11), (6, 76), (13, 7)], [(0, 11), (6, 80), (13, 8)], [(0, 11), (6, 48), (13, 0)], [(0, 11), (6, 44), (12, 15)], [(0, 11), (6, 40), (12, 14)], [(0, 11), (6, 36), (12, 13)], [(0, 11), (6, 32), (12, 12)], [(0, 11), (6, 27), (6, 28)], [(0, 11), (6, 96), (13, 11)], [(0, 11), (6, 88), (13, 9)]] = true := by decide +kernel
theorem mcode_12 : ∀ r ∈ mtl_12, CodeIn r := List.forall_mem_cons.mpr ⟨inT_r 6 85 rfl, List.forall_mem_cons.mpr ⟨inT_r 6 101 rfl, List.forall_mem_cons.mpr ⟨inT_r 6 112 rfl, List.forall_mem_cons.mpr ⟨inT_r 6 124 rfl, List.forall_mem_cons.mpr ⟨inT_r 6 136 rfl, List.forall_mem_cons.mpr ⟨inT_r 6 120 rfl, List.forall_mem_cons.mpr ⟨inT_r 6 128 rfl, List.forall_mem_cons.mpr ⟨inT_r 6 132 rfl, List.forall_mem_cons.mpr ⟨inT_r 6 140 rfl, List.forall_mem_cons.mpr ⟨inT_r 6 116 rfl, List.forall_mem_cons.mpr ⟨inT_r 6 108 rfl, List.forall_mem_cons.mpr ⟨inT_r 6 148 rfl, List.forall_mem_cons.mpr ⟨inT_r 6 144 rfl, List.forall_mem_cons.mpr ⟨inT_r 6 156 rfl, List.forall_mem_cons.mpr ⟨inT_r 6 152 rfl, List.forall_mem_cons.mpr ⟨inT_r 6 163 rfl, List.forall_mem_cons.mpr ⟨inT_r 6 167 rfl, List.forall_mem_cons.mpr ⟨inT_r 6 171 rfl, List.forall_mem_cons.mpr ⟨inT_r 6 160 rfl, List.forall_mem_cons.mpr ⟨inT_r 6 179 rfl, fun _ h => absurd h List.not_mem_nil⟩⟩⟩⟩⟩⟩⟩⟩⟩⟩⟩⟩⟩⟩⟩⟩⟩⟩⟩⟩
set_option maxRecDepth 100000 in
theorem mok_12 : moks mtl_12 [[(0, 11), (6, 83), (6, 84)], [(0, 11), (6, 99), (6, 100)], [(0, 11), (6, 111), (13, 12)], [(0, 11), (6, 123), (13, 15)], [(0, 11), (6, 135), (14, 2)], [(0, 11), (6, 119), (13, 14)], [(0, 11), (6, 127), (14, 0)], [(0, 11), (6, 131), (14, 1)], [(0, 11), (6, 139), (14, 3)], [(0, 11), (6, 115), (13, 13)], [(0, 11), (6, 106), (6, 107)], [(0, 11), (6, 147), (14, 4)], [(0, 11), (6, 142), (6, 143)], [(0, 11), (6, 155), (14, 5)], [(0, 11), (6, 150), (6, 151)], [(0, 11), (6, 162)], [(0, 11), (6, 166), (14, 6)], [(0, 11), (6, 170), (14, 7)], [(0, 11), (6, 158), (6, 159)], [(0, 11), (6, 178), (14, 8)]] = true := by decide +kernel
theorem mcode_13 : ∀ r ∈ mtl_13, CodeIn r := List.forall_mem_cons.mpr ⟨inT_r 6 182 rfl, List.forall_mem_cons.mpr ⟨inT_r 6 175 rfl, List.forall_mem_cons.mpr ⟨inT_r 6 186 rfl, List.forall_mem_cons.mpr ⟨inT_r 6 190 rfl, List.forall_mem_cons.mpr ⟨inT_r 6 206 rfl, List.forall_mem_cons.mpr ⟨inT_r 6 202 rfl, List.forall_mem_cons.mpr ⟨inT_r 6 198 rfl, List.forall_mem_cons.mpr ⟨inT_r 6 194 rfl, List.forall_mem_cons.mpr ⟨inT_r 6 218 rfl, List.forall_mem_cons.mpr ⟨inT_r 6 238 rfl, List.forall_mem_cons.mpr ⟨inT_r 6 234 rfl, List.forall_mem_cons.mpr ⟨inT_r 6 226 rfl, List.forall_mem_cons.mpr ⟨inT_r 6 222 rfl, List.forall_mem_cons.mpr ⟨inT_r 6 230 rfl, List.forall_mem_cons.mpr ⟨inT_r 6 214 rfl, List.forall_mem_cons.mpr ⟨inT_r 7 10 rfl, List.forall_mem_cons.mpr ⟨inT_r 7 6 rfl, List.forall_mem_cons.mpr ⟨inT_r 7 2 rfl, List.forall_mem_cons.mpr ⟨inT_r 6 210 rfl, List.forall_mem_cons.mpr ⟨inT_r 7 22 rfl, fun _ h => absurd h List.not_mem_nil⟩⟩⟩⟩⟩⟩⟩⟩⟩⟩⟩⟩⟩⟩⟩⟩⟩⟩⟩⟩
set_option maxRecDepth 100000 in
theorem mok_13 : moks mtl_13 [[(0, 11), (6, 181)], [(0, 11), (6, 173), (6, 174)], [(0, 11), (6, 184), (6, 185)], [(0, 11), (6, 188), (6, 189)], [(0, 11), (6, 205), (14, 11)], [(0, 11), (6, 201), (14, 10)], [(0, 11), (6, 197), (14, 9)], [(0, 11), (6, 192), (6, 193)], [(0, 11), (6, 217), (14, 13)], [(0, 11), (6, 237), (15, 2)], [(0, 11), (6, 233), (15, 1)], [(0, 11), (6, 225), (14, 15)], [(0, 11), (6, 221), (14, 14)], [(0, 11), (6, 229), (15, 0)], [(0, 11), (6, 213), (14, 12)], [(0, 11), (7, 9), (15, 5)], [(0, 11), (7, 5), (15, 4)], [(0, 11), (7, 1), (15, 3)], [(0, 11), (6, 208), (6, 209)], [(0, 11), (7, 21), (15, 7)]] = true := by decide +kernel
theorem mcode_14 : ∀ r ∈ mtl_14, CodeIn r := List.forall_mem_cons.mpr ⟨inT_r 7 18 rfl, List.forall_mem_cons.mpr ⟨inT_r 7 14 rfl, List.forall_mem_cons.mpr ⟨inT_r 7 35 rfl, List.forall_mem_cons.mpr ⟨inT_r 7 31 rfl, List.forall_mem_cons.mpr ⟨inT_r 7 39 rfl, List.forall_mem_cons.mpr ⟨inT_r 7 43 rfl, List.forall_mem_cons.mpr ⟨inT_r 7 27 rfl, List.forall_mem_cons.mpr ⟨inT_r 7 51 rfl, List.forall_mem_cons.mpr ⟨inT_r 7 55 rfl, List.forall_mem_cons.mpr ⟨inT_r 7 59 rfl, List.forall_mem_cons.mpr ⟨inT_r 7 63 rfl, List.forall_mem_cons.mpr ⟨inT_r 7 67 rfl, List.forall_mem_cons.mpr ⟨inT_r 7 75 rfl, List.forall_mem_cons.mpr ⟨inT_r 7 71 rfl, List.forall_mem_cons.mpr ⟨inT_r 7 84 rfl, List.forall_mem_cons.mpr ⟨inT_r 7 79 rfl, List.forall_mem_cons.mpr ⟨inT_r 7 92 rfl, List.forall_mem_cons.mpr ⟨inT_r 7 88 rfl, List.forall_mem_cons.mpr ⟨inT_r 7 47 rfl, List.forall_mem_cons.mpr ⟨inT_r 7 96 rfl, fun _ h => absurd h List.not_mem_nil⟩⟩⟩⟩⟩⟩⟩⟩⟩⟩⟩⟩⟩⟩⟩⟩⟩⟩⟩⟩
set_option maxRecDepth 100000 in
theorem mok_14 : moks mtl_14 [[(0, 11), (7, 17), (15, 6)], [(0, 11), (7, 12), (7, 13)], [(0, 11), (7, 34), (15, 9)], [(0, 11), (7, 30), (15, 8)], [(0, 11), (7, 38), (15, 10)], [(0, 11), (7, 42), (15, 11)], [(0, 11), (7, 25), (7, 26)], [(0, 11), (7, 50), (15, 12)], [(0, 11), (7, 54), (15, 13)], [(0, 11), (7, 58), (15, 14)], [(0, 11), (7, 62), (15, 15)], [(0, 11), (7, 66), (16, 0)], [(0, 11), (7, 74), (16, 2)], [(0, 11), (7, 70), (16, 1)], [(0, 11), (7, 83), (16, 4)], [(0, 11), (7, 78), (16, 3)], [(0, 11), (7, 91), (16, 6)], [(0, 11), (7, 87), (16, 5)], [(0, 11), (7, 45), (7, 46)], [(0, 11), (7, 94), (7, 95)]] = true := by decide +kernel
theorem mcode_15 : ∀ r ∈ mtl_15, CodeIn r := List.forall_mem_cons.mpr ⟨inT_r 7 100 rfl, List.forall_mem_cons.mpr ⟨inT_r 7 108 rfl, List.forall_mem_cons.mpr ⟨inT_r 7 104 rfl, List.forall_mem_cons.mpr ⟨inT_r 7 116 rfl, List.forall_mem_cons.mpr ⟨inT_r 7 112 rfl, List.forall_mem_cons.mpr ⟨inT_r 7 120 rfl, List.forall_mem_cons.mpr ⟨inT_r 7 124 rfl, List.forall_mem_cons.mpr ⟨inT_r 7 132 rfl, List.forall_mem_cons.mpr ⟨inT_r 7 136 rfl, List.forall_mem_cons.mpr ⟨inT_r 7 128 rfl, List.forall_mem_cons.mpr ⟨inT_r 7 140 rfl, List.forall_mem_cons.mpr ⟨inT_r 7 144 rfl, List.forall_mem_cons.mpr ⟨inT_r 7 155 rfl, List.forall_mem_cons.mpr ⟨inT_r 2 200 rfl, List.forall_mem_cons.mpr ⟨inT_r 1 234 rfl, List.forall_mem_cons.mpr ⟨inT_r 1 238 rfl, List.forall_mem_cons.mpr ⟨inT_r 2 8 rfl, List.forall_mem_cons.mpr ⟨inT_r 2 4 rfl, List.forall_mem_cons.mpr ⟨inT_r 2 11 rfl, fun _ h => absurd h List.not_mem_nil⟩⟩⟩⟩⟩⟩⟩⟩⟩⟩⟩⟩⟩⟩⟩⟩⟩⟩⟩
set_option maxRecDepth 100000 in
theorem mok_15 : moks mtl_15 [[(0, 11), (7, 98), (7, 99)], [(0, 11), (7, 107), (16, 7)], [(0, 11), (7, 102), (7, 103)], [(0, 11), (7, 115), (16, 8)], [(0, 11), (7, 110), (7, 111)], [(0, 11), (7, 118), (7, 119)], [(0, 11), (7, 122), (7, 123)], [(0, 11), (7, 131), (16, 9)], [(0, 11), (7, 135), (16, 10)], [(0, 11), (7, 126), (7, 127)], [(0, 11), (7, 138), (7, 139)], [(0, 11), (7, 142), (7, 143)], [(0, 11), (7, 153), (7, 154)], [(0, 18), (2, 199)], [(0, 13), (1, 232), (1, 233)], [(0, 13), (1, 236), (1, 237)], [(0, 13), (2, 6), (2, 7)], [(0, 13), (2, 2), (2, 3)], [(0, 14), (2, 10)]] = true := by decide +kernel
def stIx : List Nat := [135, 137, 139, 141, 143, 145, 147, 149, 151, 153, 155, 157, 159]
def kcls (c : Nat) : String := match Nat.beq c 16 with
  | true => "java/lang/String"
  | false => (classes.getD c ("", fun _ => ("", "", "", false), 0)).1
def rcd (t : Option FieldType) : Nat := match t with
  | none => 0
  | some (.object C) => (match decide (C = "java/lang/String") with
    | true => 18
    | false => 2 + (classes.findIdx (fun q => decide (q.1 = C))))
  | some _ => 1
def ciName : MethodName := ⟨"java/lang/String", "checkIndex", "(II)V"⟩
def fOK (own : String) (e : Nat × Nat × Nat × Bool) (p : Nat × Nat) : Bool := match Nat.beq e.2.1 16 with
  | true => (match e.2.2.1 with
    | 0 => inT (.fieldLink own e.1 "java/lang/String" "value" "[B") p && !e.2.2.2
    | _ => inT (.fieldLink own e.1 "java/lang/String" "coder" "B") p && e.2.2.2)
  | false => (match classes[e.2.1]? with
    | some q => Nat.blt e.2.2.1 q.2.2 && inT (.fieldLink own e.1 q.1 (q.2.1 e.2.2.1).2.1 (q.2.1 e.2.2.1).2.2.1) p && decide ((q.2.1 e.2.2.1).1 = q.1) && (isIT (ftk e.2.1 e.2.2.1) == e.2.2.2) && decide (parseFieldDescriptor (q.2.1 e.2.2.1).2.2.1 = some (ftk e.2.1 e.2.2.1))
    | none => false)
def cOK (own : String) (e : Nat × Nat × Nat × Nat × Nat × Nat × Nat) (p : Nat × Nat) : Bool := match e.2.1 with
  | 4 => inT (.methodLink own e.1 objectInit) p
  | 5 => inT (.methodLink own e.1 arraycopyName) p
  | 6 => inT (.methodLink own e.1 ciName) p
  | 7 => inT (.methodLink own e.1 Lib.Math.max.name) p
  | 8 => inT (.methodLink own e.1 Lib.Math.min.name) p
  | 3 => (match mt e.2.2.1 with
    | some r => inT (.methodLinkNest own e.1 r.1 "StencilHouse") p && decide ((parseMethodDescriptor r.1.desc).map (fun d => d.parameters.length) = some e.2.2.2.1) && (r.2.2.1 == e.2.2.2.2.1) && (r.2.2.2.2.1 == 2)
    | none => false)
  | w => (match mt e.2.2.1 with
    | some r => inT (.methodLink own e.1 r.1) p && decide ((parseMethodDescriptor r.1.desc).map (fun d => d.parameters.length) = some e.2.2.2.1) && (r.2.2.1 == e.2.2.2.2.1) && (rcd r.2.2.2.1 == e.2.2.2.2.2.1) && (match w with
      | 1 => r.2.2.2.2.1 == 0
      | 2 => r.2.2.2.2.1 == 2
      | w => Nat.ble 10 w && (r.2.2.2.2.1 == 1) && decide (kcls (w - 10) = r.1.cls) && (Nat.blt (w - 10) 11 || w == 26))
    | none => false)
def stTx : List String := ["size", "slip", "sheet", "wear", "spray", "flip", "turn", "slide", "patch", "wash", "row", "top", "bare"]
def stK (own : String) (k : Nat) (v : AV) : Bool := match v with
  | .inr (.inr (.inl q)) => decide (own = "StencilHouse$Reader") && Nat.beq q.1 16 && Nat.blt q.2 13 && (stIx.getD q.2 0 == k)
  | _ => false
def kOK (own : String) (e : Nat × AV) (p : Nat × Nat) : Bool := match e.2 with
  | .inl x => inT (.constant own e.1 x) p
  | .inr (.inl x) => inT (.constantLong own e.1 x) p
  | v => stK own e.1 v
def nOK (own : String) (e : Nat × Nat) (ps : List (Nat × Nat)) : Bool := match classes[e.2]? with
  | some q => inTs [.classLink own e.1 q.1, .instantiable q.1 q.2.2, .initialized q.1] ps
  | none => false
def aOK (own : String) (e : Nat × FieldType) (p : Nat × Nat) : Bool := match e.2 with
  | .object C => inT (.classLink own e.1 C) p && decide (C ∈ ["StencilHouse$Shop", "StencilHouse$Day", "StencilHouse$Picture", "StencilHouse$Marks", "StencilHouse$Told"])
  | _ => false
def stN : List String := ["FIRST_WORD_OF_SORT", "NUMBERS_OF_WORD", "LEAST", "GREATEST"]
def sOK (own : String) (e : Nat × AV) (p : Nat × Nat) : Bool := match e.2 with
  | .inl x => inT (.fieldLink own e.1 "java/lang/String" "COMPACT_STRINGS" "Z") p && decide (x = 1)
  | .inr (.inr (.inl q)) => inT (.fieldLink own e.1 "StencilHouse$Reader" (stN.getD (q.1 - 12) "") "[I") p && Nat.ble 12 q.1 && Nat.ble q.1 15 && (q.2 == 0)
  | _ => false
def all2 {α β : Type} (f : α → β → Bool) : List α → List β → Bool
  | [], _ => true
  | a :: as, b :: bs => f a b && all2 f as bs
  | _, _ => false
theorem all2_mem {α β : Type} {f : α → β → Bool} : ∀ {as : List α} {bs : List β}, all2 f as bs = true → ∀ a ∈ as, ∃ b, f a b = true := by
  intro as
  induction as with
  | nil => intro bs _ a ha; cases ha
  | cons x as ih =>
    intro bs h a ha
    cases bs with
    | nil => simp [all2] at h
    | cons b bs =>
      simp only [all2, Bool.and_eq_true] at h
      rcases List.mem_cons.mp ha with rfl | h1
      · exact ⟨b, h.1⟩
      · exact ih h.2 a h1
def LOK (own : String) (R : LK) : Prop := (∀ e ∈ R.1, ∃ p, fOK own e p = true) ∧ (∀ e ∈ R.2.1, ∃ p, cOK own e p = true) ∧ (∀ e ∈ R.2.2.1, ∃ p, kOK own e p = true) ∧ (∀ e ∈ R.2.2.2.1, ∃ p, nOK own e p = true) ∧ (∀ e ∈ R.2.2.2.2.1, ∃ p, aOK own e p = true) ∧ (∀ e ∈ R.2.2.2.2.2, ∃ p, sOK own e p = true)
theorem LOK_of {own : String} {R : LK} (a b c : List (Nat × Nat)) (d : List (List (Nat × Nat))) (e f : List (Nat × Nat)) (h1 : all2 (fOK own) R.1 a = true) (h2 : all2 (cOK own) R.2.1 b = true) (h3 : all2 (kOK own) R.2.2.1 c = true) (h4 : all2 (nOK own) R.2.2.2.1 d = true) (h5 : all2 (aOK own) R.2.2.2.2.1 e = true) (h6 : all2 (sOK own) R.2.2.2.2.2 f = true) : LOK own R :=
  ⟨all2_mem h1, all2_mem h2, all2_mem h3, all2_mem h4, all2_mem h5, all2_mem h6⟩
set_option maxRecDepth 100000 in
theorem lok_0 : LOK "StencilHouse$Day" lk_0 := LOK_of [(0, 118), (0, 122)] [(0, 117), (2, 133)] [] [] [] [] (by decide +kernel) (by decide +kernel) (by decide +kernel) (by decide +kernel) (by decide +kernel) (by decide +kernel)
set_option maxRecDepth 100000 in
theorem lok_1 : LOK "StencilHouse$Figures" lk_1 := LOK_of [(0, 66), (0, 79), (0, 63), (0, 58), (0, 52), (0, 74), (0, 85)] [(3, 30), (3, 33), (3, 105), (3, 109), (3, 113), (3, 121), (3, 134), (3, 131), (3, 137), (3, 149), (3, 152), (4, 9), (4, 16), (4, 19), (4, 33), (4, 37), (4, 41), (4, 61), (4, 58), (4, 69), (4, 70), (4, 74), (4, 128)] [] [] [] [] (by decide +kernel) (by decide +kernel) (by decide +kernel) (by decide +kernel) (by decide +kernel) (by decide +kernel)
set_option maxRecDepth 100000 in
theorem lok_2 : LOK "StencilHouse$Marks" lk_2 := LOK_of [(0, 143), (0, 147), (0, 150), (0, 153)] [(0, 142), (2, 143)] [] [] [] [] (by decide +kernel) (by decide +kernel) (by decide +kernel) (by decide +kernel) (by decide +kernel) (by decide +kernel)
set_option maxRecDepth 100000 in
theorem lok_3 : LOK "StencilHouse$Orders" lk_3 := LOK_of [(1, 95), (1, 96), (1, 97), (1, 98), (1, 99), (1, 100), (1, 101), (0, 67), (0, 80), (0, 83), (0, 145), (0, 148), (0, 151), (0, 53), (0, 154), (0, 59)] [(1, 94), (3, 68), (3, 69), (3, 73), (3, 47), (3, 56), (3, 60), (3, 64), (3, 77), (3, 85), (3, 89), (3, 90), (3, 81), (4, 94), (3, 187), (3, 191), (3, 204), (3, 208), (3, 212), (3, 216), (3, 195), (3, 196), (3, 200), (3, 220)] [] [] [] [] (by decide +kernel) (by decide +kernel) (by decide +kernel) (by decide +kernel) (by decide +kernel) (by decide +kernel)
set_option maxRecDepth 100000 in
theorem lok_4 : LOK "StencilHouse$Picture" lk_4 := LOK_of [(0, 133), (0, 55), (0, 48)] [(0, 132), (2, 138), (3, 51), (3, 55), (4, 106)] [] [] [] [] (by decide +kernel) (by decide +kernel) (by decide +kernel) (by decide +kernel) (by decide +kernel) (by decide +kernel)
set_option maxRecDepth 100000 in
theorem lok_5 : LOK "StencilHouse$Reader" lk_5 := LOK_of [(1, 1), (1, 3), (1, 5), (1, 7), (1, 9), (1, 11), (1, 13), (1, 14), (1, 15), (1, 16), (1, 17), (0, 223), (0, 225), (0, 120), (0, 144), (0, 69), (0, 227), (0, 50), (0, 57), (0, 62), (0, 77), (0, 134), (0, 73)] [(0, 204), (0, 206), (0, 208), (0, 210), (0, 212), (0, 215), (1, 161), (1, 173), (1, 201), (2, 82), (2, 86), (2, 94), (1, 165), (1, 169), (1, 205), (2, 39), (2, 43), (2, 47), (2, 50), (2, 58), (1, 211), (1, 227), (2, 62), (2, 66), (2, 70), (2, 74), (2, 78), (2, 90)] [(1, 214), (1, 215), (1, 216), (1, 217), (1, 218), (1, 219), (1, 220), (1, 221), (1, 222), (1, 223), (1, 224), (1, 225), (1, 226)] [[(0, 205), (0, 42), (0, 3)], [(0, 207), (0, 113), (0, 4)], [(0, 209), (0, 128), (0, 5)], [(0, 211), (0, 138), (0, 6)], [(0, 213), (0, 214), (0, 8)]] [(0, 205), (0, 207), (0, 209), (0, 211)] [(2, 48), (1, 209), (2, 54), (2, 56)] (by decide +kernel) (by decide +kernel) (by decide +kernel) (by decide +kernel) (by decide +kernel) (by decide +kernel)
set_option maxRecDepth 100000 in
theorem lok_6 : LOK "StencilHouse$Shop" lk_6 := LOK_of [(0, 47), (0, 54), (0, 60), (0, 64), (0, 70), (0, 75), (0, 78), (0, 82), (0, 86), (0, 87), (0, 88)] [(0, 46), (2, 126), (2, 98), (2, 114), (2, 106), (2, 110), (2, 102), (2, 161)] [] [] [] [] (by decide +kernel) (by decide +kernel) (by decide +kernel) (by decide +kernel) (by decide +kernel) (by decide +kernel)
set_option maxRecDepth 100000 in
theorem lok_7 : LOK "StencilHouse$Tokens" lk_7 := LOK_of [(0, 219), (0, 220), (0, 221), (0, 222), (0, 224), (0, 226)] [(0, 218), (1, 177), (1, 180), (1, 184), (1, 187), (1, 190), (1, 194), (1, 197), (1, 231), (2, 1)] [] [] [] [] (by decide +kernel) (by decide +kernel) (by decide +kernel) (by decide +kernel) (by decide +kernel) (by decide +kernel)
set_option maxRecDepth 100000 in
theorem lok_8 : LOK "StencilHouse$Told" lk_8 := LOK_of [(0, 165), (0, 167), (0, 169), (0, 171), (0, 173), (0, 175), (0, 176), (0, 177), (0, 178), (1, 2), (1, 4), (1, 6), (1, 8)] [(0, 33), (0, 43), (0, 114), (0, 129), (0, 139), (4, 154), (2, 122), (2, 129), (2, 134), (2, 139), (1, 153)] [] [[(0, 34), (0, 42), (0, 3)], [(0, 36), (0, 113), (0, 4)], [(0, 38), (0, 128), (0, 5)], [(0, 40), (0, 138), (0, 6)]] [(0, 34), (0, 36), (0, 38), (0, 40)] [] (by decide +kernel) (by decide +kernel) (by decide +kernel) (by decide +kernel) (by decide +kernel) (by decide +kernel)
set_option maxRecDepth 100000 in
theorem lok_9 : LOK "StencilHouse$Wall" lk_9 := LOK_of [(1, 49), (1, 50), (1, 51), (1, 52), (1, 53), (1, 54), (1, 55), (1, 56), (1, 57), (1, 58), (1, 60), (1, 62), (0, 71), (0, 119), (0, 65), (0, 76), (0, 51)] [(1, 46), (1, 48), (2, 189), (2, 190), (3, 229), (3, 233), (3, 238), (2, 194), (2, 204), (2, 205), (2, 222), (2, 226), (2, 230), (2, 234), (2, 198), (2, 209), (2, 218), (2, 238), (2, 213), (2, 214), (3, 10), (3, 14), (3, 18)] [(3, 237)] [[(1, 47), (0, 42), (0, 3)]] [(1, 47)] [] (by decide +kernel) (by decide +kernel) (by decide +kernel) (by decide +kernel) (by decide +kernel) (by decide +kernel)
set_option maxRecDepth 100000 in
theorem lok_10 : LOK "StencilHouse" lk_10 := LOK_of [(1, 117), (1, 118), (1, 119), (1, 120), (1, 121), (0, 168), (0, 170), (0, 172), (0, 166), (1, 10), (1, 12), (0, 49), (0, 56), (0, 61), (0, 68), (0, 121), (0, 72), (0, 81), (0, 146), (0, 155), (0, 149), (0, 152), (0, 84), (1, 59), (1, 61), (1, 63), (0, 174)] [(0, 25), (0, 30), (0, 201), (1, 43), (1, 91), (1, 137), (1, 149), (1, 157), (2, 118), (2, 153), (2, 157), (2, 169), (2, 173), (2, 181), (2, 185), (3, 6), (3, 26), (3, 27), (3, 34), (3, 39), (3, 43), (3, 94), (3, 102), (3, 118), (3, 128), (3, 140), (3, 145), (3, 146), (3, 153), (3, 156), (3, 163), (3, 170), (3, 175), (3, 183), (3, 225), (4, 6), (4, 10), (4, 13), (4, 20), (4, 23), (4, 30), (4, 34), (4, 38), (4, 44), (4, 47), (4, 48), (4, 49), (4, 52), (4, 55), (4, 62), (4, 63), (4, 66), (4, 71), (4, 85), (4, 90), (4, 102), (4, 110), (4, 118), (4, 119), (4, 120), (4, 125), (4, 133), (4, 137), (4, 138), (4, 150)] [] [[(0, 28), (0, 29), (0, 2)], [(0, 199), (0, 200), (0, 7)], [(1, 41), (1, 42), (0, 9)], [(1, 89), (1, 90), (0, 10)]] [(0, 28)] [] (by decide +kernel) (by decide +kernel) (by decide +kernel) (by decide +kernel) (by decide +kernel) (by decide +kernel)
set_option maxRecDepth 100000 in
theorem lok_11 : LOK "StencilHouseModel" lk_11 := LOK_of [(4, 167), (4, 168), (4, 169), (4, 170), (4, 171), (4, 172), (4, 173), (4, 174), (4, 175), (4, 185), (4, 186), (4, 195), (4, 196), (4, 197), (4, 198), (4, 199), (4, 200), (4, 205), (4, 206), (4, 207), (4, 208), (4, 214), (4, 216), (4, 166), (4, 176), (4, 177), (4, 178), (4, 181), (4, 179), (4, 180), (4, 182), (4, 183), (4, 184), (4, 188), (4, 187), (4, 189), (4, 190), (4, 191), (4, 192), (4, 193), (4, 194), (4, 201), (4, 202), (4, 203), (4, 204), (4, 209), (4, 210), (4, 211), (4, 212), (4, 213), (4, 215)] [(4, 164), (5, 227), (7, 149), (5, 93), (5, 85), (5, 112), (5, 151), (5, 137), (5, 108), (5, 141), (5, 133), (5, 144), (5, 129), (5, 155), (5, 159), (5, 166), (5, 176), (5, 124), (5, 162), (5, 180), (5, 185), (5, 120), (5, 116), (5, 191), (5, 199), (5, 100), (5, 104), (5, 195), (5, 215), (5, 219), (5, 223), (5, 230), (5, 238), (6, 2), (5, 234), (5, 211), (6, 6), (6, 14), (6, 18), (6, 22), (6, 58), (6, 54), (6, 62), (6, 70), (6, 46), (6, 50), (6, 66), (6, 74), (6, 78), (6, 42), (6, 38), (6, 30), (6, 34), (6, 90), (6, 94), (6, 86), (6, 102), (6, 121), (6, 133), (6, 117), (6, 125), (6, 129), (6, 137), (6, 109), (6, 113), (6, 145), (6, 153), (6, 161), (6, 164), (6, 168), (6, 176), (6, 180), (6, 195), (6, 199), (6, 203), (6, 235), (6, 223), (6, 215), (6, 219), (6, 227), (6, 231), (7, 7), (6, 211), (6, 239), (7, 3), (7, 19), (7, 15), (7, 32), (7, 28), (7, 36), (7, 40), (7, 72), (7, 81), (7, 89), (7, 48), (7, 52), (7, 56), (7, 60), (7, 64), (7, 68), (7, 76), (7, 85), (7, 105), (7, 113), (7, 129), (7, 133), (7, 145)] [(4, 165), (5, 128), (5, 148), (5, 149), (5, 150), (5, 170), (5, 171), (5, 172), (5, 173), (5, 174), (5, 175), (5, 184), (5, 189), (5, 190), (7, 23), (7, 80)] [] [] [] (by decide +kernel) (by decide +kernel) (by decide +kernel) (by decide +kernel) (by decide +kernel) (by decide +kernel)
set_option maxRecDepth 100000 in
theorem lok_12 : LOK "java/lang/Integer" lk_12 := LOK_of [] [] [(2, 201), (2, 202), (2, 203)] [] [] [] (by decide +kernel) (by decide +kernel) (by decide +kernel) (by decide +kernel) (by decide +kernel) (by decide +kernel)
set_option maxRecDepth 100000 in
theorem lok_13 : LOK "java/lang/String" lk_13 := LOK_of [(7, 156), (7, 157)] [(1, 235), (2, 5), (2, 9)] [] [] [] [(1, 239)] (by decide +kernel) (by decide +kernel) (by decide +kernel) (by decide +kernel) (by decide +kernel) (by decide +kernel)
set_option maxRecDepth 100000 in
theorem lok_14 : LOK "java/lang/StringLatin1" lk_14 := LOK_of [] [(2, 12)] [] [] [] [] (by decide +kernel) (by decide +kernel) (by decide +kernel) (by decide +kernel) (by decide +kernel) (by decide +kernel)
set_option maxRecDepth 100000 in
theorem lok_15 : LOK "StencilHouseLaw" lk_15 := LOK_of [] [(0, 22), (4, 161), (1, 133), (5, 81), (1, 141), (5, 89), (1, 145), (5, 96), (2, 145), (5, 203), (2, 149), (5, 207), (2, 165), (6, 10), (2, 177), (6, 26), (3, 2), (6, 82), (3, 22), (6, 98), (3, 35), (6, 105), (3, 98), (6, 141), (3, 114), (6, 149), (3, 124), (6, 157), (3, 141), (6, 172), (3, 159), (6, 183), (3, 166), (6, 187), (3, 171), (6, 191), (3, 179), (6, 207), (3, 221), (7, 11), (4, 2), (7, 24), (4, 26), (7, 44), (4, 77), (7, 93), (4, 81), (7, 97), (4, 86), (7, 101), (4, 98), (7, 109), (4, 114), (7, 117), (4, 121), (7, 121), (4, 129), (7, 125), (4, 142), (7, 137), (4, 146), (7, 141), (4, 155), (7, 152)] [] [[(0, 20), (0, 21), (0, 1)], [(4, 159), (4, 160), (0, 11)]] [] [] (by decide +kernel) (by decide +kernel) (by decide +kernel) (by decide +kernel) (by decide +kernel) (by decide +kernel)
theorem mlok_0 : ∀ r ∈ mtl_0, LOK r.1.cls r.2.2.2.2.2 := List.forall_mem_cons.mpr ⟨lok_0, List.forall_mem_cons.mpr ⟨lok_0, List.forall_mem_cons.mpr ⟨lok_0, List.forall_mem_cons.mpr ⟨lok_0, List.forall_mem_cons.mpr ⟨lok_1, List.forall_mem_cons.mpr ⟨lok_1, List.forall_mem_cons.mpr ⟨lok_1, List.forall_mem_cons.mpr ⟨lok_1, List.forall_mem_cons.mpr ⟨lok_1, List.forall_mem_cons.mpr ⟨lok_1, List.forall_mem_cons.mpr ⟨lok_1, List.forall_mem_cons.mpr ⟨lok_1, List.forall_mem_cons.mpr ⟨lok_1, List.forall_mem_cons.mpr ⟨lok_1, List.forall_mem_cons.mpr ⟨lok_1, List.forall_mem_cons.mpr ⟨lok_1, List.forall_mem_cons.mpr ⟨lok_1, List.forall_mem_cons.mpr ⟨lok_1, List.forall_mem_cons.mpr ⟨lok_1, List.forall_mem_cons.mpr ⟨lok_1, fun _ h => absurd h List.not_mem_nil⟩⟩⟩⟩⟩⟩⟩⟩⟩⟩⟩⟩⟩⟩⟩⟩⟩⟩⟩⟩
theorem mlok_1 : ∀ r ∈ mtl_1, LOK r.1.cls r.2.2.2.2.2 := List.forall_mem_cons.mpr ⟨lok_1, List.forall_mem_cons.mpr ⟨lok_1, List.forall_mem_cons.mpr ⟨lok_1, List.forall_mem_cons.mpr ⟨lok_1, List.forall_mem_cons.mpr ⟨lok_1, List.forall_mem_cons.mpr ⟨lok_1, List.forall_mem_cons.mpr ⟨lok_1, List.forall_mem_cons.mpr ⟨lok_1, List.forall_mem_cons.mpr ⟨lok_1, List.forall_mem_cons.mpr ⟨lok_1, List.forall_mem_cons.mpr ⟨lok_1, List.forall_mem_cons.mpr ⟨lok_1, List.forall_mem_cons.mpr ⟨lok_1, List.forall_mem_cons.mpr ⟨lok_1, List.forall_mem_cons.mpr ⟨lok_1, List.forall_mem_cons.mpr ⟨lok_1, List.forall_mem_cons.mpr ⟨lok_1, List.forall_mem_cons.mpr ⟨lok_2, List.forall_mem_cons.mpr ⟨lok_2, List.forall_mem_cons.mpr ⟨lok_2, fun _ h => absurd h List.not_mem_nil⟩⟩⟩⟩⟩⟩⟩⟩⟩⟩⟩⟩⟩⟩⟩⟩⟩⟩⟩⟩
theorem mlok_2 : ∀ r ∈ mtl_2, LOK r.1.cls r.2.2.2.2.2 := List.forall_mem_cons.mpr ⟨lok_3, List.forall_mem_cons.mpr ⟨lok_3, List.forall_mem_cons.mpr ⟨lok_3, List.forall_mem_cons.mpr ⟨lok_3, List.forall_mem_cons.mpr ⟨lok_3, List.forall_mem_cons.mpr ⟨lok_3, List.forall_mem_cons.mpr ⟨lok_3, List.forall_mem_cons.mpr ⟨lok_3, List.forall_mem_cons.mpr ⟨lok_3, List.forall_mem_cons.mpr ⟨lok_3, List.forall_mem_cons.mpr ⟨lok_3, List.forall_mem_cons.mpr ⟨lok_3, List.forall_mem_cons.mpr ⟨lok_3, List.forall_mem_cons.mpr ⟨lok_3, List.forall_mem_cons.mpr ⟨lok_3, List.forall_mem_cons.mpr ⟨lok_3, List.forall_mem_cons.mpr ⟨lok_3, List.forall_mem_cons.mpr ⟨lok_3, List.forall_mem_cons.mpr ⟨lok_3, List.forall_mem_cons.mpr ⟨lok_3, fun _ h => absurd h List.not_mem_nil⟩⟩⟩⟩⟩⟩⟩⟩⟩⟩⟩⟩⟩⟩⟩⟩⟩⟩⟩⟩
theorem mlok_3 : ∀ r ∈ mtl_3, LOK r.1.cls r.2.2.2.2.2 := List.forall_mem_cons.mpr ⟨lok_3, List.forall_mem_cons.mpr ⟨lok_4, List.forall_mem_cons.mpr ⟨lok_4, List.forall_mem_cons.mpr ⟨lok_4, List.forall_mem_cons.mpr ⟨lok_4, List.forall_mem_cons.mpr ⟨lok_4, List.forall_mem_cons.mpr ⟨lok_4, List.forall_mem_cons.mpr ⟨lok_4, List.forall_mem_cons.mpr ⟨lok_4, List.forall_mem_cons.mpr ⟨lok_4, List.forall_mem_cons.mpr ⟨lok_5, List.forall_mem_cons.mpr ⟨lok_5, List.forall_mem_cons.mpr ⟨lok_5, List.forall_mem_cons.mpr ⟨lok_5, List.forall_mem_cons.mpr ⟨lok_5, List.forall_mem_cons.mpr ⟨lok_5, List.forall_mem_cons.mpr ⟨lok_5, List.forall_mem_cons.mpr ⟨lok_5, List.forall_mem_cons.mpr ⟨lok_5, List.forall_mem_cons.mpr ⟨lok_5, fun _ h => absurd h List.not_mem_nil⟩⟩⟩⟩⟩⟩⟩⟩⟩⟩⟩⟩⟩⟩⟩⟩⟩⟩⟩⟩
theorem mlok_4 : ∀ r ∈ mtl_4, LOK r.1.cls r.2.2.2.2.2 := List.forall_mem_cons.mpr ⟨lok_5, List.forall_mem_cons.mpr ⟨lok_5, List.forall_mem_cons.mpr ⟨lok_5, List.forall_mem_cons.mpr ⟨lok_5, List.forall_mem_cons.mpr ⟨lok_5, List.forall_mem_cons.mpr ⟨lok_6, List.forall_mem_cons.mpr ⟨lok_6, List.forall_mem_cons.mpr ⟨lok_6, List.forall_mem_cons.mpr ⟨lok_6, List.forall_mem_cons.mpr ⟨lok_6, List.forall_mem_cons.mpr ⟨lok_6, List.forall_mem_cons.mpr ⟨lok_6, List.forall_mem_cons.mpr ⟨lok_6, List.forall_mem_cons.mpr ⟨lok_6, List.forall_mem_cons.mpr ⟨lok_6, List.forall_mem_cons.mpr ⟨lok_6, List.forall_mem_cons.mpr ⟨lok_6, List.forall_mem_cons.mpr ⟨lok_6, List.forall_mem_cons.mpr ⟨lok_6, List.forall_mem_cons.mpr ⟨lok_6, fun _ h => absurd h List.not_mem_nil⟩⟩⟩⟩⟩⟩⟩⟩⟩⟩⟩⟩⟩⟩⟩⟩⟩⟩⟩⟩
theorem mlok_5 : ∀ r ∈ mtl_5, LOK r.1.cls r.2.2.2.2.2 := List.forall_mem_cons.mpr ⟨lok_6, List.forall_mem_cons.mpr ⟨lok_6, List.forall_mem_cons.mpr ⟨lok_6, List.forall_mem_cons.mpr ⟨lok_6, List.forall_mem_cons.mpr ⟨lok_6, List.forall_mem_cons.mpr ⟨lok_7, List.forall_mem_cons.mpr ⟨lok_7, List.forall_mem_cons.mpr ⟨lok_7, List.forall_mem_cons.mpr ⟨lok_7, List.forall_mem_cons.mpr ⟨lok_7, List.forall_mem_cons.mpr ⟨lok_7, List.forall_mem_cons.mpr ⟨lok_7, List.forall_mem_cons.mpr ⟨lok_7, List.forall_mem_cons.mpr ⟨lok_7, List.forall_mem_cons.mpr ⟨lok_8, List.forall_mem_cons.mpr ⟨lok_8, List.forall_mem_cons.mpr ⟨lok_8, List.forall_mem_cons.mpr ⟨lok_8, List.forall_mem_cons.mpr ⟨lok_8, List.forall_mem_cons.mpr ⟨lok_8, fun _ h => absurd h List.not_mem_nil⟩⟩⟩⟩⟩⟩⟩⟩⟩⟩⟩⟩⟩⟩⟩⟩⟩⟩⟩⟩
theorem mlok_6 : ∀ r ∈ mtl_6, LOK r.1.cls r.2.2.2.2.2 := List.forall_mem_cons.mpr ⟨lok_8, List.forall_mem_cons.mpr ⟨lok_8, List.forall_mem_cons.mpr ⟨lok_8, List.forall_mem_cons.mpr ⟨lok_8, List.forall_mem_cons.mpr ⟨lok_9, List.forall_mem_cons.mpr ⟨lok_9, List.forall_mem_cons.mpr ⟨lok_9, List.forall_mem_cons.mpr ⟨lok_9, List.forall_mem_cons.mpr ⟨lok_9, List.forall_mem_cons.mpr ⟨lok_9, List.forall_mem_cons.mpr ⟨lok_9, List.forall_mem_cons.mpr ⟨lok_9, List.forall_mem_cons.mpr ⟨lok_9, List.forall_mem_cons.mpr ⟨lok_9, List.forall_mem_cons.mpr ⟨lok_9, List.forall_mem_cons.mpr ⟨lok_9, List.forall_mem_cons.mpr ⟨lok_9, List.forall_mem_cons.mpr ⟨lok_9, List.forall_mem_cons.mpr ⟨lok_9, List.forall_mem_cons.mpr ⟨lok_9, fun _ h => absurd h List.not_mem_nil⟩⟩⟩⟩⟩⟩⟩⟩⟩⟩⟩⟩⟩⟩⟩⟩⟩⟩⟩⟩
theorem mlok_7 : ∀ r ∈ mtl_7, LOK r.1.cls r.2.2.2.2.2 := List.forall_mem_cons.mpr ⟨lok_9, List.forall_mem_cons.mpr ⟨lok_9, List.forall_mem_cons.mpr ⟨lok_9, List.forall_mem_cons.mpr ⟨lok_10, List.forall_mem_cons.mpr ⟨lok_10, List.forall_mem_cons.mpr ⟨lok_10, List.forall_mem_cons.mpr ⟨lok_10, List.forall_mem_cons.mpr ⟨lok_10, List.forall_mem_cons.mpr ⟨lok_10, List.forall_mem_cons.mpr ⟨lok_10, List.forall_mem_cons.mpr ⟨lok_10, List.forall_mem_cons.mpr ⟨lok_10, List.forall_mem_cons.mpr ⟨lok_10, List.forall_mem_cons.mpr ⟨lok_10, List.forall_mem_cons.mpr ⟨lok_10, List.forall_mem_cons.mpr ⟨lok_10, List.forall_mem_cons.mpr ⟨lok_10, List.forall_mem_cons.mpr ⟨lok_10, List.forall_mem_cons.mpr ⟨lok_10, List.forall_mem_cons.mpr ⟨lok_10, fun _ h => absurd h List.not_mem_nil⟩⟩⟩⟩⟩⟩⟩⟩⟩⟩⟩⟩⟩⟩⟩⟩⟩⟩⟩⟩
theorem mlok_8 : ∀ r ∈ mtl_8, LOK r.1.cls r.2.2.2.2.2 := List.forall_mem_cons.mpr ⟨lok_10, List.forall_mem_cons.mpr ⟨lok_10, List.forall_mem_cons.mpr ⟨lok_10, List.forall_mem_cons.mpr ⟨lok_10, List.forall_mem_cons.mpr ⟨lok_10, List.forall_mem_cons.mpr ⟨lok_10, List.forall_mem_cons.mpr ⟨lok_10, List.forall_mem_cons.mpr ⟨lok_10, List.forall_mem_cons.mpr ⟨lok_10, List.forall_mem_cons.mpr ⟨lok_10, List.forall_mem_cons.mpr ⟨lok_10, List.forall_mem_cons.mpr ⟨lok_10, List.forall_mem_cons.mpr ⟨lok_10, List.forall_mem_cons.mpr ⟨lok_10, List.forall_mem_cons.mpr ⟨lok_10, List.forall_mem_cons.mpr ⟨lok_11, List.forall_mem_cons.mpr ⟨lok_11, List.forall_mem_cons.mpr ⟨lok_11, List.forall_mem_cons.mpr ⟨lok_11, List.forall_mem_cons.mpr ⟨lok_11, fun _ h => absurd h List.not_mem_nil⟩⟩⟩⟩⟩⟩⟩⟩⟩⟩⟩⟩⟩⟩⟩⟩⟩⟩⟩⟩
theorem mlok_9 : ∀ r ∈ mtl_9, LOK r.1.cls r.2.2.2.2.2 := List.forall_mem_cons.mpr ⟨lok_11, List.forall_mem_cons.mpr ⟨lok_11, List.forall_mem_cons.mpr ⟨lok_11, List.forall_mem_cons.mpr ⟨lok_11, List.forall_mem_cons.mpr ⟨lok_11, List.forall_mem_cons.mpr ⟨lok_11, List.forall_mem_cons.mpr ⟨lok_11, List.forall_mem_cons.mpr ⟨lok_11, List.forall_mem_cons.mpr ⟨lok_11, List.forall_mem_cons.mpr ⟨lok_11, List.forall_mem_cons.mpr ⟨lok_11, List.forall_mem_cons.mpr ⟨lok_11, List.forall_mem_cons.mpr ⟨lok_11, List.forall_mem_cons.mpr ⟨lok_11, List.forall_mem_cons.mpr ⟨lok_11, List.forall_mem_cons.mpr ⟨lok_11, List.forall_mem_cons.mpr ⟨lok_11, List.forall_mem_cons.mpr ⟨lok_11, List.forall_mem_cons.mpr ⟨lok_11, List.forall_mem_cons.mpr ⟨lok_11, fun _ h => absurd h List.not_mem_nil⟩⟩⟩⟩⟩⟩⟩⟩⟩⟩⟩⟩⟩⟩⟩⟩⟩⟩⟩⟩
theorem mlok_10 : ∀ r ∈ mtl_10, LOK r.1.cls r.2.2.2.2.2 := List.forall_mem_cons.mpr ⟨lok_11, List.forall_mem_cons.mpr ⟨lok_11, List.forall_mem_cons.mpr ⟨lok_11, List.forall_mem_cons.mpr ⟨lok_11, List.forall_mem_cons.mpr ⟨lok_11, List.forall_mem_cons.mpr ⟨lok_11, List.forall_mem_cons.mpr ⟨lok_11, List.forall_mem_cons.mpr ⟨lok_11, List.forall_mem_cons.mpr ⟨lok_11, List.forall_mem_cons.mpr ⟨lok_11, List.forall_mem_cons.mpr ⟨lok_11, List.forall_mem_cons.mpr ⟨lok_11, List.forall_mem_cons.mpr ⟨lok_11, List.forall_mem_cons.mpr ⟨lok_11, List.forall_mem_cons.mpr ⟨lok_11, List.forall_mem_cons.mpr ⟨lok_11, List.forall_mem_cons.mpr ⟨lok_11, List.forall_mem_cons.mpr ⟨lok_11, List.forall_mem_cons.mpr ⟨lok_11, List.forall_mem_cons.mpr ⟨lok_11, fun _ h => absurd h List.not_mem_nil⟩⟩⟩⟩⟩⟩⟩⟩⟩⟩⟩⟩⟩⟩⟩⟩⟩⟩⟩⟩
theorem mlok_11 : ∀ r ∈ mtl_11, LOK r.1.cls r.2.2.2.2.2 := List.forall_mem_cons.mpr ⟨lok_11, List.forall_mem_cons.mpr ⟨lok_11, List.forall_mem_cons.mpr ⟨lok_11, List.forall_mem_cons.mpr ⟨lok_11, List.forall_mem_cons.mpr ⟨lok_11, List.forall_mem_cons.mpr ⟨lok_11, List.forall_mem_cons.mpr ⟨lok_11, List.forall_mem_cons.mpr ⟨lok_11, List.forall_mem_cons.mpr ⟨lok_11, List.forall_mem_cons.mpr ⟨lok_11, List.forall_mem_cons.mpr ⟨lok_11, List.forall_mem_cons.mpr ⟨lok_11, List.forall_mem_cons.mpr ⟨lok_11, List.forall_mem_cons.mpr ⟨lok_11, List.forall_mem_cons.mpr ⟨lok_11, List.forall_mem_cons.mpr ⟨lok_11, List.forall_mem_cons.mpr ⟨lok_11, List.forall_mem_cons.mpr ⟨lok_11, List.forall_mem_cons.mpr ⟨lok_11, List.forall_mem_cons.mpr ⟨lok_11, fun _ h => absurd h List.not_mem_nil⟩⟩⟩⟩⟩⟩⟩⟩⟩⟩⟩⟩⟩⟩⟩⟩⟩⟩⟩⟩
theorem mlok_12 : ∀ r ∈ mtl_12, LOK r.1.cls r.2.2.2.2.2 := List.forall_mem_cons.mpr ⟨lok_11, List.forall_mem_cons.mpr ⟨lok_11, List.forall_mem_cons.mpr ⟨lok_11, List.forall_mem_cons.mpr ⟨lok_11, List.forall_mem_cons.mpr ⟨lok_11, List.forall_mem_cons.mpr ⟨lok_11, List.forall_mem_cons.mpr ⟨lok_11, List.forall_mem_cons.mpr ⟨lok_11, List.forall_mem_cons.mpr ⟨lok_11, List.forall_mem_cons.mpr ⟨lok_11, List.forall_mem_cons.mpr ⟨lok_11, List.forall_mem_cons.mpr ⟨lok_11, List.forall_mem_cons.mpr ⟨lok_11, List.forall_mem_cons.mpr ⟨lok_11, List.forall_mem_cons.mpr ⟨lok_11, List.forall_mem_cons.mpr ⟨lok_11, List.forall_mem_cons.mpr ⟨lok_11, List.forall_mem_cons.mpr ⟨lok_11, List.forall_mem_cons.mpr ⟨lok_11, List.forall_mem_cons.mpr ⟨lok_11, fun _ h => absurd h List.not_mem_nil⟩⟩⟩⟩⟩⟩⟩⟩⟩⟩⟩⟩⟩⟩⟩⟩⟩⟩⟩⟩
theorem mlok_13 : ∀ r ∈ mtl_13, LOK r.1.cls r.2.2.2.2.2 := List.forall_mem_cons.mpr ⟨lok_11, List.forall_mem_cons.mpr ⟨lok_11, List.forall_mem_cons.mpr ⟨lok_11, List.forall_mem_cons.mpr ⟨lok_11, List.forall_mem_cons.mpr ⟨lok_11, List.forall_mem_cons.mpr ⟨lok_11, List.forall_mem_cons.mpr ⟨lok_11, List.forall_mem_cons.mpr ⟨lok_11, List.forall_mem_cons.mpr ⟨lok_11, List.forall_mem_cons.mpr ⟨lok_11, List.forall_mem_cons.mpr ⟨lok_11, List.forall_mem_cons.mpr ⟨lok_11, List.forall_mem_cons.mpr ⟨lok_11, List.forall_mem_cons.mpr ⟨lok_11, List.forall_mem_cons.mpr ⟨lok_11, List.forall_mem_cons.mpr ⟨lok_11, List.forall_mem_cons.mpr ⟨lok_11, List.forall_mem_cons.mpr ⟨lok_11, List.forall_mem_cons.mpr ⟨lok_11, List.forall_mem_cons.mpr ⟨lok_11, fun _ h => absurd h List.not_mem_nil⟩⟩⟩⟩⟩⟩⟩⟩⟩⟩⟩⟩⟩⟩⟩⟩⟩⟩⟩⟩
theorem mlok_14 : ∀ r ∈ mtl_14, LOK r.1.cls r.2.2.2.2.2 := List.forall_mem_cons.mpr ⟨lok_11, List.forall_mem_cons.mpr ⟨lok_11, List.forall_mem_cons.mpr ⟨lok_11, List.forall_mem_cons.mpr ⟨lok_11, List.forall_mem_cons.mpr ⟨lok_11, List.forall_mem_cons.mpr ⟨lok_11, List.forall_mem_cons.mpr ⟨lok_11, List.forall_mem_cons.mpr ⟨lok_11, List.forall_mem_cons.mpr ⟨lok_11, List.forall_mem_cons.mpr ⟨lok_11, List.forall_mem_cons.mpr ⟨lok_11, List.forall_mem_cons.mpr ⟨lok_11, List.forall_mem_cons.mpr ⟨lok_11, List.forall_mem_cons.mpr ⟨lok_11, List.forall_mem_cons.mpr ⟨lok_11, List.forall_mem_cons.mpr ⟨lok_11, List.forall_mem_cons.mpr ⟨lok_11, List.forall_mem_cons.mpr ⟨lok_11, List.forall_mem_cons.mpr ⟨lok_11, List.forall_mem_cons.mpr ⟨lok_11, fun _ h => absurd h List.not_mem_nil⟩⟩⟩⟩⟩⟩⟩⟩⟩⟩⟩⟩⟩⟩⟩⟩⟩⟩⟩⟩
theorem mlok_15 : ∀ r ∈ mtl_15, LOK r.1.cls r.2.2.2.2.2 := List.forall_mem_cons.mpr ⟨lok_11, List.forall_mem_cons.mpr ⟨lok_11, List.forall_mem_cons.mpr ⟨lok_11, List.forall_mem_cons.mpr ⟨lok_11, List.forall_mem_cons.mpr ⟨lok_11, List.forall_mem_cons.mpr ⟨lok_11, List.forall_mem_cons.mpr ⟨lok_11, List.forall_mem_cons.mpr ⟨lok_11, List.forall_mem_cons.mpr ⟨lok_11, List.forall_mem_cons.mpr ⟨lok_11, List.forall_mem_cons.mpr ⟨lok_11, List.forall_mem_cons.mpr ⟨lok_11, List.forall_mem_cons.mpr ⟨lok_11, List.forall_mem_cons.mpr ⟨lok_12, List.forall_mem_cons.mpr ⟨lok_13, List.forall_mem_cons.mpr ⟨lok_13, List.forall_mem_cons.mpr ⟨lok_13, List.forall_mem_cons.mpr ⟨lok_13, List.forall_mem_cons.mpr ⟨lok_14, fun _ h => absurd h List.not_mem_nil⟩⟩⟩⟩⟩⟩⟩⟩⟩⟩⟩⟩⟩⟩⟩⟩⟩⟩⟩
set_option maxRecDepth 100000 in
theorem uw_0 : ∀ w ∈ u_ws RX0 TX0 2, w ∈ lw_tbl := inTs_mem (ps := [(0, 123), (0, 125)]) (by decide +kernel)
theorem uwg_0 : ∀ w ∈ u_ws RX0 TX0 2, w ∈ lw_g := fun w h => lw_g_of (uw_0 w h) (List.all_eq_true.mp (show (u_ws RX0 TX0 2).all goodWord = true from by decide +kernel) w h)
set_option maxRecDepth 100000 in
theorem uw_1 : ∀ w ∈ u_ws RX2 TX2 4, w ∈ lw_tbl := inTs_mem (ps := [(0, 156), (0, 158), (0, 160), (0, 162)]) (by decide +kernel)
theorem uwg_1 : ∀ w ∈ u_ws RX2 TX2 4, w ∈ lw_g := fun w h => lw_g_of (uw_1 w h) (List.all_eq_true.mp (show (u_ws RX2 TX2 4).all goodWord = true from by decide +kernel) w h)
set_option maxRecDepth 100000 in
theorem uw_2 : ∀ w ∈ u_ws RX3 TX3 7, w ∈ lw_tbl := inTs_mem (ps := [(1, 102), (1, 104), (1, 106), (1, 108), (1, 110), (1, 112), (1, 114)]) (by decide +kernel)
theorem uwg_2 : ∀ w ∈ u_ws RX3 TX3 7, w ∈ lw_g := fun w h => lw_g_of (uw_2 w h) (List.all_eq_true.mp (show (u_ws RX3 TX3 7).all goodWord = true from by decide +kernel) w h)
set_option maxRecDepth 100000 in
theorem uw_3 : ∀ w ∈ u_ws RX4 TX4 1, w ∈ lw_tbl := inTs_mem (ps := [(0, 135)]) (by decide +kernel)
theorem uwg_3 : ∀ w ∈ u_ws RX4 TX4 1, w ∈ lw_g := fun w h => lw_g_of (uw_3 w h) (List.all_eq_true.mp (show (u_ws RX4 TX4 1).all goodWord = true from by decide +kernel) w h)
set_option maxRecDepth 100000 in
theorem uw_4 : ∀ w ∈ u_ws RX5 TX5 11, w ∈ lw_tbl := inTs_mem (ps := [(1, 18), (1, 20), (1, 22), (1, 24), (1, 26), (1, 28), (1, 30), (1, 32), (1, 34), (1, 36), (1, 38)]) (by decide +kernel)
theorem uwg_4 : ∀ w ∈ u_ws RX5 TX5 11, w ∈ lw_g := fun w h => lw_g_of (uw_4 w h) (List.all_eq_true.mp (show (u_ws RX5 TX5 11).all goodWord = true from by decide +kernel) w h)
set_option maxRecDepth 100000 in
theorem uw_5 : ∀ w ∈ u_ws RX6 TX6 11, w ∈ lw_tbl := inTs_mem (ps := [(0, 89), (0, 91), (0, 93), (0, 95), (0, 97), (0, 99), (0, 101), (0, 103), (0, 105), (0, 107), (0, 109)]) (by decide +kernel)
theorem uwg_5 : ∀ w ∈ u_ws RX6 TX6 11, w ∈ lw_g := fun w h => lw_g_of (uw_5 w h) (List.all_eq_true.mp (show (u_ws RX6 TX6 11).all goodWord = true from by decide +kernel) w h)
set_option maxRecDepth 100000 in
theorem uw_6 : ∀ w ∈ u_ws RX7 TX7 6, w ∈ lw_tbl := inTs_mem (ps := [(0, 228), (0, 230), (0, 232), (0, 234), (0, 236), (0, 238)]) (by decide +kernel)
theorem uwg_6 : ∀ w ∈ u_ws RX7 TX7 6, w ∈ lw_g := fun w h => lw_g_of (uw_6 w h) (List.all_eq_true.mp (show (u_ws RX7 TX7 6).all goodWord = true from by decide +kernel) w h)
set_option maxRecDepth 100000 in
theorem uw_7 : ∀ w ∈ u_ws RX8 TX8 9, w ∈ lw_tbl := inTs_mem (ps := [(0, 179), (0, 181), (0, 183), (0, 185), (0, 187), (0, 189), (0, 191), (0, 193), (0, 195)]) (by decide +kernel)
theorem uwg_7 : ∀ w ∈ u_ws RX8 TX8 9, w ∈ lw_g := fun w h => lw_g_of (uw_7 w h) (List.all_eq_true.mp (show (u_ws RX8 TX8 9).all goodWord = true from by decide +kernel) w h)
set_option maxRecDepth 100000 in
theorem uw_8 : ∀ w ∈ u_ws RX9 TX9 12, w ∈ lw_tbl := inTs_mem (ps := [(1, 64), (1, 66), (1, 68), (1, 70), (1, 72), (1, 74), (1, 76), (1, 78), (1, 80), (1, 82), (1, 84), (1, 86)]) (by decide +kernel)
theorem uwg_8 : ∀ w ∈ u_ws RX9 TX9 12, w ∈ lw_g := fun w h => lw_g_of (uw_8 w h) (List.all_eq_true.mp (show (u_ws RX9 TX9 12).all goodWord = true from by decide +kernel) w h)
set_option maxRecDepth 100000 in
theorem uw_9 : ∀ w ∈ u_ws RX10 TX10 5, w ∈ lw_tbl := inTs_mem (ps := [(1, 122), (1, 124), (1, 126), (1, 128), (1, 130)]) (by decide +kernel)
theorem uwg_9 : ∀ w ∈ u_ws RX10 TX10 5, w ∈ lw_g := fun w h => lw_g_of (uw_9 w h) (List.all_eq_true.mp (show (u_ws RX10 TX10 5).all goodWord = true from by decide +kernel) w h)
set_option maxRecDepth 100000 in
theorem uw_10 : ∀ w ∈ u_ws RX11 TX11 51, w ∈ lw_tbl := inTs_mem (ps := [(4, 217), (4, 219), (4, 221), (4, 223), (4, 225), (4, 227), (4, 229), (4, 231), (4, 233), (4, 235), (4, 237), (4, 239), (5, 1), (5, 3), (5, 5), (5, 7), (5, 9), (5, 11), (5, 13), (5, 15), (5, 17), (5, 19), (5, 21), (5, 23), (5, 25), (5, 27), (5, 29), (5, 31), (5, 33), (5, 35), (5, 37), (5, 39), (5, 41), (5, 43), (5, 45), (5, 47), (5, 49), (5, 51), (5, 53), (5, 55), (5, 57), (5, 59), (5, 61), (5, 63), (5, 65), (5, 67), (5, 69), (5, 71), (5, 73), (5, 75), (5, 77)]) (by decide +kernel)
theorem uwg_10 : ∀ w ∈ u_ws RX11 TX11 51, w ∈ lw_g := fun w h => lw_g_of (uw_10 w h) (List.all_eq_true.mp (show (u_ws RX11 TX11 51).all goodWord = true from by decide +kernel) w h)
theorem uwg : ∀ (c : Nat) (q : vw_C), classes[c]? = some q → ∀ w ∈ u_ws q.1 q.2.1 q.2.2, w ∈ lw_g := by
  intro c q h
  match c, h with
  | 0, h => cases h; exact uwg_0
  | 1, h => cases h; exact uwg_1
  | 2, h => cases h; exact uwg_2
  | 3, h => cases h; exact uwg_3
  | 4, h => cases h; exact uwg_4
  | 5, h => cases h; exact uwg_5
  | 6, h => cases h; exact uwg_6
  | 7, h => cases h; exact uwg_7
  | 8, h => cases h; exact uwg_8
  | 9, h => cases h; exact uwg_9
  | 10, h => cases h; exact uwg_10
  | c + 11, h => cases h
theorem nmg : ∀ (c : Nat) (q : vw_C), classes[c]? = some q → ∀ a, a < q.2.2 → ∀ b, b < q.2.2 → a ≠ b → (q.2.1 a).2.1 ≠ (q.2.1 b).2.1 := by
  intro c q h
  match c, h with
  | 0, h => cases h; exact nmX0
  | 1, h => cases h; exact nmX2
  | 2, h => cases h; exact nmX3
  | 3, h => cases h; exact nmX4
  | 4, h => cases h; exact nmX5
  | 5, h => cases h; exact nmX6
  | 6, h => cases h; exact nmX7
  | 7, h => cases h; exact nmX8
  | 8, h => cases h; exact nmX9
  | 9, h => cases h; exact nmX10
  | 10, h => cases h; exact nmX11
  | c + 11, h => cases h
theorem tyg : ∀ (c : Nat) (q : vw_C), classes[c]? = some q → ∀ k, k < q.2.2 → parseFieldDescriptor (q.2.1 k).2.2.1 = some (ftk c k) := by
  intro c q h
  match c, h with
  | 0, h => cases h; exact (by decide +kernel : ∀ k, k < 2 → parseFieldDescriptor (TX0 k).2.2.1 = some (ftk 0 k))
  | 1, h => cases h; exact (by decide +kernel : ∀ k, k < 4 → parseFieldDescriptor (TX2 k).2.2.1 = some (ftk 1 k))
  | 2, h => cases h; exact (by decide +kernel : ∀ k, k < 7 → parseFieldDescriptor (TX3 k).2.2.1 = some (ftk 2 k))
  | 3, h => cases h; exact (by decide +kernel : ∀ k, k < 1 → parseFieldDescriptor (TX4 k).2.2.1 = some (ftk 3 k))
  | 4, h => cases h; exact (by decide +kernel : ∀ k, k < 11 → parseFieldDescriptor (TX5 k).2.2.1 = some (ftk 4 k))
  | 5, h => cases h; exact (by decide +kernel : ∀ k, k < 11 → parseFieldDescriptor (TX6 k).2.2.1 = some (ftk 5 k))
  | 6, h => cases h; exact (by decide +kernel : ∀ k, k < 6 → parseFieldDescriptor (TX7 k).2.2.1 = some (ftk 6 k))
  | 7, h => cases h; exact (by decide +kernel : ∀ k, k < 9 → parseFieldDescriptor (TX8 k).2.2.1 = some (ftk 7 k))
  | 8, h => cases h; exact (by decide +kernel : ∀ k, k < 12 → parseFieldDescriptor (TX9 k).2.2.1 = some (ftk 8 k))
  | 9, h => cases h; exact (by decide +kernel : ∀ k, k < 5 → parseFieldDescriptor (TX10 k).2.2.1 = some (ftk 9 k))
  | 10, h => cases h; exact (by decide +kernel : ∀ k, k < 51 → parseFieldDescriptor (TX11 k).2.2.1 = some (ftk 10 k))
  | c + 11, h => cases h
theorem mall {P : MT → Prop} (hl : ∀ r ∈ mtl_law, P r) (h0 : ∀ r ∈ mtl_0, P r) (h1 : ∀ r ∈ mtl_1, P r) (h2 : ∀ r ∈ mtl_2, P r) (h3 : ∀ r ∈ mtl_3, P r) (h4 : ∀ r ∈ mtl_4, P r) (h5 : ∀ r ∈ mtl_5, P r) (h6 : ∀ r ∈ mtl_6, P r) (h7 : ∀ r ∈ mtl_7, P r) (h8 : ∀ r ∈ mtl_8, P r) (h9 : ∀ r ∈ mtl_9, P r) (h10 : ∀ r ∈ mtl_10, P r) (h11 : ∀ r ∈ mtl_11, P r) (h12 : ∀ r ∈ mtl_12, P r) (h13 : ∀ r ∈ mtl_13, P r) (h14 : ∀ r ∈ mtl_14, P r) (h15 : ∀ r ∈ mtl_15, P r) : ∀ (y : Nat) (r : MT), mt y = some r → P r := by
  intro y r h
  have hm := List.mem_of_getElem? h
  unfold mtl at hm
  simp only [List.mem_append] at hm
  rcases hm with h | h | h | h | h | h | h | h | h | h | h | h | h | h | h | h | h
  · exact h0 r h
  · exact h1 r h
  · exact h2 r h
  · exact h3 r h
  · exact h4 r h
  · exact h5 r h
  · exact h6 r h
  · exact h7 r h
  · exact h8 r h
  · exact h9 r h
  · exact h10 r h
  · exact h11 r h
  · exact h12 r h
  · exact h13 r h
  · exact h14 r h
  · exact h15 r h
  · exact hl r h
theorem code_in : ∀ (y : Nat) (r : MT), mt y = some r → r.2.2.2.2.1 ≠ 3 → CodeIn r := mall (P := fun r => r.2.2.2.2.1 ≠ 3 → CodeIn r) (fun r h e => absurd (by rw [List.mem_singleton.mp h]) e) (fun r h _ => mcode_0 r h) (fun r h _ => mcode_1 r h) (fun r h _ => mcode_2 r h) (fun r h _ => mcode_3 r h) (fun r h _ => mcode_4 r h) (fun r h _ => mcode_5 r h) (fun r h _ => mcode_6 r h) (fun r h _ => mcode_7 r h) (fun r h _ => mcode_8 r h) (fun r h _ => mcode_9 r h) (fun r h _ => mcode_10 r h) (fun r h _ => mcode_11 r h) (fun r h _ => mcode_12 r h) (fun r h _ => mcode_13 r h) (fun r h _ => mcode_14 r h) (fun r h _ => mcode_15 r h)
theorem mok_in : ∀ (y : Nat) (r : MT), mt y = some r → r.2.2.2.2.1 ≠ 3 → MokP r := mall (P := fun r => r.2.2.2.2.1 ≠ 3 → MokP r) (fun r h e => absurd (by rw [List.mem_singleton.mp h]) e) (fun r h _ => moks_P mok_0 r h) (fun r h _ => moks_P mok_1 r h) (fun r h _ => moks_P mok_2 r h) (fun r h _ => moks_P mok_3 r h) (fun r h _ => moks_P mok_4 r h) (fun r h _ => moks_P mok_5 r h) (fun r h _ => moks_P mok_6 r h) (fun r h _ => moks_P mok_7 r h) (fun r h _ => moks_P mok_8 r h) (fun r h _ => moks_P mok_9 r h) (fun r h _ => moks_P mok_10 r h) (fun r h _ => moks_P mok_11 r h) (fun r h _ => moks_P mok_12 r h) (fun r h _ => moks_P mok_13 r h) (fun r h _ => moks_P mok_14 r h) (fun r h _ => moks_P mok_15 r h)
theorem lok_in : ∀ (y : Nat) (r : MT), mt y = some r → LOK r.1.cls r.2.2.2.2.2 := mall (P := fun r => LOK r.1.cls r.2.2.2.2.2) (fun r h => by rw [List.mem_singleton.mp h]; exact lok_15) mlok_0 mlok_1 mlok_2 mlok_3 mlok_4 mlok_5 mlok_6 mlok_7 mlok_8 mlok_9 mlok_10 mlok_11 mlok_12 mlok_13 mlok_14 mlok_15
end
section
/-! WHAT A MEMORY OF THE ABSTRACT MACHINE IS ON THE HEAP, and what a run of it says of the machine -/
theorem ofNat_ofInt (n : Nat) : Int32.ofNat n = Int32.ofInt (n : Int) := by
  apply Int32.toBitVec_inj.mp
  simp
theorem cI_eq (n : Int) : cI n = Int32.ofInt n := by
  cases n with
  | ofNat n => exact ofNat_ofInt n
  | negSucc n =>
    show - Int32.ofNat (n + 1) = _
    rw [ofNat_ofInt, Int.negSucc_eq, Int32.ofInt_neg]
    rfl
def okI (i : Instr) (pc n : Nat) : Bool := match i with
  | .bipush v => (n == 2) && decide ((Int8.ofInt v).toInt32 = cI v)
  | .sipush v => (n == 3) && decide ((Int16.ofInt v).toInt32 = cI v)
  | .aload _ | .iload _ | .lload _ | .astore _ | .istore _ | .lstore _ | .newarray _ | .ldc _ => n == 2
  | .goto o | .if_icmp _ o | .ifCond _ o | .ifnull o | .ifnonnull o => (n == 3) && decide (0 ≤ (pc : Int) + o)
  | .iinc _ _ | .getfield _ | .putfield _ | .getstatic _ | .invokevirtual _ | .invokestatic _ | .invokespecial _ | .new _ | .anewarray _ | .ldc_w _ | .ldc2_w _ => n == 3
  | .tableswitch o lo hi os => decide (0 ≤ (pc : Int) + o) && os.toList.all (fun o => decide (0 ≤ (pc : Int) + o)) && decide ((os.toList.length : Int) = hi - lo + 1) && decide ((cI lo).toInt = lo ∧ (cI hi).toInt = hi)
  | .lookupswitch o ps => decide (0 ≤ (pc : Int) + o) && ps.toList.all (fun e => decide (0 ≤ (pc : Int) + e.2) && decide ((cI e.1).toInt = e.1)) && (ps.toList.zip (ps.toList.drop 1)).all (fun (a, next) => a.1 < next.1)
  | _ => n == 1
def cv (ad : Nat → Nat → Nat) (v : AV) : Value := match v with
  | .inl x => .int x
  | .inr (.inl x) => .long x
  | .inr (.inr (.inl q)) => .ref (ad q.1 q.2)
  | .inr (.inr (.inr _)) => .null
def mv (ad : Nat → Nat → Nat) (M : MM) (c i k : Nat) : Value := match isIT (ftk c k) with
  | true => .int (M.1 c i k)
  | false => cv ad (M.2.1 c i k)
def cellR (D : va_G) (tA : Nat → ClassId) (ad : Nat → Nat → Nat) (M : MM) (H : Heap) (c i : Nat) : Prop := match Nat.ble 20 c with
  | true => ∃ q, ak c = some q ∧ H[ad c i]? = some (arrV (tA c) q.2 (fun j => mv ad M c i j))
  | false => ∃ q : vw_C, classes[c]? = some q ∧ t_OB (ad c i) (D.1 c) q.2.2 (D.2 c) H (fun k => mv ad M c i k)
def stv (c i : Nat) : Bool := stk c && (match Nat.ble 16 c with
  | true => Nat.blt i 13
  | false => Nat.beq i 0)
theorem stv_k {c i : Nat} (h : stv c i = true) : stk c = true := by
  unfold stv at h
  simp only [Bool.and_eq_true] at h
  exact h.1
theorem stv_hi {c i : Nat} (h : stv c i = true) (hc : Nat.ble 16 c = true) : i < 13 := by
  unfold stv at h
  rw [hc] at h
  simp only [Bool.and_eq_true] at h
  exact Nat.le_of_ble_eq_true h.2
theorem stv_lo {c i : Nat} (h : stv c i = true) (hc : Nat.ble 16 c = false) : i = 0 := by
  unfold stv at h
  rw [hc] at h
  simp only [Bool.and_eq_true] at h
  exact Nat.eq_of_beq_eq_true h.2
theorem stv_16 {i : Nat} (h : i < 13) : stv 16 i = true ∧ stv 17 i = true := by
  have e : Nat.blt i 13 = true := Nat.ble_eq_true_of_le h
  constructor
  · show (stk 16 && Nat.blt i 13) = true
    rw [e]; rfl
  · show (stk 17 && Nat.blt i 13) = true
    rw [e]; rfl
def okA (lv : LV) (v : AV) : Prop := match v with
  | .inr (.inr (.inl q)) => lv q.1 q.2 = true ∨ stv q.1 q.2 = true
  | _ => True
def Rep (D : va_G) (tA : Nat → ClassId) (z : Nat) (ad : Nat → Nat → Nat) (M : MM) (H : Heap) : Prop :=
  (∀ c i, M.2.2 c i = true → stk c = false ∧ z ≤ ad c i ∧ cellR D tA ad M H c i) ∧
  (∀ c i c' i', M.2.2 c i = true → M.2.2 c' i' = true → ad c i = ad c' i' → c = c' ∧ i = i') ∧
  (∀ c i k, M.2.2 c i = true → k < sz1 c → okA M.2.2 (M.2.1 c i k))
def KF (D : va_G) (tA : Nat → ClassId) (U : State) : Prop := va_K D classes [] U ∧ (∀ c q, ak c = some q → ArrOfT U (tA c) q.1 ∧ va_RA U (tA c) q.1) ∧ (∀ C ∈ ["StencilHouse$Shop", "StencilHouse$Day", "StencilHouse$Picture", "StencilHouse$Marks", "StencilHouse$Told"], va_AO C U) ∧ (∀ a i y h, Cond.methodLinkNest a i y h ∈ lw_tbl → va_Nw (.methodLinkNest a i y h) U)
abbrev aA (z : Nat) : Nat → Prop := fun q => z ≤ q
def SF (gl : Nat) (gx : Nat → Int32) (z : Nat) (ad : Nat → Nat → Nat) (U : State) (H : Heap) : Prop :=
  (va_X (ad 11 0) gl gx U H ∧ ad 11 0 < z) ∧
  (∀ c l, sta c = some l → va_Z "StencilHouse$Reader" (stN.getD (c - 12) "") "[I" (.ref (ad c 0)) (aA z) U H ∧ va_T .int (ad c 0) l.length (fun j => .int (l.getD j 0)) (aA z) U H) ∧
  vk_S 13 (stx.map List.length) stx (ad 16) (ad 17) (aA z) U H ∧
  (∀ j, j < 13 → vk_R "StencilHouse$Reader" (stIx.getD j 0) (stTx.getD j "") (ad 16 j) U) ∧
  va_Z "java/lang/String" "COMPACT_STRINGS" "Z" (.int 1) (aA z) U H ∧
  ∃ v, va_Z "jdk/internal/util/Preconditions" "SIOOBE_FORMATTER" "Ljava/util/function/BiFunction;" v (aA z) U H ∧ (v = .null ∨ ∃ a, v = .ref a)
theorem KF.moved {D : va_G} {tA : Nat → ClassId} {u U : State} (hW : u.WarmedH U.vm) (h : KF D tA u) : KF D tA U :=
  ⟨va_K.moved hW.alike h.1, fun c q hq => ⟨arrOfT_moved hW.alike (h.2.1 c q hq).1, (h.2.1 c q hq).2.moved hW.alike⟩, fun C hC => va_AO.moved hW.alike (h.2.2.1 C hC), fun a i y k hk => va_Nw.warmM hW (h.2.2.2 a i y k hk)⟩
theorem KF.same {D : va_G} {tA : Nat → ClassId} {u U : State} (hv : U.vm = u.vm) (h : KF D tA u) : KF D tA U :=
  have ha : u.vm.Alike U.vm := by rw [hv]; exact Vm.Alike.refl _
  ⟨va_K.moved ha h.1, fun c q hq => ⟨arrOfT_moved ha (h.2.1 c q hq).1, (h.2.1 c q hq).2.moved ha⟩, fun C hC => va_AO.moved ha (h.2.2.1 C hC), fun a i y k hk => va_Nw.same rfl hv.symm (h.2.2.2 a i y k hk)⟩
theorem SF.kept {gl : Nat} {gx : Nat → Int32} {z : Nat} {ad : Nat → Nat → Nat} {U : State} {H H1 : Heap} (h : SF gl gx z ad U H) (hz : z ≤ H.size) (hq : ∀ a : Nat, a < H.size → ¬ aA z a → H1[a]? = H[a]?) : SF gl gx z ad U H1 := by
  obtain ⟨⟨h1, h1'⟩, h2, h3, h4, h5, v, h6, h7⟩ := h
  exact ⟨⟨h1.kept (hq _ (Nat.lt_of_lt_of_le h1' hz) (Nat.not_le.mpr h1')), h1'⟩, fun c l hc => ⟨(h2 c l hc).1.kept hq, (h2 c l hc).2.kept hq⟩, h3.kept hq, h4, h5.kept hq, v, h6.kept hq, h7⟩
theorem SF.moved {gl : Nat} {gx : Nat → Int32} {z : Nat} {ad : Nat → Nat → Nat} {u U : State} {H : Heap} (hW : u.WarmedH U.vm) (h : SF gl gx z ad u H) : SF gl gx z ad U H := by
  obtain ⟨⟨h1, h1'⟩, h2, h3, h4, h5, v, h6, h7⟩ := h
  exact ⟨⟨h1.moved hW.alike, h1'⟩, fun c l hc => ⟨(h2 c l hc).1.moved hW.alike, (h2 c l hc).2.moved hW.alike⟩, h3.moved hW.alike, fun j hj => (h4 j hj).warm hW, h5.moved hW.alike, v, h6.moved hW.alike, h7⟩
theorem SF.same {gl : Nat} {gx : Nat → Int32} {z : Nat} {ad : Nat → Nat → Nat} {u U : State} {H : Heap} (hv : U.vm = u.vm) (h : SF gl gx z ad u H) : SF gl gx z ad U H := by
  have ha : u.vm.Alike U.vm := by rw [hv]; exact Vm.Alike.refl _
  obtain ⟨⟨h1, h1'⟩, h2, h3, h4, h5, v, h6, h7⟩ := h
  exact ⟨⟨h1.moved ha, h1'⟩, fun c l hc => ⟨(h2 c l hc).1.moved ha, (h2 c l hc).2.moved ha⟩, h3.moved ha, fun j hj => (h4 j hj).same hv, h5.moved ha, v, h6.moved ha, h7⟩
/-- the names that were, mean what they meant -/
def Ext (lv : LV) (ad ad' : Nat → Nat → Nat) : Prop := ∀ c i, lv c i = true ∨ stk c = true → ad' c i = ad c i
theorem SF.ext {gl : Nat} {gx : Nat → Int32} {z : Nat} {lv : LV} {ad ad' : Nat → Nat → Nat} {U : State} {H : Heap} (h : SF gl gx z ad U H) (he : Ext lv ad ad') : SF gl gx z ad' U H := by
  have e : ∀ c i, stk c = true → ad' c i = ad c i := fun c i hc => he c i (Or.inr hc)
  obtain ⟨⟨h1, h1'⟩, h2, h3, h4, h5, v, h6, h7⟩ := h
  have e16 : ad' 16 = ad 16 := funext fun i => e 16 i rfl
  have e17 : ad' 17 = ad 17 := funext fun i => e 17 i rfl
  refine ⟨by rw [e 11 0 rfl]; exact ⟨h1, h1'⟩, fun c l hc => ?_, by rw [e16, e17]; exact h3, by rw [e16]; exact h4, h5, v, h6, h7⟩
  have hs : stk c = true := by
    unfold sta at hc
    split at hc <;> first | rfl | cases hc
  rw [e c 0 hs]
  exact h2 c l hc
theorem cv_ext {lv : LV} {ad ad' : Nat → Nat → Nat} (he : Ext lv ad ad') {v : AV} (h : okA lv v) : cv ad' v = cv ad v := by
  match v, h with
  | .inl x, _ => rfl
  | .inr (.inl x), _ => rfl
  | .inr (.inr (.inl q)), h => exact congrArg Value.ref (he q.1 q.2 (h.imp id stv_k))
  | .inr (.inr (.inr _)), _ => rfl
theorem okA_mono {lv lv' : LV} (h : ∀ c i, lv c i = true → lv' c i = true) {v : AV} (hv : okA lv v) : okA lv' v := by
  match v, hv with
  | .inl x, _ => trivial
  | .inr (.inl x), _ => trivial
  | .inr (.inr (.inl q)), hv => exact hv.imp (h q.1 q.2) id
  | .inr (.inr (.inr _)), _ => trivial
/-- the locals whose values are known -/
def lvl (ad : Nat → Nat → Nat) : Nat → List AV → List (Nat × Value)
  | _, [] => []
  | i, .inr (.inr (.inr false)) :: L => lvl ad (i + 1) L
  | i, v :: L => (i, cv ad v) :: lvl ad (i + 1) L
theorem lvl_mem {ad : Nat → Nat → Nat} {q : Nat × Value} : ∀ {L : List AV} {i : Nat}, q ∈ lvl ad i L ↔ ∃ j v, L[j]? = some v ∧ v ≠ aU ∧ q = (i + j, cv ad v) := by
  intro L
  induction L with
  | nil => intro i; simp [lvl]
  | cons a L ih =>
    intro i
    have tail : (∃ j v, L[j]? = some v ∧ v ≠ aU ∧ q = (i + 1 + j, cv ad v)) ↔ ∃ j v, (a :: L)[j + 1]? = some v ∧ v ≠ aU ∧ q = (i + (j + 1), cv ad v) := by
      constructor
      · rintro ⟨j, v, h1, h2, h3⟩
        exact ⟨j, v, by simpa using h1, h2, by rw [h3]; congr 1; omega⟩
      · rintro ⟨j, v, h1, h2, h3⟩
        exact ⟨j, v, by simpa using h1, h2, by rw [h3]; congr 1; omega⟩
    by_cases ha : a = aU
    · subst ha
      show q ∈ lvl ad (i + 1) L ↔ _
      rw [ih, tail]
      constructor
      · rintro ⟨j, v, h⟩
        exact ⟨j + 1, v, h⟩
      · rintro ⟨j, v, h1, h2, h3⟩
        cases j with
        | zero => exact absurd (by simpa using h1.symm) h2
        | succ j => exact ⟨j, v, h1, h2, h3⟩
    · have e : lvl ad i (a :: L) = (i, cv ad a) :: lvl ad (i + 1) L := by
        match a, ha with
        | .inl x, _ => rfl
        | .inr (.inl x), _ => rfl
        | .inr (.inr (.inl x)), _ => rfl
        | .inr (.inr (.inr true)), _ => rfl
        | .inr (.inr (.inr false)), ha => exact absurd rfl ha
      rw [e, List.mem_cons, ih, tail]
      constructor
      · rintro (h | ⟨j, v, h⟩)
        · exact ⟨0, a, by simp, ha, by simpa using h⟩
        · exact ⟨j + 1, v, h⟩
      · rintro ⟨j, v, h1, h2, h3⟩
        cases j with
        | zero =>
          have : a = v := by simpa using h1
          subst this
          exact Or.inl (by simpa using h3)
        | succ j => exact Or.inr ⟨j, v, h1, h2, h3⟩
theorem lvl_at {ad : Nat → Nat → Nat} {ls : Array Slot} {n : Nat} {L : List AV} (h : lv_has ls n (lvl ad 0 L)) {k : Nat} {v : AV} (hv : gL L k = v) (hu : v ≠ aU) : ls[k]? = some (.val (cv ad v)) := by
  have h1 : L[k]? = some v := by
    unfold gL at hv
    rw [List.getD_eq_getElem?_getD] at hv
    cases hq : L[k]? with
    | none => rw [hq] at hv; exact absurd hv.symm hu
    | some w => rw [hq] at hv; simpa using hv
  have h2 := h.2.2 (k, cv ad v) (lvl_mem.mpr ⟨k, v, h1, hu, by simp⟩)
  exact h2
theorem lvl_sub {ls : Array Slot} {n : Nat} {l l' : List (Nat × Value)} (h : lv_has ls n l) (hs : ∀ q ∈ l', q ∈ l) : lv_has ls n l' := ⟨h.1, h.2.1, fun q hq => h.2.2 q (hs q hq)⟩
theorem lvl_ext {lv : LV} {ad ad' : Nat → Nat → Nat} (he : Ext lv ad ad') {L : List AV} (hL : ∀ v ∈ L, okA lv v) {ls : Array Slot} {n : Nat} (h : lv_has ls n (lvl ad 0 L)) : lv_has ls n (lvl ad' 0 L) := by
  refine lvl_sub h fun q hq => ?_
  obtain ⟨j, v, h1, h2, rfl⟩ := lvl_mem.mp hq
  rw [cv_ext he (hL v (List.mem_of_getElem? h1))]
  exact lvl_mem.mpr ⟨j, v, h1, h2, rfl⟩
theorem cv_cat {ad : Nat → Nat → Nat} {v : AV} : (cv ad v).category = 2 ↔ ∃ x, v = aL x := by
  match v with
  | .inl x => simp [cv, Value.category]
  | .inr (.inl x) => simp [cv, Value.category]
  | .inr (.inr (.inl q)) => simp [cv, Value.category]
  | .inr (.inr (.inr b)) => simp [cv, Value.category]
/-- behind a store of one word -/
theorem lvl_set {ad : Nat → Nat → Nat} {L : List AV} {k : Nat} {v : AV} {P : List AV → Prop} (h : sL L k v P) : P (L.set k v) ∧ k < L.length ∧ ∀ q ∈ lvl ad 0 (L.set k v), q ∈ (k, cv ad v) :: (lvl ad 0 L).filter (fun q => !(q.1 == k) && !(q.1 + 1 == k && q.2.category == 2)) := by
  unfold sL at h
  split at h
  · rename_i hlt
    have hk : k < L.length := by
      have := Nat.le_of_ble_eq_true hlt
      omega
    have main : (∀ j, k = j + 1 → ∀ x, gL L j ≠ aL x) → ∀ q ∈ lvl ad 0 (L.set k v), q ∈ (k, cv ad v) :: (lvl ad 0 L).filter (fun q => !(q.1 == k) && !(q.1 + 1 == k && q.2.category == 2)) := by
      intro hno q hq
      obtain ⟨j, w, h1, h2, rfl⟩ := lvl_mem.mp hq
      by_cases hj : k = j
      · subst hj
        rw [List.getElem?_set_self hk] at h1
        cases h1
        simp
      · rw [List.getElem?_set_ne hj] at h1
        refine List.mem_cons_of_mem _ (List.mem_filter.mpr ⟨lvl_mem.mpr ⟨j, w, h1, h2, rfl⟩, ?_⟩)
        have e1 : ¬ (0 + j = k) := by omega
        by_cases e2 : 0 + j + 1 = k
        · have e3 : ¬ (cv ad w).category = 2 := by
            intro hc
            obtain ⟨x, rfl⟩ := cv_cat.mp hc
            refine hno j (by omega) x ?_
            unfold gL
            rw [List.getD_eq_getElem?_getD, h1]
            rfl
          have e1' : ¬ j = k := by omega
          simp [e1', e3]
        · have e1' : ¬ j = k := by omega
          have e2' : ¬ j + 1 = k := by omega
          simp [e1', e2']
    cases k with
    | zero => exact ⟨h, hk, main (fun j e => by omega)⟩
    | succ j =>
      dsimp only at h
      split at h
      · exact h.elim
      · rename_i hno
        refine ⟨h, hk, main (fun j' e x hx => ?_)⟩
        have : j' = j := by omega
        subst this
        exact hno x hx
  · exact h.elim
theorem pI_inv {S : List AV} {f : Int32 → List AV → Prop} (h : pI S f) : ∃ x T, S = aI x :: T ∧ f x T := by
  unfold pI at h
  split at h
  · exact ⟨_, _, rfl, h⟩
  · exact h.elim
theorem pL_inv {S : List AV} {f : Int64 → List AV → Prop} (h : pL S f) : ∃ x T, S = aL x :: T ∧ f x T := by
  unfold pL at h
  split at h
  · exact ⟨_, _, rfl, h⟩
  · exact h.elim
theorem pR_inv {S : List AV} {f : Nat → Nat → List AV → Prop} (h : pR S f) : ∃ c i T, S = aR c i :: T ∧ f c i T := by
  unfold pR at h
  split at h
  · exact ⟨_, _, _, rfl, h⟩
  · exact h.elim
theorem pA_inv {S : List AV} {f : AV → List AV → Prop} (h : pA S f) : (∃ c i T, S = aR c i :: T ∧ f (aR c i) T) ∨ ∃ T, S = aN :: T ∧ f aN T := by
  unfold pA at h
  split at h
  · exact Or.inl ⟨_, _, _, rfl, h⟩
  · exact Or.inr ⟨_, rfl, h⟩
  · exact h.elim
/-- a value of one word that is known -/
theorem p1_inv {v : AV} {f : AV → Prop} (h : p1 v f) : f v ∧ v ≠ aU ∧ ∀ ad : Nat → Nat → Nat, (cv ad v).category = 1 := by
  unfold p1 at h
  split at h
  · exact ⟨h, (by intro e; cases e), fun _ => rfl⟩
  · exact ⟨h, (by intro e; cases e), fun _ => rfl⟩
  · exact ⟨h, (by intro e; cases e), fun _ => rfl⟩
  · exact h.elim
def psz (P : PL) : Nat := (P.map fun q => sz1 q.1).sum
def rst (ad : Nat → Nat → Nat) (v : AV) : List Value := match v with
  | .inr (.inr (.inr false)) => []
  | v => [cv ad v]
def retAt (r : MT) (pc : Nat) (v : AV) : Prop := (r.2.2.2.1 = none ∧ v = aU ∧ decode r.2.1 pc = .ok (.return_, 1)) ∨ (∃ x ty, r.2.2.2.1 = some ty ∧ v = aI x ∧ narrow ty (.int x) = .int x ∧ decode r.2.1 pc = .ok (.ireturn, 1)) ∨ (∃ C, r.2.2.2.1 = some (.object C) ∧ ((∃ q, v = .inr (.inr (.inl q))) ∨ v = aN) ∧ decode r.2.1 pc = .ok (.areturn, 1))
def Cx (z : Nat) (D : va_G) (tA : Nat → ClassId) (p : Program) (R : Room) (s : State) (m : MethodId) (args : Array Value) (meth : Method) (c : Code) (r : MT) (d : Nat) : Prop :=
  p.tables.exec = Jvm.exec ∧ c.code = r.2.1 ∧ c.maxLocals = r.2.2.1 ∧ s.vm.findClass r.1.cls = some m.cls ∧ (∀ w ∈ lw_g, w.before args s = true) ∧ (r.1.name = "<init>" → meth.name = "<init>") ∧ KF D tA s ∧ z ≤ s.heap.size ∧ d ≤ R.frames ∧ 64 * d ≤ R.locals ∧ LOK r.1.cls r.2.2.2.2.2
def Dx (gl : Nat) (gx : Nat → Int32) (z : Nat) (D : va_G) (tA : Nat → ClassId) (R : Room) (s : State) (r : MT) (ad : Nat → Nat → Nat) (H : Heap) (locs : List Loc) (cells slots : Nat) (ls : Array Slot) (P : PL) (L S : List AV) (M : MM) : Prop :=
  SF gl gx z ad s s.heap ∧ va_S (aA z) s.heap H locs ∧ Rep D tA z ad M H ∧ lv_has ls r.2.2.1 (lvl ad 0 L) ∧ L.length = r.2.2.1 ∧ (∀ v ∈ L, okA M.2.2 v) ∧ (∀ v ∈ S, okA M.2.2 v) ∧ cells + P.length ≤ R.cells ∧ slots + psz P ≤ R.slots
def Ret (z : Nat) (D : va_G) (tA : Nat → ClassId) (l : Launch) (p : Program) (e : Env) (R : Room) (s : State) (m : MethodId) (args : Array Value) (below : List Frame) (meth : Method) (c : Code) (Zq : State → Prop) (r : MT) (Q : PO) (lv : LV) (ad : Nat → Nat → Nat) : Prop :=
  ∀ (v : AV) (M' : MM) (ad' : Nat → Nat → Nat) (H' : Heap) (locs' : List Loc) (cells' slots' pc' : Nat) (ls' : Array Slot), Q v M' → Rep D tA z ad' M' H' → okA M'.2.2 v → Ext lv ad ad' → (∀ c i, lv c i = true → M'.2.2 c i = true) → va_S (aA z) s.heap H' locs' → cells' ≤ R.cells → slots' ≤ R.slots → retAt r pc' v → W p l e R s m args below meth c H' locs' cells' slots' Zq (F0 m pc' ls' (rst ad' v))
def Go (gl : Nat) (gx : Nat → Int32) (z : Nat) (D : va_G) (tA : Nat → ClassId) (l : Launch) (p : Program) (e : Env) (R : Room) (s : State) (m : MethodId) (args : Array Value) (below : List Frame) (meth : Method) (c : Code) (Zq : State → Prop) (r : MT) (Q : PO) (pc : Nat) (P : PL) (L S : List AV) (M : MM) : Prop :=
  ∀ (ad : Nat → Nat → Nat) (H : Heap) (locs : List Loc) (cells slots : Nat) (ls : Array Slot), Dx gl gx z D tA R s r ad H locs cells slots ls P L S M → Ret z D tA l p e R s m args below meth c Zq r Q M.2.2 ad → W p l e R s m args below meth c H locs cells slots Zq (F0 m pc ls (S.map (cv ad)))
def Sim (gl : Nat) (gx : Nat → Int32) (z : Nat) (D : va_G) (tA : Nat → ClassId) (l : Launch) : XT := fun d P y pc L S M Q =>
  ∀ (p : Program) (e : Env) (R : Room) (s : State) (m : MethodId) (args : Array Value) (below : List Frame) (meth : Method) (c : Code) (Zq : State → Prop) (r : MT), mt y = some r → Cx z D tA p R s m args meth c r d → Go gl gx z D tA l p e R s m args below meth c Zq r Q pc P L S M
theorem Ret.mono {z : Nat} {D : va_G} {tA : Nat → ClassId} {l : Launch} {p : Program} {e : Env} {R : Room} {s : State} {m : MethodId} {args : Array Value} {below : List Frame} {meth : Method} {c : Code} {Zq : State → Prop} {r : MT} {Q : PO} {lv lv1 : LV} {ad ad1 : Nat → Nat → Nat} (h : Ret z D tA l p e R s m args below meth c Zq r Q lv ad) (hl : ∀ c i, lv c i = true → lv1 c i = true) (he : Ext lv ad ad1) : Ret z D tA l p e R s m args below meth c Zq r Q lv1 ad1 := by
  intro v M' ad' H' locs' cells' slots' pc' ls' h1 h2 h3 h4 h5 h6 h7 h8 h9
  refine h v M' ad' H' locs' cells' slots' pc' ls' h1 h2 h3 (fun c i hc => ?_) (fun c i hc => h5 c i (hl c i hc)) h6 h7 h8 h9
  rw [h4 c i (hc.imp (hl c i) id), he c i hc]
end
section
/-! ONE STEP of the abstract machine is steps of the machine: locals, constants, arithmetic, branches, answers -/
section STEP1
variable {gl : Nat} {gx : Nat → Int32} {z : Nat} {D : va_G} {tA : Nat → ClassId} {l : Launch} {p : Program} {e : Env} {R : Room} {s : State} {m : MethodId} {args : Array Value} {below : List Frame} {meth : Method} {c : Code} {Zq : State → Prop} {r : MT} {Q : PO} {d : Nat}
variable {K J : Nat → PL → List AV → List AV → MM → Prop} {pc n : Nat} {P : PL} {L S T : List AV} {M : MM} {X : XT}
/-- the stack changes by known values -/
theorem Dx.stk {ad : Nat → Nat → Nat} {H : Heap} {locs : List Loc} {cells slots : Nat} {ls : Array Slot} (h : Dx gl gx z D tA R s r ad H locs cells slots ls P L S M) (hT : ∀ v ∈ T, v ∈ S ∨ okA M.2.2 v) : Dx gl gx z D tA R s r ad H locs cells slots ls P L T M := by
  obtain ⟨h1, h2, h3, h4, h5, h6, h7, h8, h9⟩ := h
  exact ⟨h1, h2, h3, h4, h5, h6, fun v hv => (hT v hv).elim (h7 v) id, h8, h9⟩
theorem Dx.loc {ad : Nat → Nat → Nat} {H : Heap} {locs : List Loc} {cells slots : Nat} {ls ls' : Array Slot} {k : Nat} {v : AV} {A : List AV → Prop} (h : Dx gl gx z D tA R s r ad H locs cells slots ls P L S M) (hs : sL L k v A) (hl : lv_has ls' r.2.2.1 ((k, cv ad v) :: (lvl ad 0 L).filter (fun q => !(q.1 == k) && !(q.1 + 1 == k && q.2.category == 2)))) (hv : okA M.2.2 v) (hT : ∀ w ∈ T, w ∈ S) : Dx gl gx z D tA R s r ad H locs cells slots ls' P (L.set k v) T M := by
  obtain ⟨h1, h2, h3, h4, h5, h6, h7, h8, h9⟩ := h
  refine ⟨h1, h2, h3, lvl_sub hl (lvl_set hs).2.2, by rw [List.length_set]; exact h5, fun w hw => ?_, fun w hw => h7 w (hT w hw), h8, h9⟩
  rcases List.mem_or_eq_of_mem_set hw with h | h
  · exact h6 w h
  · rw [h]; exact hv
theorem okA_I {lv : LV} {x : Int32} : okA lv (aI x) := trivial
theorem gL_mem {v : AV} {k : Nat} (h : gL L k = v) (hu : v ≠ aU) : v ∈ L := by
  unfold gL at h
  rw [List.getD_eq_getElem?_getD] at h
  cases hq : L[k]? with
  | none => rw [hq] at h; exact absurd h.symm hu
  | some w => rw [hq] at h; rw [← show w = v from h]; exact List.mem_of_getElem? hq
theorem go_pushI {v : AV} {n : Nat} (hc : K (pc + n) P L (v :: S) M) (hv : okA M.2.2 v) (hK : ∀ pc' P L S M, pc' = pc + n → K pc' P L S M → Go gl gx z D tA l p e R s m args below meth c Zq r Q pc' P L S M)
    (row : ∀ (H : Heap) (locs : List Loc) (cells slots : Nat) (ad : Nat → Nat → Nat) (ls : Array Slot) (rest : List Value), lv_has ls r.2.2.1 (lvl ad 0 L) → W p l e R s m args below meth c H locs cells slots Zq (F0 m (pc + n) ls (cv ad v :: rest)) → W p l e R s m args below meth c H locs cells slots Zq (F0 m pc ls rest)) :
    Go gl gx z D tA l p e R s m args below meth c Zq r Q pc P L S M := by
  intro ad H locs cells slots ls hD hR
  exact row H locs cells slots ad ls _ hD.2.2.2.1 (hK _ _ _ _ _ rfl hc ad H locs cells slots ls (hD.stk fun w hw => by
    rcases List.mem_cons.mp hw with rfl | h
    · exact Or.inr hv
    · exact Or.inl h) hR)
theorem go_loads {i : Instr} (C : Cx z D tA p R s m args meth c r d) (hK : ∀ pc' P L S M, pc' = pc + n → K pc' P L S M → Go gl gx z D tA l p e R s m args below meth c Zq r Q pc' P L S M) (hd : decode r.2.1 pc = .ok (i, n)) (ho : okI i pc n = true) (h : stepI gl gx X d r.2.2.2.2.2 r.2.2.2.1 r.2.2.2.2.1 r.1.cls Q K J i pc P L S M)
    (hi : (∃ k, i = .aload_n k) ∨ (∃ k, i = .aload k) ∨ (∃ k, i = .iload_n k) ∨ (∃ k, i = .iload k) ∨ (∃ k, i = .lload_n k) ∨ (∃ k, i = .lload k)) : Go gl gx z D tA l p e R s m args below meth c Zq r Q pc P L S M := by
  obtain ⟨hx, hb, -⟩ := C
  have okL : ∀ {ad H locs cells slots ls v k}, Dx gl gx z D tA R s r ad H locs cells slots ls P L S M → gL L k = v → v ≠ aU → okA M.2.2 v := fun hD hv hu => hD.2.2.2.2.2.1 _ (gL_mem hv hu)
  rcases hi with ⟨k, rfl⟩ | ⟨k, rfl⟩ | ⟨k, rfl⟩ | ⟨k, rfl⟩ | ⟨k, rfl⟩ | ⟨k, rfl⟩
  · have en : n = 1 := by simpa [okI] using ho
    subst en
    have h : pA [gL L k.val] (fun v _ => K (pc + 1) P L (v :: S) M) := h
    rcases pA_inv h with ⟨c', i', T', e1, h1⟩ | ⟨T', e1, h1⟩
    · have e2 : gL L k.val = aR c' i' := (List.cons.inj e1).1
      intro ad H locs cells slots ls hD hR
      exact lv_aload_n hx hb hd rfl (lvl_at hD.2.2.2.1 e2 (by intro q; cases q)) (hK _ _ _ _ _ rfl h1 ad H locs cells slots ls (hD.stk fun w hw => (List.mem_cons.mp hw).elim (fun q => Or.inr (q ▸ okL hD e2 (by intro q; cases q))) Or.inl) hR)
    · have e2 : gL L k.val = aN := (List.cons.inj e1).1
      intro ad H locs cells slots ls hD hR
      exact lv_aload_nN hx hb hd rfl (lvl_at hD.2.2.2.1 e2 (by intro q; cases q)) (hK _ _ _ _ _ rfl h1 ad H locs cells slots ls (hD.stk fun w hw => (List.mem_cons.mp hw).elim (fun q => Or.inr (by rw [q]; trivial)) Or.inl) hR)
  · have en : n = 2 := by simpa [okI] using ho
    subst en
    have h : pA [gL L k] (fun v _ => K (pc + 2) P L (v :: S) M) := h
    rcases pA_inv h with ⟨c', i', T', e1, h1⟩ | ⟨T', e1, h1⟩
    · have e2 : gL L k = aR c' i' := (List.cons.inj e1).1
      intro ad H locs cells slots ls hD hR
      exact lv_aload hx hb hd (lvl_at hD.2.2.2.1 e2 (by intro q; cases q)) (hK _ _ _ _ _ rfl h1 ad H locs cells slots ls (hD.stk fun w hw => (List.mem_cons.mp hw).elim (fun q => Or.inr (q ▸ okL hD e2 (by intro q; cases q))) Or.inl) hR)
    · have e2 : gL L k = aN := (List.cons.inj e1).1
      intro ad H locs cells slots ls hD hR
      exact lv_aloadN hx hb hd (lvl_at hD.2.2.2.1 e2 (by intro q; cases q)) (hK _ _ _ _ _ rfl h1 ad H locs cells slots ls (hD.stk fun w hw => (List.mem_cons.mp hw).elim (fun q => Or.inr (by rw [q]; trivial)) Or.inl) hR)
  · have en : n = 1 := by simpa [okI] using ho
    subst en
    obtain ⟨x, T', e1, h1⟩ := pI_inv h
    have e2 : gL L k.val = aI x := (List.cons.inj e1).1
    exact go_pushI h1 trivial hK fun H locs cells slots ad ls rest hl w => lv_iload_n hx hb hd rfl (lvl_at hl e2 (by intro q; cases q)) w
  · have en : n = 2 := by simpa [okI] using ho
    subst en
    obtain ⟨x, T', e1, h1⟩ := pI_inv h
    have e2 : gL L k = aI x := (List.cons.inj e1).1
    exact go_pushI h1 trivial hK fun H locs cells slots ad ls rest hl w => lv_iload hx hb hd (lvl_at hl e2 (by intro q; cases q)) w
  · have en : n = 1 := by simpa [okI] using ho
    subst en
    obtain ⟨x, T', e1, h1⟩ := pL_inv h
    have e2 : gL L k.val = aL x := (List.cons.inj e1).1
    exact go_pushI h1 trivial hK fun H locs cells slots ad ls rest hl w => lv_lload_n hx hb hd rfl (lvl_at hl e2 (by intro q; cases q)) w
  · have en : n = 2 := by simpa [okI] using ho
    subst en
    obtain ⟨x, T', e1, h1⟩ := pL_inv h
    have e2 : gL L k = aL x := (List.cons.inj e1).1
    exact go_pushI h1 trivial hK fun H locs cells slots ad ls rest hl w => lv_lload hx hb hd (lvl_at hl e2 (by intro q; cases q)) w
/-- behind a store of a long -/
theorem lvl_set2 {ad : Nat → Nat → Nat} {k : Nat} {x : Int64} {A : List AV → Prop} (h : sL2 L k x A) : A ((L.set k (aL x)).set (k + 1) aU) ∧ k + 1 < L.length ∧ ∀ q ∈ lvl ad 0 ((L.set k (aL x)).set (k + 1) aU), q ∈ (k, Value.long x) :: (lvl ad 0 L).filter (fun q => !(q.1 == k) && (!(q.1 == k + 1) && !(q.1 + 1 == k && q.2.category == 2))) := by
  unfold sL2 at h
  split at h
  · rename_i hlt
    have hk : k + 1 < L.length := by
      have := Nat.le_of_ble_eq_true hlt
      omega
    have main : (∀ j, k = j + 1 → ∀ x, gL L j ≠ aL x) → ∀ q ∈ lvl ad 0 ((L.set k (aL x)).set (k + 1) aU), q ∈ (k, Value.long x) :: (lvl ad 0 L).filter (fun q => !(q.1 == k) && (!(q.1 == k + 1) && !(q.1 + 1 == k && q.2.category == 2))) := by
      intro hno q hq
      obtain ⟨j, w, h1, h2, rfl⟩ := lvl_mem.mp hq
      by_cases hj1 : k + 1 = j
      · subst hj1
        rw [List.getElem?_set_self (by rw [List.length_set]; exact hk)] at h1
        cases h1
        exact absurd rfl h2
      rw [List.getElem?_set_ne hj1] at h1
      by_cases hj : k = j
      · subst hj
        rw [List.getElem?_set_self (by omega)] at h1
        cases h1
        simp [cv]
      · rw [List.getElem?_set_ne hj] at h1
        refine List.mem_cons_of_mem _ (List.mem_filter.mpr ⟨lvl_mem.mpr ⟨j, w, h1, h2, rfl⟩, ?_⟩)
        have e0 : ¬ j = k + 1 := by omega
        have e1 : ¬ j = k := by omega
        by_cases e2 : j + 1 = k
        · have e3 : ¬ (cv ad w).category = 2 := by
            intro hc
            obtain ⟨x, rfl⟩ := cv_cat.mp hc
            refine hno j (by omega) x ?_
            unfold gL
            rw [List.getD_eq_getElem?_getD, h1]
            rfl
          simp [e0, e1, e3]
        · simp [e0, e1, e2]
    cases k with
    | zero => exact ⟨h, hk, main (fun j e => by omega)⟩
    | succ j =>
      dsimp only at h
      split at h
      · exact h.elim
      · rename_i hno
        refine ⟨h, hk, main (fun j' e x hx => ?_)⟩
        have : j' = j := by omega
        subst this
        exact hno x hx
  · exact h.elim
theorem go_stores {i : Instr} (C : Cx z D tA p R s m args meth c r d) (hK : ∀ pc' P L S M, pc' = pc + n → K pc' P L S M → Go gl gx z D tA l p e R s m args below meth c Zq r Q pc' P L S M) (hd : decode r.2.1 pc = .ok (i, n)) (ho : okI i pc n = true) (h : stepI gl gx X d r.2.2.2.2.2 r.2.2.2.1 r.2.2.2.2.1 r.1.cls Q K J i pc P L S M)
    (hi : (∃ k, i = .astore_n k) ∨ (∃ k, i = .astore k) ∨ (∃ k, i = .istore_n k) ∨ (∃ k, i = .istore k) ∨ (∃ k, i = .lstore k) ∨ (∃ k a, i = .iinc k a)) : Go gl gx z D tA l p e R s m args below meth c Zq r Q pc P L S M := by
  obtain ⟨hx, hb, -⟩ := C
  have tl : ∀ {v : AV} {T : List AV}, ∀ w ∈ T, w ∈ v :: T := fun w hw => List.mem_cons_of_mem _ hw
  rcases hi with ⟨k, rfl⟩ | ⟨k, rfl⟩ | ⟨k, rfl⟩ | ⟨k, rfl⟩ | ⟨k, rfl⟩ | ⟨k, a, rfl⟩
  · have en : n = 1 := by simpa [okI] using ho
    subst en
    have h : pA S (fun v S => sL L k.val v fun L => K (pc + 1) P L S M) := h
    rcases pA_inv h with ⟨c', i', T', rfl, h1⟩ | ⟨T', rfl, h1⟩
    · intro ad H locs cells slots ls hD hR
      have h2 := lvl_set (ad := ad) h1
      exact lv_astore_n hx hb hd rfl hD.2.2.2.1 (hD.2.2.2.2.1 ▸ h2.2.1) rfl (fun ls' hl' => hK _ _ _ _ _ rfl h2.1 ad H locs cells slots ls' (hD.loc h1 hl' (hD.2.2.2.2.2.2.1 _ List.mem_cons_self) tl) hR)
    · intro ad H locs cells slots ls hD hR
      have h2 := lvl_set (ad := ad) h1
      exact lv_astore_nN hx hb hd rfl hD.2.2.2.1 (hD.2.2.2.2.1 ▸ h2.2.1) rfl (fun ls' hl' => hK _ _ _ _ _ rfl h2.1 ad H locs cells slots ls' (hD.loc h1 hl' trivial tl) hR)
  · have en : n = 2 := by simpa [okI] using ho
    subst en
    have h : pA S (fun v S => sL L k v fun L => K (pc + 2) P L S M) := h
    rcases pA_inv h with ⟨c', i', T', rfl, h1⟩ | ⟨T', rfl, h1⟩
    · intro ad H locs cells slots ls hD hR
      have h2 := lvl_set (ad := ad) h1
      exact lv_astore hx hb hd hD.2.2.2.1 (hD.2.2.2.2.1 ▸ h2.2.1) rfl (fun ls' hl' => hK _ _ _ _ _ rfl h2.1 ad H locs cells slots ls' (hD.loc h1 hl' (hD.2.2.2.2.2.2.1 _ List.mem_cons_self) tl) hR)
    · intro ad H locs cells slots ls hD hR
      have h2 := lvl_set (ad := ad) h1
      exact lv_astoreN hx hb hd hD.2.2.2.1 (hD.2.2.2.2.1 ▸ h2.2.1) rfl (fun ls' hl' => hK _ _ _ _ _ rfl h2.1 ad H locs cells slots ls' (hD.loc h1 hl' trivial tl) hR)
  · have en : n = 1 := by simpa [okI] using ho
    subst en
    obtain ⟨x, T', rfl, h1⟩ := pI_inv h
    intro ad H locs cells slots ls hD hR
    have h2 := lvl_set (ad := ad) h1
    exact lv_istore_n hx hb hd rfl hD.2.2.2.1 (hD.2.2.2.2.1 ▸ h2.2.1) rfl (fun ls' hl' => hK _ _ _ _ _ rfl h2.1 ad H locs cells slots ls' (hD.loc h1 hl' trivial tl) hR)
  · have en : n = 2 := by simpa [okI] using ho
    subst en
    obtain ⟨x, T', rfl, h1⟩ := pI_inv h
    intro ad H locs cells slots ls hD hR
    have h2 := lvl_set (ad := ad) h1
    exact lv_istore hx hb hd hD.2.2.2.1 (hD.2.2.2.2.1 ▸ h2.2.1) rfl (fun ls' hl' => hK _ _ _ _ _ rfl h2.1 ad H locs cells slots ls' (hD.loc h1 hl' trivial tl) hR)
  · have en : n = 2 := by simpa [okI] using ho
    subst en
    obtain ⟨x, T', rfl, h1⟩ := pL_inv h
    intro ad H locs cells slots ls hD hR
    have h2 := lvl_set2 (ad := ad) h1
    refine lv_lstore hx hb hd hD.2.2.2.1 (hD.2.2.2.2.1 ▸ h2.2.1) rfl (fun ls' hl' => hK _ _ _ _ _ rfl h2.1 ad H locs cells slots ls' ?_ hR)
    obtain ⟨d1, d2, d3, d4, d5, d6, d7, d8, d9⟩ := hD
    refine ⟨d1, d2, d3, lvl_sub hl' h2.2.2, by rw [List.length_set, List.length_set]; exact d5, fun w hw => ?_, fun w hw => d7 w (tl w hw), d8, d9⟩
    rcases List.mem_or_eq_of_mem_set hw with hw | rfl
    · rcases List.mem_or_eq_of_mem_set hw with hw | rfl
      · exact d6 w hw
      · trivial
    · trivial
  · have en : n = 3 := by simpa [okI] using ho
    subst en
    obtain ⟨x, T', e1, h1⟩ := pI_inv h
    have e2 : gL L k = aI x := (List.cons.inj e1).1
    intro ad H locs cells slots ls hD hR
    have h2 := lvl_set (ad := ad) h1
    have hmem : (k, Value.int x) ∈ lvl ad 0 L := by
      have h3 : L[k]? = some (aI x) := by
        unfold gL at e2
        rw [List.getD_eq_getElem?_getD] at e2
        cases hq : L[k]? with
        | none => rw [hq] at e2; cases e2
        | some w => rw [hq] at e2; exact congrArg some e2
      exact lvl_mem.mpr ⟨k, aI x, h3, (by intro q; cases q), by simp [cv]⟩
    obtain ⟨j, hj⟩ := List.getElem?_of_mem hmem
    exact lv_iinc hx hb hd hD.2.2.2.1 (k := j) hj (by rw [cI_eq]) (hD.2.2.2.2.1 ▸ h2.2.1) rfl (fun ls' hl' => hK _ _ _ _ _ rfl h2.1 ad H locs cells slots ls' (hD.loc h1 hl' trivial (fun w hw => hw)) hR)
end STEP1
end
section
/-! ONE STEP: constants, arithmetic, branches, answers -/
section STEP2
variable {gl : Nat} {gx : Nat → Int32} {z : Nat} {D : va_G} {tA : Nat → ClassId} {l : Launch} {p : Program} {e : Env} {R : Room} {s : State} {m : MethodId} {args : Array Value} {below : List Frame} {meth : Method} {c : Code} {Zq : State → Prop} {r : MT} {Q : PO} {d : Nat}
variable {K J : Nat → PL → List AV → List AV → MM → Prop} {pc n : Nat} {P : PL} {L S T : List AV} {M : MM} {X : XT}
theorem go_row {pc' : Nat} (hc : Go gl gx z D tA l p e R s m args below meth c Zq r Q pc' P L T M) (hv : ∀ v ∈ T, v ∈ S ∨ okA M.2.2 v)
    (row : ∀ (H : Heap) (locs : List Loc) (cells slots : Nat) (ad : Nat → Nat → Nat) (ls : Array Slot), W p l e R s m args below meth c H locs cells slots Zq (F0 m pc' ls (T.map (cv ad))) → W p l e R s m args below meth c H locs cells slots Zq (F0 m pc ls (S.map (cv ad)))) :
    Go gl gx z D tA l p e R s m args below meth c Zq r Q pc P L S M := by
  intro ad H locs cells slots ls hD hR
  exact row H locs cells slots ad ls (hc ad H locs cells slots ls (hD.stk hv) hR)
theorem hv1 {lv : LV} {v : AV} {A B : List AV} (hA : ∀ w ∈ A, w ∈ B) (h : okA lv v) : ∀ w ∈ v :: A, w ∈ B ∨ okA lv w := fun w hw => (List.mem_cons.mp hw).elim (fun q => Or.inr (by rw [q]; exact h)) (fun q => Or.inl (hA w q))
theorem mem1 {v : AV} {A : List AV} : ∀ w ∈ A, w ∈ v :: A := fun _ h => List.mem_cons_of_mem _ h
theorem mem2 {u v : AV} {A : List AV} : ∀ w ∈ A, w ∈ u :: v :: A := fun _ h => List.mem_cons_of_mem _ (List.mem_cons_of_mem _ h)
theorem go_const {i : Instr} (C : Cx z D tA p R s m args meth c r d) (hK : ∀ pc' P L S M, pc' = pc + n → K pc' P L S M → Go gl gx z D tA l p e R s m args below meth c Zq r Q pc' P L S M) (hd : decode r.2.1 pc = .ok (i, n)) (ho : okI i pc n = true) (h : stepI gl gx X d r.2.2.2.2.2 r.2.2.2.1 r.2.2.2.2.1 r.1.cls Q K J i pc P L S M)
    (hi : (∃ k, i = .iconst k) ∨ (∃ k, i = .bipush k) ∨ (∃ k, i = .sipush k) ∨ (∃ k, i = .lconst k) ∨ i = .aconst_null) : Go gl gx z D tA l p e R s m args below meth c Zq r Q pc P L S M := by
  obtain ⟨hx, hb, -⟩ := C
  rcases hi with ⟨k, rfl⟩ | ⟨k, rfl⟩ | ⟨k, rfl⟩ | ⟨k, rfl⟩ | rfl
  · have en : n = 1 := by simpa [okI] using ho
    subst en
    exact go_row (hK _ _ _ _ _ rfl h) (hv1 (fun _ h => h) trivial) fun H locs cells slots ad ls w => lv_iconst hx hb hd (cI_eq k).symm w
  · simp only [okI, Bool.and_eq_true, beq_iff_eq, decide_eq_true_eq] at ho
    obtain ⟨rfl, ho⟩ := ho
    exact go_row (hK _ _ _ _ _ rfl h) (hv1 (fun _ h => h) trivial) fun H locs cells slots ad ls w => lv_bipush hx hb hd ho w
  · simp only [okI, Bool.and_eq_true, beq_iff_eq, decide_eq_true_eq] at ho
    obtain ⟨rfl, ho⟩ := ho
    exact go_row (hK _ _ _ _ _ rfl h) (hv1 (fun _ h => h) trivial) fun H locs cells slots ad ls w => lv_sipush hx hb hd ho w
  · have en : n = 1 := by simpa [okI] using ho
    subst en
    exact go_row (hK _ _ _ _ _ rfl h) (hv1 (fun _ h => h) trivial) fun H locs cells slots ad ls w => lv_lconst hx hb hd rfl w
  · have en : n = 1 := by simpa [okI] using ho
    subst en
    exact go_row (hK _ _ _ _ _ rfl h) (hv1 (fun _ h => h) trivial) fun H locs cells slots ad ls w => lv_null hx hb hd w
theorem go_arith {i : Instr} (C : Cx z D tA p R s m args meth c r d) (hK : ∀ pc' P L S M, pc' = pc + n → K pc' P L S M → Go gl gx z D tA l p e R s m args below meth c Zq r Q pc' P L S M) (hd : decode r.2.1 pc = .ok (i, n)) (ho : okI i pc n = true) (h : stepI gl gx X d r.2.2.2.2.2 r.2.2.2.1 r.2.2.2.2.1 r.1.cls Q K J i pc P L S M)
    (hi : i ∈ [Instr.iadd, .isub, .imul, .iand, .ior, .ixor, .ishl, .ishr, .iushr, .idiv, .irem, .ineg, .i2l, .i2b, .i2c, .lshl, .lor, .lcmp]) : Go gl gx z D tA l p e R s m args below meth c Zq r Q pc P L S M := by
  obtain ⟨hx, hb, -⟩ := C
  simp only [List.mem_cons, List.not_mem_nil, or_false] at hi
  rcases hi with rfl | rfl | rfl | rfl | rfl | rfl | rfl | rfl | rfl | rfl | rfl | rfl | rfl | rfl | rfl | rfl | rfl | rfl
  all_goals (have en : n = 1 := by simpa [okI] using ho)
  all_goals subst en
  · obtain ⟨y, T1, rfl, h⟩ := pI_inv h
    obtain ⟨x, T2, rfl, h⟩ := pI_inv h
    exact go_row (hK _ _ _ _ _ rfl h) (hv1 mem2 trivial) fun H locs cells slots ad ls w => lv_iadd hx hb hd w
  · obtain ⟨y, T1, rfl, h⟩ := pI_inv h
    obtain ⟨x, T2, rfl, h⟩ := pI_inv h
    exact go_row (hK _ _ _ _ _ rfl h) (hv1 mem2 trivial) fun H locs cells slots ad ls w => lv_isub hx hb hd w
  · obtain ⟨y, T1, rfl, h⟩ := pI_inv h
    obtain ⟨x, T2, rfl, h⟩ := pI_inv h
    exact go_row (hK _ _ _ _ _ rfl h) (hv1 mem2 trivial) fun H locs cells slots ad ls w => lv_imul hx hb hd w
  · obtain ⟨y, T1, rfl, h⟩ := pI_inv h
    obtain ⟨x, T2, rfl, h⟩ := pI_inv h
    exact go_row (hK _ _ _ _ _ rfl h) (hv1 mem2 trivial) fun H locs cells slots ad ls w => lv_iand hx hb hd w
  · obtain ⟨y, T1, rfl, h⟩ := pI_inv h
    obtain ⟨x, T2, rfl, h⟩ := pI_inv h
    exact go_row (hK _ _ _ _ _ rfl h) (hv1 mem2 trivial) fun H locs cells slots ad ls w => lv_ior hx hb hd w
  · obtain ⟨y, T1, rfl, h⟩ := pI_inv h
    obtain ⟨x, T2, rfl, h⟩ := pI_inv h
    exact go_row (hK _ _ _ _ _ rfl h) (hv1 mem2 trivial) fun H locs cells slots ad ls w => lv_ixor hx hb hd w
  · obtain ⟨y, T1, rfl, h⟩ := pI_inv h
    obtain ⟨x, T2, rfl, h⟩ := pI_inv h
    exact go_row (hK _ _ _ _ _ rfl h) (hv1 mem2 trivial) fun H locs cells slots ad ls w => lv_ishl hx hb hd w
  · obtain ⟨y, T1, rfl, h⟩ := pI_inv h
    obtain ⟨x, T2, rfl, h⟩ := pI_inv h
    exact go_row (hK _ _ _ _ _ rfl h) (hv1 mem2 trivial) fun H locs cells slots ad ls w => lv_ishr hx hb hd w
  · obtain ⟨y, T1, rfl, h⟩ := pI_inv h
    obtain ⟨x, T2, rfl, h⟩ := pI_inv h
    exact go_row (hK _ _ _ _ _ rfl h) (hv1 mem2 trivial) fun H locs cells slots ad ls w => lv_iushr hx hb hd rfl w
  · obtain ⟨y, T1, rfl, h⟩ := pI_inv h
    obtain ⟨x, T2, rfl, h⟩ := pI_inv h
    exact go_row (hK _ _ _ _ _ rfl h.2) (hv1 mem2 trivial) fun H locs cells slots ad ls w => lv_idiv hx hb hd h.1 w
  · obtain ⟨y, T1, rfl, h⟩ := pI_inv h
    obtain ⟨x, T2, rfl, h⟩ := pI_inv h
    exact go_row (hK _ _ _ _ _ rfl h.2) (hv1 mem2 trivial) fun H locs cells slots ad ls w => lv_irem hx hb hd h.1 w
  · obtain ⟨x, T2, rfl, h⟩ := pI_inv h
    exact go_row (hK _ _ _ _ _ rfl h) (hv1 mem1 trivial) fun H locs cells slots ad ls w => lv_ineg hx hb hd w
  · obtain ⟨x, T2, rfl, h⟩ := pI_inv h
    exact go_row (hK _ _ _ _ _ rfl h) (hv1 mem1 trivial) fun H locs cells slots ad ls w => lv_i2l hx hb hd rfl w
  · obtain ⟨x, T2, rfl, h⟩ := pI_inv h
    exact go_row (hK _ _ _ _ _ rfl h) (hv1 mem1 trivial) fun H locs cells slots ad ls w => lv_i2b hx hb hd rfl w
  · obtain ⟨x, T2, rfl, h⟩ := pI_inv h
    exact go_row (hK _ _ _ _ _ rfl h) (hv1 mem1 trivial) fun H locs cells slots ad ls w => lv_i2c hx hb hd rfl w
  · obtain ⟨y, T1, rfl, h⟩ := pI_inv h
    obtain ⟨x, T2, rfl, h⟩ := pL_inv h
    exact go_row (hK _ _ _ _ _ rfl h) (hv1 mem2 trivial) fun H locs cells slots ad ls w => lv_lshl hx hb hd rfl w
  · obtain ⟨y, T1, rfl, h⟩ := pL_inv h
    obtain ⟨x, T2, rfl, h⟩ := pL_inv h
    exact go_row (hK _ _ _ _ _ rfl h) (hv1 mem2 trivial) fun H locs cells slots ad ls w => lv_lor hx hb hd w
  · obtain ⟨y, T1, rfl, h⟩ := pL_inv h
    obtain ⟨x, T2, rfl, h⟩ := pL_inv h
    exact go_row (hK _ _ _ _ _ rfl h) (hv1 mem2 trivial) fun H locs cells slots ad ls w => W.lcmp hx hb hd w
theorem tg_eq {off : Int} (h : 0 ≤ (pc : Int) + off) : (pc : Int) + off = ((tg pc off : Nat) : Int) := by
  cases off with
  | ofNat n => show (pc : Int) + (n : Int) = ((pc + n : Nat) : Int); omega
  | negSucc n => show (pc : Int) + Int.negSucc n = ((pc - (n + 1) : Nat) : Int); omega
theorem go_branch {i : Instr} (C : Cx z D tA p R s m args meth c r d) (hK : ∀ pc' P L S M, pc' = pc + n → K pc' P L S M → Go gl gx z D tA l p e R s m args below meth c Zq r Q pc' P L S M) (hJ : ∀ pc P L S M, J pc P L S M → Go gl gx z D tA l p e R s m args below meth c Zq r Q pc P L S M) (hd : decode r.2.1 pc = .ok (i, n)) (ho : okI i pc n = true) (h : stepI gl gx X d r.2.2.2.2.2 r.2.2.2.1 r.2.2.2.2.1 r.1.cls Q K J i pc P L S M)
    (hi : (∃ o, i = .goto o) ∨ (∃ q o, i = .if_icmp q o) ∨ (∃ q o, i = .ifCond q o) ∨ (∃ o, i = .ifnull o) ∨ (∃ o, i = .ifnonnull o)) : Go gl gx z D tA l p e R s m args below meth c Zq r Q pc P L S M := by
  obtain ⟨hx, hb, -⟩ := C
  rcases hi with ⟨o, rfl⟩ | ⟨q, o, rfl⟩ | ⟨q, o, rfl⟩ | ⟨o, rfl⟩ | ⟨o, rfl⟩
  all_goals simp only [okI, Bool.and_eq_true, beq_iff_eq, decide_eq_true_eq] at ho
  all_goals obtain ⟨rfl, ho⟩ := ho
  · exact go_row (hJ _ _ _ _ _ h) (fun v hv => Or.inl hv) fun H locs cells slots ad ls w => lv_goto hx hb hd (tg_eq ho) w
  · obtain ⟨y, T1, rfl, h⟩ := pI_inv h
    obtain ⟨x, T2, rfl, h⟩ := pI_inv h
    intro ad H locs cells slots ls hD hR
    have hD2 := hD.stk (T := T2) (fun v hv => Or.inl (mem2 v hv))
    have tJ := fun (a : J (tg pc o) P L T2 M) => hJ _ _ _ _ _ a ad H locs cells slots ls hD2 hR
    have tK := fun (a : K (pc + 3) P L T2 M) => hK _ _ _ _ _ rfl a ad H locs cells slots ls hD2 hR
    cases q with
    | eq => exact lv_icmp_eq hx hb hd (tg_eq ho) (fun a => tJ (h.1 a)) (fun a => tK (h.2 a))
    | ne => exact lv_icmp_ne hx hb hd (tg_eq ho) (fun a => tJ (h.1 a)) (fun a => tK (h.2 a))
    | lt => exact lv_icmp_lt hx hb hd (tg_eq ho) (fun a => tJ (h.1 a)) (fun a => tK (h.2 a))
    | ge => exact lv_icmp_ge hx hb hd (tg_eq ho) (fun a => tJ (h.1 a)) (fun a => tK (h.2 a))
    | gt => exact lv_icmp_gt hx hb hd (tg_eq ho) (fun a => tJ (h.1 a)) (fun a => tK (h.2 a))
    | le => exact lv_icmp_le hx hb hd (tg_eq ho) (fun a => tJ (h.1 a)) (fun a => tK (h.2 a))
  · obtain ⟨x, T2, rfl, h⟩ := pI_inv h
    intro ad H locs cells slots ls hD hR
    have hD2 := hD.stk (T := T2) (fun v hv => Or.inl (mem1 v hv))
    have tJ := fun (a : J (tg pc o) P L T2 M) => hJ _ _ _ _ _ a ad H locs cells slots ls hD2 hR
    have tK := fun (a : K (pc + 3) P L T2 M) => hK _ _ _ _ _ rfl a ad H locs cells slots ls hD2 hR
    cases q with
    | eq => exact lv_if_eq hx hb hd (tg_eq ho) (fun a => tJ (h.1 a)) (fun a => tK (h.2 a))
    | ne => exact lv_if_ne hx hb hd (tg_eq ho) (fun a => tJ (h.1 a)) (fun a => tK (h.2 a))
    | lt => exact lv_if_lt hx hb hd (tg_eq ho) (fun a => tJ (h.1 a)) (fun a => tK (h.2 a))
    | ge => exact lv_if_ge hx hb hd (tg_eq ho) (fun a => tJ (h.1 a)) (fun a => tK (h.2 a))
    | gt => exact lv_if_gt hx hb hd (tg_eq ho) (fun a => tJ (h.1 a)) (fun a => tK (h.2 a))
    | le => exact lv_if_le hx hb hd (tg_eq ho) (fun a => tJ (h.1 a)) (fun a => tK (h.2 a))
  · have h : pN S (fun S => K (pc + 3) P L S M) (fun S => J (tg pc o) P L S M) := h
    unfold pN at h
    split at h
    · exact go_row (hK _ _ _ _ _ rfl h) (fun v hv => Or.inl (mem1 v hv)) fun H locs cells slots ad ls w => lv_ifnull hx hb hd w
    · exact go_row (hJ _ _ _ _ _ h) (fun v hv => Or.inl (mem1 v hv)) fun H locs cells slots ad ls w => lv_ifnullN hx hb hd (tg_eq ho) w
    · exact h.elim
  · have h : pN S (fun S => J (tg pc o) P L S M) (fun S => K (pc + 3) P L S M) := h
    unfold pN at h
    split at h
    · exact go_row (hJ _ _ _ _ _ h) (fun v hv => Or.inl (mem1 v hv)) fun H locs cells slots ad ls w => lv_ifnonnull hx hb hd (tg_eq ho) w
    · exact go_row (hK _ _ _ _ _ rfl h) (fun v hv => Or.inl (mem1 v hv)) fun H locs cells slots ad ls w => lv_ifnonnullN hx hb hd w
    · exact h.elim
theorem swT_at {x : Int32} {J : Nat → Prop} : ∀ {os : List Int} {lo : Int} {k : Nat} {o : Int}, swT x pc J lo os → os[k]? = some o → x = cI (lo + k) → J (tg pc o) := by
  intro os
  induction os with
  | nil => intro lo k o _ h; simp at h
  | cons a os ih =>
    intro lo k o h hk hx
    cases k with
    | zero =>
      have : a = o := by simpa using hk
      subst this
      exact h.1 (by simpa using hx)
    | succ k => exact ih h.2 (by simpa using hk) (by rw [hx]; congr 1; omega)
theorem swL_at {x : Int32} {J : Nat → Prop} {dflt : Int} : ∀ {os : List (Int × Int)}, (∀ q ∈ os, (cI q.1).toInt = q.1) → swL x pc J dflt os → J (tg pc (Op.lookupswitch.offset os dflt x.toInt)) := by
  intro os
  induction os with
  | nil => intro _ h; exact h
  | cons a os ih =>
    intro hq h
    obtain ⟨v, o⟩ := a
    by_cases hx : x = cI v
    · have := h.1 hx
      have e : x.toInt = v := by rw [hx]; exact hq (v, o) List.mem_cons_self
      simp only [Op.lookupswitch.offset, e]
      simpa using this
    · have h2 := ih (fun q hm => hq q (List.mem_cons_of_mem _ hm)) (h.2 hx)
      have e : ¬ x.toInt = v := by
        intro e
        apply hx
        rw [cI_eq, ← e]
        simp
      have e' : ¬ v = x.toInt := fun q => e q.symm
      have : Op.lookupswitch.offset ((v, o) :: os) dflt x.toInt = Op.lookupswitch.offset os dflt x.toInt := by
        simp [Op.lookupswitch.offset, List.find?, e, e']
      rw [this]
      exact h2
theorem go_switch {i : Instr} (C : Cx z D tA p R s m args meth c r d) (hJ : ∀ pc P L S M, J pc P L S M → Go gl gx z D tA l p e R s m args below meth c Zq r Q pc P L S M) (hd : decode r.2.1 pc = .ok (i, n)) (ho : okI i pc n = true) (h : stepI gl gx X d r.2.2.2.2.2 r.2.2.2.1 r.2.2.2.2.1 r.1.cls Q K J i pc P L S M)
    (hi : (∃ o lo hi os, i = .tableswitch o lo hi os) ∨ (∃ o ps, i = .lookupswitch o ps)) : Go gl gx z D tA l p e R s m args below meth c Zq r Q pc P L S M := by
  obtain ⟨hx, hb, -⟩ := C
  rcases hi with ⟨o, lo, hi, os, rfl⟩ | ⟨o, ps, rfl⟩
  · simp only [okI, Bool.and_eq_true, decide_eq_true_eq] at ho
    obtain ⟨⟨⟨ho1, ho2⟩, ho3⟩, ho4, ho5⟩ := ho
    obtain ⟨x, T2, rfl, h⟩ := pI_inv h
    obtain ⟨h1, h2⟩ := h
    intro ad H locs cells slots ls hD hR
    have hD2 := hD.stk (T := T2) (fun v hv => Or.inl (mem1 v hv))
    have tJ := fun {t : Nat} (a : J t P L T2 M) => hJ _ _ _ _ _ a ad H locs cells slots ls hD2 hR
    by_cases ha : x.toInt < lo
    · exact lv_tableOut hx hb hd (Or.inl ha) (tg_eq ho1) (tJ (h1 (Or.inl (Int32.lt_iff_toInt_lt.mpr (by rw [ho4]; exact ha)))))
    · by_cases hb2 : hi < x.toInt
      · exact lv_tableOut hx hb hd (Or.inr hb2) (tg_eq ho1) (tJ (h1 (Or.inr (Int32.lt_iff_toInt_lt.mpr (by rw [ho5]; exact hb2)))))
      · have hlt : (x.toInt - lo).toNat < os.toList.length := by omega
        obtain ⟨off, hoff⟩ : ∃ off, os.toList[(x.toInt - lo).toNat]? = some off := ⟨_, List.getElem?_eq_getElem hlt⟩
        have hoff2 : os[(x.toInt - lo).toNat]? = some off := by rw [← Array.getElem?_toList]; exact hoff
        have hnn := of_decide_eq_true (List.all_eq_true.mp ho2 off (List.mem_of_getElem? hoff))
        refine lv_tableIn hx hb hd ha hb2 hoff2 (tg_eq hnn) (tJ (swT_at (J := fun t => J t P L T2 M) h2 hoff ?_))
        rw [cI_eq, show lo + ((x.toInt - lo).toNat : Int) = x.toInt by omega]
        simp
  · simp only [okI, Bool.and_eq_true, decide_eq_true_eq, List.all_eq_true] at ho
    obtain ⟨⟨ho1, ho2⟩, ho3⟩ := ho
    obtain ⟨x, T2, rfl, h⟩ := pI_inv h
    intro ad H locs cells slots ls hD hR
    have hD2 := hD.stk (T := T2) (fun v hv => Or.inl (mem1 v hv))
    refine lv_lookup hx hb hd (List.all_eq_true.mpr fun x hx => by obtain ⟨⟨a, b⟩, ⟨c, d⟩⟩ := x; exact decide_eq_true (ho3 _ hx)) rfl (tg_eq ?_) (hJ _ _ _ _ _ (swL_at (J := fun t => J t P L T2 M) (fun q hq => (ho2 q hq).2) h) ad H locs cells slots ls hD2 hR)
    have key : ∀ os : List (Int × Int), (∀ q ∈ os, 0 ≤ (pc : Int) + q.2) → 0 ≤ (pc : Int) + Op.lookupswitch.offset os o x.toInt := by
      intro os
      induction os with
      | nil => intro _; exact ho1
      | cons a os ih =>
        intro hq
        obtain ⟨v, o'⟩ := a
        by_cases e : v = x.toInt
        · simp only [Op.lookupswitch.offset, e]
          simpa using hq (v, o') List.mem_cons_self
        · have e' : ¬ x.toInt = v := fun q => e q.symm
          have : Op.lookupswitch.offset ((v, o') :: os) o x.toInt = Op.lookupswitch.offset os o x.toInt := by
            simp [Op.lookupswitch.offset, List.find?, e, e']
          rw [this]
          exact ih (fun q hm => hq q (List.mem_cons_of_mem _ hm))
    exact key ps.toList (fun q hq => (ho2 q hq).1)
end STEP2
end
section
/-! ONE STEP: stack, constants of the pool, statics, fields -/
section STEP3
variable {gl : Nat} {gx : Nat → Int32} {z : Nat} {D : va_G} {tA : Nat → ClassId} {l : Launch} {p : Program} {e : Env} {R : Room} {s : State} {m : MethodId} {args : Array Value} {below : List Frame} {meth : Method} {c : Code} {Zq : State → Prop} {r : MT} {Q : PO} {d : Nat}
variable {K J : Nat → PL → List AV → List AV → MM → Prop} {pc n : Nat} {P : PL} {L S T : List AV} {M : MM} {X : XT}
theorem pV_inv {S : List AV} {f : AV → List AV → Prop} (h : pV S f) : ∃ v T, S = v :: T ∧ f v T := by
  unfold pV at h
  split at h
  · exact ⟨_, _, rfl, h⟩
  · exact h.elim
theorem pK_inv {α : Type} {t : List (Nat × α)} {k : Nat} {f : α → Prop} (h : pK t k f) : ∃ v, (k, v) ∈ t ∧ f v := by
  unfold pK at h
  split at h
  · rename_i v hv
    refine ⟨v, ?_, h⟩
    clear h
    induction t with
    | nil => cases hv
    | cons a t ih =>
      obtain ⟨k', v'⟩ := a
      by_cases hk : k = k'
      · subst hk
        simp [List.lookup] at hv
        subst hv
        exact List.mem_cons_self
      · have hk2 : (k == k') = false := by simpa using hk
        simp [List.lookup, hk2] at hv
        exact List.mem_cons_of_mem _ (ih hv)
  · exact h.elim
theorem pB_inv {b : Bool} {A : Prop} (h : pB b A) : b = true ∧ A := by
  unfold pB at h
  split at h
  · exact ⟨rfl, h⟩
  · exact h.elim
theorem pO_inv {α : Type} {o : Option α} {f : α → Prop} (h : pO o f) : ∃ v, o = some v ∧ f v := by
  unfold pO at h
  split at h
  · exact ⟨_, rfl, h⟩
  · exact h.elim
theorem pP_inv {P : PL} {f : Nat → Nat → PL → Prop} (h : pP P f) : ∃ c i P', P = (c, i) :: P' ∧ f c i P' := by
  unfold pP at h
  split at h
  · rename_i q P'
    exact ⟨q.1, q.2, P', rfl, h⟩
  · exact h.elim
theorem pD_inv {d : Nat} {f : Nat → Prop} (h : pD d f) : ∃ d', d = d' + 1 ∧ f d' := by
  unfold pD at h
  split at h
  · exact h.elim
  · exact ⟨_, rfl, h⟩
theorem go_stack {i : Instr} (C : Cx z D tA p R s m args meth c r d) (hK : ∀ pc' P L S M, pc' = pc + n → K pc' P L S M → Go gl gx z D tA l p e R s m args below meth c Zq r Q pc' P L S M) (hd : decode r.2.1 pc = .ok (i, n)) (ho : okI i pc n = true) (h : stepI gl gx X d r.2.2.2.2.2 r.2.2.2.1 r.2.2.2.2.1 r.1.cls Q K J i pc P L S M)
    (hi : i = .dup ∨ i = .dup2 ∨ i = .pop) : Go gl gx z D tA l p e R s m args below meth c Zq r Q pc P L S M := by
  obtain ⟨hx, hb, -⟩ := C
  rcases hi with rfl | rfl | rfl
  all_goals (have en : n = 1 := by simpa [okI] using ho)
  all_goals subst en
  · have g : pV S (fun v S => p1 v fun v => K (pc + 1) P L (v :: v :: S) M) := h
    clear h
    obtain ⟨v, T1, rfl, g1⟩ := pV_inv g
    obtain ⟨g2, -, hc⟩ := p1_inv g1
    exact go_row (hK _ _ _ _ _ rfl g2) (fun w hw => Or.inl ((List.mem_cons.mp hw).elim (fun q => q ▸ List.mem_cons_self) id)) fun H locs cells slots ad ls w => lv_dup hx hb hd (hc ad) w
  · have g : pV S (fun w S => pV S fun v S => p1 w fun w => p1 v fun v => K (pc + 1) P L (w :: v :: w :: v :: S) M) := h
    clear h
    obtain ⟨w, T1, rfl, g1⟩ := pV_inv g
    obtain ⟨v, T2, rfl, g2⟩ := pV_inv g1
    obtain ⟨g3, -, hw⟩ := p1_inv g2
    obtain ⟨g4, -, hv⟩ := p1_inv g3
    exact go_row (hK _ _ _ _ _ rfl g4) (fun u hu => Or.inl (by
      rcases List.mem_cons.mp hu with rfl | hu
      · exact List.mem_cons_self
      · rcases List.mem_cons.mp hu with rfl | hu
        · exact mem1 _ List.mem_cons_self
        · exact hu)) fun H locs cells slots ad ls k => lv_dup2_11 hx hb hd (hw ad) (hv ad) k
  · have g : pV S (fun v S => p1 v fun _ => K (pc + 1) P L S M) := h
    clear h
    obtain ⟨v, T1, rfl, g1⟩ := pV_inv g
    obtain ⟨g2, -, hc⟩ := p1_inv g1
    exact go_row (hK _ _ _ _ _ rfl g2) (fun w hw => Or.inl (mem1 w hw)) fun H locs cells slots ad ls w => lv_pop hx hb hd (hc ad) w
theorem word_of {w : Cond} {q : Nat × Nat} (hw : ∀ w ∈ lw_g, w.before args s = true) (h : inT w q = true) (hg : goodWord w = true) : w.before args s = true := hw _ (lw_g_of (inT_mem h) hg)
theorem go_pool {i : Instr} (C : Cx z D tA p R s m args meth c r d) (hK : ∀ pc' P L S M, pc' = pc + n → K pc' P L S M → Go gl gx z D tA l p e R s m args below meth c Zq r Q pc' P L S M) (hd : decode r.2.1 pc = .ok (i, n)) (ho : okI i pc n = true) (h : stepI gl gx X d r.2.2.2.2.2 r.2.2.2.1 r.2.2.2.2.1 r.1.cls Q K J i pc P L S M)
    (hi : (∃ k, i = .ldc k) ∨ (∃ k, i = .ldc_w k) ∨ (∃ k, i = .ldc2_w k) ∨ (∃ k, i = .getstatic k)) : Go gl gx z D tA l p e R s m args below meth c Zq r Q pc P L S M := by
  obtain ⟨hx, hb, -, hown, hw, -, -, -, -, -, -, -, hk, -, -, hs⟩ := C
  rcases hi with ⟨k, rfl⟩ | ⟨k, rfl⟩ | ⟨k, rfl⟩ | ⟨k, rfl⟩
  · have en : n = 2 := by simpa [okI] using ho
    subst en
    obtain ⟨v, hm, h1⟩ := pK_inv h
    obtain ⟨h2, hu, -⟩ := p1_inv h1
    obtain ⟨q, hq⟩ := hk _ hm
    clear h
    match v, hq, h1, h2 with
    | .inl x, hq, _, h => exact go_row (hK _ _ _ _ _ rfl h) (hv1 (fun _ h => h) trivial) fun H locs cells slots ad ls w => lv_ldc hx hb hown (word_of hw hq rfl) hd w
    | .inr (.inr (.inl q)), hq, _, h =>
      obtain ⟨qc, qi⟩ := q
      change stK r.1.cls k (aR qc qi) = true at hq
      simp only [stK, Bool.and_eq_true, decide_eq_true_eq, beq_iff_eq] at hq
      obtain ⟨⟨⟨e1, e2⟩, e3⟩, e4⟩ := hq
      have e2 : qc = 16 := Nat.eq_of_beq_eq_true e2
      have e3 : qi < 13 := Nat.le_of_ble_eq_true e3
      subst e2; subst e4
      intro ad H locs cells slots ls hD hR
      have hZ := hD.1.2.2.2.1 qi e3
      rw [← e1] at hZ
      exact va_ldcS hx hb hown hZ hd (hK _ _ _ _ _ rfl h ad H locs cells slots ls (hD.stk (hv1 (fun _ h => h) (Or.inr (stv_16 e3).1))) hR)
    | .inr (.inl x), hq, h1, h => exact h1.elim
    | .inr (.inr (.inr b)), hq, _, h => cases hq
  · have en : n = 3 := by simpa [okI] using ho
    subst en
    obtain ⟨v, hm, h1⟩ := pK_inv h
    obtain ⟨x, T1, e1, h⟩ := pI_inv h1
    obtain rfl : v = aI x := (List.cons.inj e1).1
    obtain ⟨q, hq⟩ := hk _ hm
    exact go_row (hK _ _ _ _ _ rfl h) (hv1 (fun _ h => h) trivial) fun H locs cells slots ad ls w => lv_ldcw hx hb hown (word_of hw hq rfl) hd w
  · have en : n = 3 := by simpa [okI] using ho
    subst en
    obtain ⟨v, hm, h1⟩ := pK_inv h
    obtain ⟨x, T1, e1, h⟩ := pL_inv h1
    obtain rfl : v = aL x := (List.cons.inj e1).1
    obtain ⟨q, hq⟩ := hk _ hm
    exact go_row (hK _ _ _ _ _ rfl h) (hv1 (fun _ h => h) trivial) fun H locs cells slots ad ls w => lv_ldc2 hx hb hown (word_of hw hq rfl) hd w
  · have en : n = 3 := by simpa [okI] using ho
    subst en
    obtain ⟨v, hm, h1⟩ := pK_inv h
    obtain ⟨h2, hu, -⟩ := p1_inv h1
    obtain ⟨q, hq⟩ := hs _ hm
    clear h
    match v, hq, h2 with
    | .inl x, hq, h =>
      change (inT (.fieldLink r.1.cls k "java/lang/String" "COMPACT_STRINGS" "Z") q && decide (x = 1)) = true at hq
      simp only [Bool.and_eq_true, decide_eq_true_eq] at hq
      obtain ⟨hq, rfl⟩ := hq
      intro ad H locs cells slots ls hD hR
      exact va_gets hx hb hD.1.2.2.2.2.1 hD.2.1 hown (word_of hw hq rfl) (fun _ h => h) hd (hK _ _ _ _ _ rfl h ad H locs cells slots ls (hD.stk (hv1 (fun _ h => h) trivial)) hR)
    | .inr (.inr (.inl q')), hq, h =>
      obtain ⟨qc, qi⟩ := q'
      change (inT (.fieldLink r.1.cls k "StencilHouse$Reader" (stN.getD (qc - 12) "") "[I") q && Nat.ble 12 qc && Nat.ble qc 15 && (qi == 0)) = true at hq
      simp only [Bool.and_eq_true, beq_iff_eq] at hq
      obtain ⟨⟨⟨hq, e1⟩, e2⟩, rfl⟩ := hq
      have e1 : 12 ≤ qc := Nat.le_of_ble_eq_true e1
      have e2 : qc ≤ 15 := Nat.le_of_ble_eq_true e2
      have hl : ∃ t, sta qc = some t := by
        rcases (show qc = 12 ∨ qc = 13 ∨ qc = 14 ∨ qc = 15 by omega) with rfl | rfl | rfl | rfl <;> exact ⟨_, rfl⟩
      have hst : stv qc 0 = true := by
        rcases (show qc = 12 ∨ qc = 13 ∨ qc = 14 ∨ qc = 15 by omega) with rfl | rfl | rfl | rfl <;> rfl
      obtain ⟨t, ht⟩ := hl
      intro ad H locs cells slots ls hD hR
      exact va_gets hx hb (hD.1.2.1 qc t ht).1 hD.2.1 hown (word_of hw hq rfl) (fun _ h => h) hd (hK _ _ _ _ _ rfl h ad H locs cells slots ls (hD.stk (hv1 (fun _ h => h) (Or.inr hst))) hR)
    | .inr (.inl x), hq, h => cases hq
    | .inr (.inr (.inr b)), hq, h => cases hq
end STEP3
end
section
/-! ONE STEP: objects' places and arrays' -/
section STEP4
variable {gl : Nat} {gx : Nat → Int32} {z : Nat} {D : va_G} {tA : Nat → ClassId} {l : Launch} {p : Program} {e : Env} {R : Room} {s : State} {m : MethodId} {args : Array Value} {below : List Frame} {meth : Method} {c : Code} {Zq : State → Prop} {r : MT} {Q : PO} {d : Nat}
variable {K J : Nat → PL → List AV → List AV → MM → Prop} {pc n : Nat} {P : PL} {L S T : List AV} {M : MM} {X : XT}
theorem cellR.congr {ad : Nat → Nat → Nat} {M M1 : MM} {H H1 : Heap} {k i : Nat} (h : cellR D tA ad M H k i) (hq : H1[ad k i]? = H[ad k i]?) (hm : ∀ j, mv ad M1 k i j = mv ad M k i j) : cellR D tA ad M1 H1 k i := by
  have hf : (fun j => mv ad M1 k i j) = fun j => mv ad M k i j := funext hm
  unfold cellR at h ⊢
  rw [hf]
  split at h
  · obtain ⟨q, h1, h2⟩ := h
    exact ⟨q, h1, hq.trans h2⟩
  · obtain ⟨q, h1, h2⟩ := h
    exact ⟨q, h1, h2.kept hq⟩
/-- one object is written -/
theorem Rep.put {ad : Nat → Nat → Nat} {M M1 : MM} {H H1 : Heap} {k i : Nat} (h : Rep D tA z ad M H) (hl : M.2.2 k i = true) (e2 : M1.2.2 = M.2.2) (e0 : ∀ k' i' j, ¬ (k' = k ∧ i' = i) → M1.1 k' i' j = M.1 k' i' j ∧ M1.2.1 k' i' j = M.2.1 k' i' j)
    (hok : ∀ j, j < sz1 k → okA M.2.2 (M1.2.1 k i j)) (hq : ∀ q, q ≠ ad k i → H1[q]? = H[q]?) (hc : cellR D tA ad M1 H1 k i) : Rep D tA z ad M1 H1 := by
  obtain ⟨h1, h2, h3⟩ := h
  refine ⟨fun k' i' hl' => ?_, ?_, ?_⟩
  · rw [e2] at hl'
    obtain ⟨g1, g2, g3⟩ := h1 k' i' hl'
    refine ⟨g1, g2, ?_⟩
    by_cases hkk : k' = k ∧ i' = i
    · rw [hkk.1, hkk.2]; exact hc
    · refine g3.congr (hq _ fun e => hkk (h2 k' i' k i hl' hl e)) fun j => ?_
      unfold mv
      rw [(e0 k' i' j hkk).1, (e0 k' i' j hkk).2]
  · rw [e2]; exact h2
  · rw [e2]
    intro k' i' j hl' hj
    by_cases hkk : k' = k ∧ i' = i
    · rw [hkk.1] at hj ⊢; rw [hkk.2]; exact hok j hj
    · rw [(e0 k' i' j hkk).2]; exact h3 k' i' j hl' hj
theorem u3_self {α : Type} {f : Nat → Nat → Nat → α} {c i k : Nat} {v : α} : u3 f c i k v c i k = v := by simp [u3]
theorem u3_at {α : Type} {f : Nat → Nat → Nat → α} {c i k j : Nat} {v : α} : u3 f c i k v c i j = if j = k then v else f c i j := by simp [u3]
theorem u3_ne {α : Type} {f : Nat → Nat → Nat → α} {c i k c' i' k' : Nat} {v : α} (h : ¬ (c' = c ∧ i' = i)) : u3 f c i k v c' i' k' = f c' i' k' := by
  unfold u3
  rw [if_neg]
  exact fun q => h ⟨q.1, q.2.1⟩
theorem sz1_cl {k : Nat} {q : vw_C} (hcq : classes[k]? = some q) : sz1 k = q.2.2 := by
  have hk11 : k < 11 := (List.getElem?_eq_some_iff.mp hcq).1
  have hb20 : Nat.ble 20 k = false := by
    rcases hq' : Nat.ble 20 k with _ | _
    · rfl
    · have := Nat.le_of_ble_eq_true hq'
      omega
  unfold sz1
  rw [hb20]
  show (classes.getD k _).2.2 = _
  rw [List.getD_eq_getElem?_getD, hcq]
  rfl
theorem row_get (C : Cx z D tA p R s m args meth c r d) {H : Heap} {locs : List Loc} {cells slots a k j idx : Nat} {V : Nat → Value} {ls : Array Slot} {rest : List Value} {q : vw_C} (hcq : classes[k]? = some q) (ht : t_OB a (D.1 k) q.2.2 (D.2 k) H V) (hk : j < q.2.2) (hlink : (Cond.fieldLink r.1.cls idx q.1 (q.2.1 j).2.1 (q.2.1 j).2.2.1).before args s = true) (hself : (q.2.1 j).1 = q.1) (hd : decode r.2.1 pc = .ok (.getfield idx, 3))
    (kk : W p l e R s m args below meth c H locs cells slots Zq (F0 m (pc + 3) ls (V j :: rest))) : W p l e R s m args below meth c H locs cells slots Zq (F0 m pc ls (.ref a :: rest)) := by
  obtain ⟨hx, hb, -, hown, hw, -, hkf, -⟩ := C
  obtain ⟨C0, T0, N0⟩ := q
  refine va_get (D := D) (cl := classes) (tys := []) (ws := [(a, .inr (k, (List.range N0).map V))]) (C := C0) (T := T0) (N := N0) (ref := C0) hx hb hw (uwg k _ hcq) hown hkf.1 ?_ 0 rfl hcq j hk hlink (fun x h9 => by have e9 : (T0 j).1 = C0 := hself; rw [e9] at h9; exact h9) (v := V j) ?_ hd kk
  · intro k' q' h'
    cases k' with
    | zero =>
      cases h'
      exact ⟨_, hcq, ht.to fun j hj => by simp [vp_V, hj]⟩
    | succ k' => simp at h'
  · simp only [] at hk
    simp [hk]
theorem row_put (C : Cx z D tA p R s m args meth c r d) {H : Heap} {locs : List Loc} {cells slots a k j idx : Nat} {V : Nat → Value} {ls : Array Slot} {rest : List Value} {q : vw_C} (hS : va_S (aA z) s.heap H locs) (ha : z ≤ a) (hcq : classes[k]? = some q) (ht : t_OB a (D.1 k) q.2.2 (D.2 k) H V) (hk : j < q.2.2) (hlink : (Cond.fieldLink r.1.cls idx q.1 (q.2.1 j).2.1 (q.2.1 j).2.2.1).before args s = true) (hself : (q.2.1 j).1 = q.1)
    (hfin : (q.2.1 j).2.2.2 = true → r.1.name = "<init>" ∧ q.1 = r.1.cls) {ty : FieldType} {v : Value} (hdc : parseFieldDescriptor (q.2.1 j).2.2.1 = some ty) (hn : narrow ty v = v) (hfit : fits ty v = true) (hd : decode r.2.1 pc = .ok (.putfield idx, 3))
    (kk : ∀ (H1 : Heap) (locs1 : List Loc), t_OB a (D.1 k) q.2.2 (D.2 k) H1 (updV V j v) → (∀ x, x ≠ a → H1[x]? = H[x]?) → va_S (aA z) s.heap H1 locs1 → W p l e R s m args below meth c H1 locs1 cells slots Zq (F0 m (pc + 3) ls rest)) : W p l e R s m args below meth c H locs cells slots Zq (F0 m pc ls (v :: .ref a :: rest)) := by
  obtain ⟨hx, hb, -, hown, hw, hini, hkf, -⟩ := C
  obtain ⟨C0, T0, N0⟩ := q
  have hap := va_apart (own := r.1.cls) hw (uwg k _ hcq) (ftk k) (tyg k _ hcq) (nmg k _ hcq) hkf.1 hcq
  obtain ⟨cell, q1, q2, q3, q4⟩ := ht
  obtain ⟨hSl, hfc, kC, hkC, hkind⟩ := hkf.1.1 k _ hcq
  obtain ⟨cf, kf, fi, f, hi, hsl⟩ := hSl j hk
  have hlay := hw _ (uwg k _ hcq _ (u_in_lay hk))
  have hst := (u_facts hfc hkC (u_lays hw (uwg k _ hcq) hk) hi).1
  have hi2 : s.fieldFound? C0 (T0 j).2.1 (T0 j).2.2.1 = some (cf, kf, fi, f) := by rw [show (T0 j).1 = C0 from hself] at hi; exact hi
  by_cases hf : (T0 j).2.2.2 = true
  · obtain ⟨hn1, hn2⟩ := hfin hf
    have h6 := u_fits hfc hkC hkind (u_lays hw (uwg k _ hcq) hk) hi hdc hn hfit
    unfold u_lay at hlay
    rw [if_pos hf] at hlay
    have hcf : m.cls = cf := by
      obtain ⟨_, _, c', _, _, _, -, -, hf', -, -, -, hown2, -⟩ := Cond.laysFinal_spec hlay
      have e1 : c' = cf := by have := hi.symm.trans hf'; simp at this; exact this.1.symm
      rw [show (T0 j).1 = r.1.cls from hself.trans hn2] at hown2
      rw [← e1]; exact Option.some.inj (hown.symm.trans hown2)
    refine W.putFinK hx hb hown hlink hi2 hst hcf (hini hn1) (by rw [q2]; exact h6) q1 q3 (by rw [hsl]; exact k2_hasslot (q4 j hk)) rfl rfl hd fun H' e1 e2 e3 => ?_
    rw [hsl] at e1 ⊢
    exact kk H' _ ⟨_, e1, q2, q3, t_set q4 hap hk v⟩ e3 (hS.put e2 e3 ha)
  · have hf : (T0 j).2.2.2 = false := by simpa using hf
    unfold u_lay at hlay
    rw [if_neg (by rw [hf]; decide)] at hlay
    have h6 := u_store hfc hkC hkind hlay hi hdc hn hfit
    refine W.putK hx hb (f := f) ⟨hown, hlink, ⟨_, _, _, hi2⟩, hst⟩ (by rw [q2]; exact h6) q1 q3 (by rw [hsl]; exact k2_hasslot (q4 j hk)) rfl rfl hd fun H' e1 e2 e3 => ?_
    rw [hsl] at e1 ⊢
    exact kk H' _ ⟨_, e1, q2, q3, t_set q4 hap hk v⟩ e3 (hS.put e2 e3 ha)
theorem mem_single {D : va_G} {cl : List vw_C} {q : Nat × va_E} {H : Heap} (h : va_at D cl q H) : va_P D cl [q] H := by
  intro k q' h'
  cases k with
  | zero => cases h'; exact h
  | succ k => simp at h'
/-- an array as the kit has it -/
theorem ar_I {ad : Nat → Nat → Nat} {H : Heap} {k i : Nat} {q : FieldType × Nat} (hk : ak k = some q) (h : cellR D tA ad M H k i) (hI : isIT q.1 = true) : va_P D classes [(ad k i, .inl (tA k, q.2, .inl (M.1 k i)))] H := by
  have hb : Nat.ble 20 k = true := by
    unfold ak at hk
    split at hk
    · assumption
    · cases hk
  unfold cellR at h
  rw [hb] at h
  obtain ⟨q', e1, e2⟩ := h
  cases e1.symm.trans hk
  have hf : ∀ j, ftk k j = q.1 := fun j => by
    unfold ftk
    unfold ak at hk
    rw [hb] at hk ⊢
    simp only [] at hk ⊢
    rw [hk]
  refine mem_single ?_
  show H[ad k i]? = some (vp_cell _ _)
  rw [e2, vp_cell_i]
  congr 2
  funext j
  unfold mv
  rw [hf j, hI]
theorem kf_arr {U : State} (h : KF D tA U) {k : Nat} {q : FieldType × Nat} (hk : ak k = some q) : va_K D classes [(tA k, q.1)] U := by
  refine ⟨h.1.1, fun j q' h' => ?_⟩
  cases j with
  | zero => cases h'; exact h.2.1 k q hk
  | succ j => simp at h'
theorem go_getfield {k : Nat} (C : Cx z D tA p R s m args meth c r d) (hK : ∀ pc' P L S M, pc' = pc + n → K pc' P L S M → Go gl gx z D tA l p e R s m args below meth c Zq r Q pc' P L S M) (hd : decode r.2.1 pc = .ok (.getfield k, n)) (ho : okI (.getfield k) pc n = true) (h : stepI gl gx X d r.2.2.2.2.2 r.2.2.2.1 r.2.2.2.2.1 r.1.cls Q K J (.getfield k) pc P L S M) : Go gl gx z D tA l p e R s m args below meth c Zq r Q pc P L S M := by
  have en : n = 3 := by simpa [okI] using ho
  subst en
  unfold stepI at h
  dsimp only at h
  obtain ⟨k0, i, T1, rfl, h1⟩ := pR_inv h
  obtain ⟨⟨ci, j, b⟩, hm, h2⟩ := pK_inv h1
  obtain ⟨hb, h3⟩ := pB_inv h2
  have hb : k0 = ci := Nat.eq_of_beq_eq_true hb
  subst hb
  obtain ⟨w, hf⟩ := C.2.2.2.2.2.2.2.2.2.2.1 _ hm
  clear h h1 h2
  unfold fOK at hf
  dsimp only at hf h3
  split at hf
  · rename_i h16
    rw [h16] at h3
    have e16 : k0 = 16 := Nat.eq_of_beq_eq_true h16
    subst e16
    intro ad H locs cells slots ls hD hR
    have hi13 : i < 13 := by
      rcases hD.2.2.2.2.2.2.1 (aR 16 i) List.mem_cons_self with q | q
      · exact absurd (hD.2.2.1.1 16 i q).1 (by decide)
      · exact stv_hi q rfl
    have h17 : okA M.2.2 (aR 17 i) := Or.inr (stv_16 hi13).2
    have hE := hD.1.2.2.1.1 i hi13
    cases j with
    | zero =>
      simp only [Bool.and_eq_true, Bool.not_eq_true'] at hf
      obtain ⟨f1, rfl⟩ := hf
      exact vk_getf C.1 C.2.1 hE.2.2.1 hD.2.1 C.2.2.2.1 (word_of C.2.2.2.2.1 f1 rfl) (fun _ h => h) hd (hK _ _ _ _ _ rfl h3 ad H locs cells slots ls (hD.stk (hv1 mem1 h17)) hR)
    | succ j =>
      simp only [Bool.and_eq_true] at hf
      obtain ⟨f1, rfl⟩ := hf
      exact vk_getf C.1 C.2.1 hE.2.1 hD.2.1 C.2.2.2.1 (word_of C.2.2.2.2.1 f1 rfl) (fun _ h => h) hd (hK _ _ _ _ _ rfl h3 ad H locs cells slots ls (hD.stk (hv1 mem1 trivial)) hR)
  · rename_i h16
    rw [h16] at h3
    split at hf
    · rename_i q hcq
      simp only [Bool.and_eq_true, decide_eq_true_eq, beq_iff_eq] at hf
      obtain ⟨⟨⟨⟨f1, f2⟩, f3⟩, f4⟩, f5⟩ := hf
      have f1 : j < q.2.2 := Nat.le_of_ble_eq_true f1
      have hk11 : k0 < 11 := (List.getElem?_eq_some_iff.mp hcq).1
      have hb20 : Nat.ble 20 k0 = false := by
        rcases hq : Nat.ble 20 k0 with _ | _
        · rfl
        · have := Nat.le_of_ble_eq_true hq
          omega
      intro ad H locs cells slots ls hD hR
      have hlv : M.2.2 k0 i = true := by
        rcases hD.2.2.2.2.2.2.1 (aR k0 i) List.mem_cons_self with q | q
        · exact q
        · have q := stv_k q
          unfold stk at q
          simp only [Bool.and_eq_true] at q
          have := Nat.le_of_ble_eq_true q.1
          omega
      obtain ⟨-, g2, g3⟩ := hD.2.2.1.1 k0 i hlv
      unfold cellR at g3
      rw [hb20] at g3
      obtain ⟨q', e1, e2⟩ := g3
      cases e1.symm.trans hcq
      have row := row_get (Zq := Zq) (locs := locs) (cells := cells) (slots := slots) (l := l) (e := e) (below := below) (ls := ls) (rest := T1.map (cv ad)) C hcq e2 f1 (word_of C.2.2.2.2.1 f2 rfl) f3 hd
      refine row ?_
      unfold mv
      cases b with
      | true =>
        rw [f4]
        exact hK _ _ _ _ _ rfl h3 ad H locs cells slots ls (hD.stk (hv1 mem1 trivial)) hR
      | false =>
        rw [f4]
        exact hK _ _ _ _ _ rfl h3 ad H locs cells slots ls (hD.stk (hv1 mem1 (hD.2.2.1.2.2 k0 i j hlv (by rw [sz1_cl hcq]; exact f1)))) hR
    · cases hf
theorem lv_of {ad : Nat → Nat → Nat} {H : Heap} {locs : List Loc} {cells slots : Nat} {ls : Array Slot} {k i : Nat} (hD : Dx gl gx z D tA R s r ad H locs cells slots ls P L S M) (hm : aR k i ∈ S) (hk : stk k = false) : M.2.2 k i = true := by
  rcases hD.2.2.2.2.2.2.1 _ hm with q | q
  · exact q
  · have q := stv_k q
    rw [hk] at q
    cases q
theorem Dx.mem {M1 : MM} {ad : Nat → Nat → Nat} {H H1 : Heap} {locs locs1 : List Loc} {cells slots : Nat} {ls : Array Slot} (h : Dx gl gx z D tA R s r ad H locs cells slots ls P L S M) (e2 : M1.2.2 = M.2.2) (hR : Rep D tA z ad M1 H1) (hS : va_S (aA z) s.heap H1 locs1) (hT : ∀ v ∈ T, v ∈ S) : Dx gl gx z D tA R s r ad H1 locs1 cells slots ls P L T M1 := by
  obtain ⟨h1, h2, h3, h4, h5, h6, h7, h8, h9⟩ := h
  exact ⟨h1, hS, hR, h4, h5, by rw [e2]; exact h6, by rw [e2]; exact fun v hv => h7 v (hT v hv), h8, h9⟩
def tyK (t : FieldType) : Bool := match t with
  | .int | .boolean | .byte | .long | .object _ | .array _ => true
  | _ => false
theorem ty_ref : ∀ t : FieldType, isIT t = false → (t = .long → False) → tyK t = true → ∀ v : Value, (v = .null ∨ ∃ a, v = .ref a) → narrow t v = v ∧ fits t v = true := by
  intro t h1 h2 h3 v h4
  cases t
  case long => exact (h2 rfl).elim
  case object => rcases h4 with rfl | ⟨a, rfl⟩ <;> exact ⟨by simp [narrow], by simp [fits]⟩
  case array => rcases h4 with rfl | ⟨a, rfl⟩ <;> exact ⟨by simp [narrow], by simp [fits]⟩
  all_goals first | (exfalso; revert h1; decide) | (exfalso; revert h3; decide)
theorem tyK_all : fts.all (fun l => l.all tyK) = true := by decide +kernel
theorem tyK_at {k j : Nat} (h : Nat.ble 20 k = false) : tyK (ftk k j) = true := by
  unfold ftk
  rw [h]
  show tyK ((fts.getD k []).getD j .int) = true
  rw [List.getD_eq_getElem?_getD, List.getD_eq_getElem?_getD]
  cases hk : fts[k]? with
  | none => rfl
  | some l =>
    have hl := List.all_eq_true.mp tyK_all l (List.mem_of_getElem? hk)
    show tyK (l[j]?.getD .int) = true
    cases hj : l[j]? with
    | none => rfl
    | some t => exact List.all_eq_true.mp hl t (List.mem_of_getElem? hj)
theorem finB_eq {k j : Nat} {q : vw_C} (hq : classes[k]? = some q) : finB k j = (q.2.1 j).2.2.2 := by
  unfold finB
  rw [List.getD_eq_getElem?_getD, hq]
  rfl
theorem go_putfield {k : Nat} (C : Cx z D tA p R s m args meth c r d) (hmk : r.2.2.2.2.1 = 2 → r.1.name = "<init>") (hK : ∀ pc' P L S M, pc' = pc + n → K pc' P L S M → Go gl gx z D tA l p e R s m args below meth c Zq r Q pc' P L S M) (hd : decode r.2.1 pc = .ok (.putfield k, n)) (ho : okI (.putfield k) pc n = true) (h : stepI gl gx X d r.2.2.2.2.2 r.2.2.2.1 r.2.2.2.2.1 r.1.cls Q K J (.putfield k) pc P L S M) : Go gl gx z D tA l p e R s m args below meth c Zq r Q pc P L S M := by
  have en : n = 3 := by simpa [okI] using ho
  subst en
  unfold stepI at h
  dsimp only at h
  obtain ⟨v, T0, rfl, h0⟩ := pV_inv h
  obtain ⟨k0, i, T1, rfl, h1⟩ := pR_inv h0
  obtain ⟨⟨ci, j, b⟩, hm, h2⟩ := pK_inv h1
  obtain ⟨hb, h3⟩ := pB_inv h2
  have hb : k0 = ci := Nat.eq_of_beq_eq_true hb
  subst hb
  obtain ⟨hfb, h4⟩ := pB_inv h3
  obtain ⟨w, hf⟩ := C.2.2.2.2.2.2.2.2.2.2.1 _ hm
  clear h h0 h1 h2 h3
  unfold fOK at hf
  dsimp only at hf h4 hfb
  intro ad H locs cells slots ls hD hR
  split at hf
  · rename_i h16
    have e16 : k0 = 16 := Nat.eq_of_beq_eq_true h16
    subst e16
    exfalso
    rw [show finB 16 j = false from rfl] at hfb
    cases hfb
  · split at hf
    · rename_i q hcq
      simp only [Bool.and_eq_true, decide_eq_true_eq, beq_iff_eq] at hf
      obtain ⟨⟨⟨⟨f1, f2⟩, f3⟩, f4⟩, f5⟩ := hf
      have f1 : j < q.2.2 := Nat.le_of_ble_eq_true f1
      have hk11 : k0 < 11 := (List.getElem?_eq_some_iff.mp hcq).1
      have hb20 : Nat.ble 20 k0 = false := by
        rcases hq : Nat.ble 20 k0 with _ | _
        · rfl
        · have := Nat.le_of_ble_eq_true hq
          omega
      have hst : stk k0 = false := by
        unfold stk
        rcases hq : Nat.ble 11 k0 with _ | _
        · rfl
        · have := Nat.le_of_ble_eq_true hq
          omega
      have hlv := lv_of hD (List.mem_cons_of_mem _ List.mem_cons_self) hst
      obtain ⟨-, g2, g3⟩ := hD.2.2.1.1 k0 i hlv
      have g3' := g3
      unfold cellR at g3
      rw [hb20] at g3
      obtain ⟨q', e1, e2⟩ := g3
      cases e1.symm.trans hcq
      have hfin : (q.2.1 j).2.2.2 = true → r.1.name = "<init>" ∧ q.1 = r.1.cls := by
        intro e
        rw [finB_eq hcq, e] at hfb
        simp only [Bool.and_eq_true, decide_eq_true_eq] at hfb
        refine ⟨hmk (Nat.eq_of_beq_eq_true hfb.1), ?_⟩
        rw [hfb.2, List.getD_eq_getElem?_getD, hcq]
        rfl
      -- the write, for any value that fits
      have go : ∀ (v : AV) (M1 : MM), narrow (ftk k0 j) (cv ad v) = cv ad v → fits (ftk k0 j) (cv ad v) = true → M1.2.2 = M.2.2 → (∀ k' i' j', ¬ (k' = k0 ∧ i' = i) → M1.1 k' i' j' = M.1 k' i' j' ∧ M1.2.1 k' i' j' = M.2.1 k' i' j') → (∀ j', j' < sz1 k0 → okA M.2.2 (M1.2.1 k0 i j')) → (∀ j', mv ad M1 k0 i j' = updV (fun j => mv ad M k0 i j) j (cv ad v) j') → K (pc + 3) P L T1 M1 →
          W p l e R s m args below meth c H locs cells slots Zq (F0 m pc ls (cv ad v :: .ref (ad k0 i) :: T1.map (cv ad))) := by
        intro v M1 a1 a2 a3 a4 a5 a6 a7
        refine row_put C hD.2.1 g2 hcq e2 f1 (word_of C.2.2.2.2.1 f2 rfl) f3 hfin f5 a1 a2 hd fun H1 locs1 b1 b2 b3 => ?_
        have hc1 : cellR D tA ad M1 H1 k0 i := by
          unfold cellR
          rw [hb20]
          exact ⟨q, hcq, b1.to fun j' _ => (a6 j').symm⟩
        exact hK _ _ _ _ _ rfl a7 ad H1 locs1 cells slots ls (hD.mem a3 (hD.2.2.1.put hlv a3 a4 a5 b2 hc1) b3 mem2) (by rw [a3]; exact hR)
      have old := hD.2.2.1.2.2 k0 i
      cases b with
      | true =>
        obtain ⟨x, T9, e9, h5⟩ := pI_inv h4
        obtain rfl : v = aI x := (List.cons.inj e9).1
        have wr : ∀ (hn : narrow (ftk k0 j) (.int x) = .int x) (hft : fits (ftk k0 j) (.int x) = true), K (pc + 3) P L T1 (u3 M.1 k0 i j x, M.2) → W p l e R s m args below meth c H locs cells slots Zq (F0 m pc ls (cv ad (aI x) :: .ref (ad k0 i) :: T1.map (cv ad))) := by
          intro hn hft hk
          refine go (aI x) (u3 M.1 k0 i j x, M.2) hn hft rfl (fun k' i' j' hh => ⟨u3_ne hh, rfl⟩) (fun j' hj' => old j' hlv hj') (fun j' => ?_) hk
          · unfold mv updV
            by_cases hj : j' = j
            · subst hj
              simp [f4, u3_at, cv]
            · simp [hj, u3_at]
        split at h5
        · rename_i ht
          exact wr (by rw [ht]; rfl) (by rw [ht]; rfl) h5
        · exact wr h5.1.1 h5.1.2 h5.2
      | false =>
        dsimp only at h4
        have wr : ∀ (v : AV), okA M.2.2 v → narrow (ftk k0 j) (cv ad v) = cv ad v → fits (ftk k0 j) (cv ad v) = true → K (pc + 3) P L T1 (M.1, u3 M.2.1 k0 i j v, M.2.2) → W p l e R s m args below meth c H locs cells slots Zq (F0 m pc ls (cv ad v :: .ref (ad k0 i) :: T1.map (cv ad))) := by
          intro v hv hn hf hk
          refine go v (M.1, u3 M.2.1 k0 i j v, M.2.2) hn hf rfl (fun k' i' j' hh => ⟨rfl, u3_ne hh⟩) (fun j' hj' => ?_) (fun j' => ?_) hk
          · show okA M.2.2 (u3 M.2.1 k0 i j v k0 i j')
            rw [u3_at]
            split
            · exact hv
            · exact old j' hlv hj'
          · unfold mv updV
            by_cases hj : j' = j
            · subst hj
              simp [f4, u3_at]
            · simp [hj, u3_at]
        have hvS := hD.2.2.2.2.2.2.1 v List.mem_cons_self
        split at h4
        · rename_i ht
          obtain ⟨x, T9, e9, h5⟩ := pL_inv h4
          obtain rfl : v = aL x := (List.cons.inj e9).1
          exact wr _ trivial (by rw [ht]; rfl) (by rw [ht]; rfl) h5
        · rename_i hnl
          have hty := ty_ref
          rcases pA_inv h4 with ⟨c', i', T9, e9, h5⟩ | ⟨T9, e9, h5⟩
          · obtain rfl : v = aR c' i' := (List.cons.inj e9).1
            have := hty _ f4 hnl (tyK_at hb20) (cv ad (aR c' i')) (Or.inr ⟨_, rfl⟩)
            exact wr _ hvS this.1 this.2 h5
          · obtain rfl : v = aN := (List.cons.inj e9).1
            have := hty _ f4 hnl (tyK_at hb20) (cv ad aN) (Or.inl rfl)
            exact wr _ trivial this.1 this.2 h5
    · cases hf
end STEP4
end
section
/-! ONE STEP: arrays -/
section STEP5
variable {gl : Nat} {gx : Nat → Int32} {z : Nat} {D : va_G} {tA : Nat → ClassId} {l : Launch} {p : Program} {e : Env} {R : Room} {s : State} {m : MethodId} {args : Array Value} {below : List Frame} {meth : Method} {c : Code} {Zq : State → Prop} {r : MT} {Q : PO} {d : Nat}
variable {K J : Nat → PL → List AV → List AV → MM → Prop} {pc n : Nat} {P : PL} {L S T : List AV} {M : MM} {X : XT}
theorem ak_le {k : Nat} {q : FieldType × Nat} (hk : ak k = some q) : Nat.ble 20 k = true := by
  unfold ak at hk
  split at hk
  · assumption
  · cases hk
theorem ak_st {k : Nat} {q : FieldType × Nat} (hk : ak k = some q) : stk k = false := by
  have := Nat.le_of_ble_eq_true (ak_le hk)
  unfold stk
  rcases hq : Nat.ble k 19 with _ | _
  · simp
  · have := Nat.le_of_ble_eq_true hq
    omega
theorem ak_ft {k : Nat} {q : FieldType × Nat} (hk : ak k = some q) (j : Nat) : ftk k j = q.1 := by
  have hb := ak_le hk
  unfold ftk
  unfold ak at hk
  rw [hb] at hk ⊢
  simp only [] at hk ⊢
  rw [hk]
theorem ar_at {ad : Nat → Nat → Nat} {H : Heap} {k i : Nat} {q : FieldType × Nat} (hk : ak k = some q) (h : cellR D tA ad M H k i) : H[ad k i]? = some (arrV (tA k) q.2 (fun j => mv ad M k i j)) := by
  unfold cellR at h
  rw [ak_le hk] at h
  obtain ⟨q', e1, e2⟩ := h
  cases e1.symm.trans hk
  exact e2
theorem sz1_ak {k : Nat} {q : FieldType × Nat} (hk : ak k = some q) : sz1 k = q.2 := by
  unfold sz1
  rw [ak_le hk, hk]
  rfl
theorem isInt_eq {t : FieldType} (h : isInt t = true) : t = .int := by
  cases t <;> first | rfl | (exfalso; revert h; decide) | (simp [isInt] at h)
theorem isB_eq {t : FieldType} (h : (isIT t && !isInt t) = true) : t = .byte ∨ t = .boolean := by
  cases t <;> first | exact Or.inl rfl | exact Or.inr rfl | (exfalso; revert h; decide) | (simp [isIT] at h)
/-- what a live array is on the heap -/
theorem arr_live {ad : Nat → Nat → Nat} {H : Heap} {locs : List Loc} {cells slots : Nat} {ls : Array Slot} {k i : Nat} {q : FieldType × Nat} (hD : Dx gl gx z D tA R s r ad H locs cells slots ls P L S M) (hm : aR k i ∈ S) (hk : ak k = some q) : M.2.2 k i = true ∧ z ≤ ad k i ∧ H[ad k i]? = some (arrV (tA k) q.2 (fun j => mv ad M k i j)) := by
  have hlv := lv_of hD hm (ak_st hk)
  obtain ⟨-, g2, g3⟩ := hD.2.2.1.1 k i hlv
  exact ⟨hlv, g2, ar_at hk g3⟩
theorem arr_put {ad : Nat → Nat → Nat} {H H1 : Heap} {locs : List Loc} {cells slots : Nat} {ls : Array Slot} {k i j0 : Nat} {w : Value} {q : FieldType × Nat} {M1 : MM} (hD : Dx gl gx z D tA R s r ad H locs cells slots ls P L S M) (hlv : M.2.2 k i = true) (hk : ak k = some q) (e2 : M1.2.2 = M.2.2) (e0 : ∀ k' i' j, ¬ (k' = k ∧ i' = i) → M1.1 k' i' j = M.1 k' i' j ∧ M1.2.1 k' i' j = M.2.1 k' i' j) (hok : ∀ j, j < sz1 k → okA M.2.2 (M1.2.1 k i j)) (hm : ∀ j, mv ad M1 k i j = updV (fun j => mv ad M k i j) j0 w j)
    (he : H1[ad k i]? = some ((arrV (tA k) q.2 (fun j => mv ad M k i j)).setSlot j0 w)) (z1 : H1.size = H.size) (oq : ∀ x, x ≠ ad k i → H1[x]? = H[x]?) (hT : ∀ v ∈ T, v ∈ S) : Dx gl gx z D tA R s r ad H1 (locs ++ [⟨ad k i, j0⟩]) cells slots ls P L T M1 := by
  have hc : cellR D tA ad M1 H1 k i := by
    unfold cellR
    rw [ak_le hk]
    refine ⟨q, hk, ?_⟩
    rw [he, arrV_store]
    congr 2
    funext j
    exact (hm j).symm
  exact hD.mem e2 (hD.2.2.1.put hlv e2 e0 hok oq hc) (hD.2.1.put z1 oq (hD.2.2.1.1 k i hlv).2.1) hT
theorem mv_I {ad : Nat → Nat → Nat} {k i j : Nat} {q : FieldType × Nat} (hk : ak k = some q) (hI : isIT q.1 = true) : mv ad M k i j = .int (M.1 k i j) := by
  unfold mv
  rw [ak_ft hk, hI]
theorem mv_A {ad : Nat → Nat → Nat} {k i j : Nat} {q : FieldType × Nat} (hk : ak k = some q) (hI : isIT q.1 = false) : mv ad M k i j = cv ad (M.2.1 k i j) := by
  unfold mv
  rw [ak_ft hk, hI]
theorem arr_in {j : Int32} {n : Nat} {cA : ClassId} {f : Nat → Value} (h : vp_in j n) : ¬ (j < 0 ∨ (arrV cA n f).slots.size ≤ j.toNatClampNeg) := by rw [arrV_size]; exact h
theorem vp_lt {j : Int32} {n : Nat} (h : vp_in j n) : j.toNatClampNeg < n := Nat.not_le.mp fun q => h (Or.inr q)
theorem go_loadA {i : Instr} (C : Cx z D tA p R s m args meth c r d) (hK : ∀ pc' P L S M, pc' = pc + n → K pc' P L S M → Go gl gx z D tA l p e R s m args below meth c Zq r Q pc' P L S M) (hd : decode r.2.1 pc = .ok (i, n)) (ho : okI i pc n = true) (h : stepI gl gx X d r.2.2.2.2.2 r.2.2.2.1 r.2.2.2.2.1 r.1.cls Q K J i pc P L S M) (hi : i = .iaload ∨ i = .baload ∨ i = .aaload ∨ i = .arraylength) : Go gl gx z D tA l p e R s m args below meth c Zq r Q pc P L S M := by
  have hkf := C.2.2.2.2.2.2.1
  have hx := C.1
  have hb := C.2.1
  rcases hi with rfl | rfl | rfl | rfl
  all_goals (have en : n = 1 := by simpa [okI] using ho)
  all_goals subst en
  all_goals unfold stepI at h
  all_goals dsimp only at h
  · obtain ⟨j, T0, rfl, h0⟩ := pI_inv h
    obtain ⟨k, i, T1, rfl, h1⟩ := pR_inv h0
    intro ad H locs cells slots ls hD hR
    split at h1
    · rename_i q hk
      obtain ⟨hI, hin, h2⟩ := pB_inv h1
      obtain ⟨hlv, hz, ha⟩ := arr_live hD (List.mem_cons_of_mem _ List.mem_cons_self) hk
      have hI2 : q.1 = .int := isInt_eq hI
      have harr := (hkf.2.1 k q hk).1 q.2 (fun j => mv ad M k i j)
      rw [hI2] at harr
      exact W.iald (v := .int (M.1 k i j.toNatClampNeg)) hx hb ha harr (fun q => by cases q) (arr_in hin) (by rw [arrV_read _ _ (vp_lt hin), mv_I hk (by rw [hI2]; rfl)]) rfl rfl hd (hK _ _ _ _ _ rfl h2 ad H locs cells slots ls (hD.stk (hv1 mem2 trivial)) hR)
    · split at h1
      · rename_i t ht
        obtain ⟨hin, h2⟩ := h1
        have hT := (hD.1.2.1 k t ht).2
        have hk4 : k = 12 ∨ k = 13 ∨ k = 14 ∨ k = 15 := by
          unfold sta at ht
          split at ht <;> first | (cases ht; done) | omega
        have hi0 : i = 0 := by
          rcases hD.2.2.2.2.2.2.1 (aR k i) (List.mem_cons_of_mem _ List.mem_cons_self) with q | q
          · have := (hD.2.2.1.1 k i q).1
            rcases hk4 with rfl | rfl | rfl | rfl <;> exact absurd this (by decide)
          · rcases hk4 with rfl | rfl | rfl | rfl <;> exact stv_lo q rfl
        subst hi0
        exact va_ti hx hb hT hD.2.1 hin rfl hd (hK _ _ _ _ _ rfl h2 ad H locs cells slots ls (hD.stk (hv1 mem2 trivial)) hR)
      · obtain ⟨h11, hin, h2⟩ := pB_inv h1
        have h11 : k = 11 := Nat.eq_of_beq_eq_true h11
        subst h11
        have hi0 : i = 0 := by
          rcases hD.2.2.2.2.2.2.1 (aR 11 i) (List.mem_cons_of_mem _ List.mem_cons_self) with q | q
          · exact absurd (hD.2.2.1.1 11 i q).1 (by decide)
          · exact stv_lo q rfl
        subst hi0
        have hlt := hD.1.1.2
        exact va_sld hx hb hD.1.1.1 (Nat.lt_of_lt_of_le hlt C.2.2.2.2.2.2.2.1) (Nat.not_le.mpr hlt) hD.2.1 hin hd (hK _ _ _ _ _ rfl h2 ad H locs cells slots ls (hD.stk (hv1 mem2 trivial)) hR)
  · obtain ⟨j, T0, rfl, h0⟩ := pI_inv h
    obtain ⟨k, i, T1, rfl, h1⟩ := pR_inv h0
    intro ad H locs cells slots ls hD hR
    split at h1
    · rename_i q hk
      obtain ⟨hI, hin, h2⟩ := pB_inv h1
      obtain ⟨hlv, hz, ha⟩ := arr_live hD (List.mem_cons_of_mem _ List.mem_cons_self) hk
      have hIT : isIT q.1 = true := by
        simp only [Bool.and_eq_true] at hI
        exact hI.1
      have harr := (hkf.2.1 k q hk).1 q.2 (fun j => mv ad M k i j)
      have hv : (arrV (tA k) q.2 (fun j => mv ad M k i j)).slots[j.toNatClampNeg]? = some (.int (M.1 k i j.toNatClampNeg)) := by rw [arrV_read _ _ (vp_lt hin), mv_I hk hIT]
      rcases isB_eq hI with hI2 | hI2
      · rw [hI2] at harr
        exact W.bald hx hb ha harr (fun q => by cases q) (arr_in hin) hv rfl rfl hd (hK _ _ _ _ _ rfl h2 ad H locs cells slots ls (hD.stk (hv1 mem2 trivial)) hR)
      · rw [hI2] at harr
        exact W.zald hx hb ha harr (fun q => by cases q) (arr_in hin) hv rfl rfl hd (hK _ _ _ _ _ rfl h2 ad H locs cells slots ls (hD.stk (hv1 mem2 trivial)) hR)
    · obtain ⟨h17, hin, h2⟩ := pB_inv h1
      have h17 : k = 17 := Nat.eq_of_beq_eq_true h17
      subst h17
      have hi13 : i < 13 := by
        rcases hD.2.2.2.2.2.2.1 (aR 17 i) (List.mem_cons_of_mem _ List.mem_cons_self) with q | q
        · exact absurd (hD.2.2.1.1 17 i q).1 (by decide)
        · exact stv_hi q rfl
      have hE := (hD.1.2.2.1.1 i hi13).2.2.2
      have hln : (stx.map List.length).getD i 0 = (stx.getD i []).length := by
        rw [List.getD_eq_getElem?_getD, List.getD_eq_getElem?_getD, List.getElem?_map]
        cases stx[i]? <;> rfl
      rw [hln] at hE
      exact va_tb hx hb hE hD.2.1 hin rfl hd (hK _ _ _ _ _ rfl h2 ad H locs cells slots ls (hD.stk (hv1 mem2 trivial)) hR)
  · obtain ⟨j, T0, rfl, h0⟩ := pI_inv h
    obtain ⟨k, i, T1, rfl, h1⟩ := pR_inv h0
    obtain ⟨q, hk, h2⟩ := pO_inv h1
    intro ad H locs cells slots ls hD hR
    split at h2
    · rename_i C0 hty
      obtain ⟨hin, h3⟩ := h2
      obtain ⟨hlv, hz, ha⟩ := arr_live hD (List.mem_cons_of_mem _ List.mem_cons_self) hk
      have harr := (hkf.2.1 k q hk).1 q.2 (fun j => mv ad M k i j)
      exact W.aald (ty := q.1) hx hb ha harr (by rw [hty]; rfl) (fun q => by cases q) (arr_in hin) (by rw [arrV_read _ _ (vp_lt hin), mv_A hk (by rw [hty]; rfl)]) rfl rfl hd (hK _ _ _ _ _ rfl h3 ad H locs cells slots ls (hD.stk (hv1 mem2 (hD.2.2.1.2.2 k i _ hlv (by rw [sz1_ak hk]; exact vp_lt hin)))) hR)
    · exact h2.elim
  · obtain ⟨k, i, T1, rfl, h1⟩ := pR_inv h
    intro ad H locs cells slots ls hD hR
    split at h1
    · rename_i q hk
      obtain ⟨hlv, hz, ha⟩ := arr_live hD List.mem_cons_self hk
      have harr := (hkf.2.1 k q hk).1 q.2 (fun j => mv ad M k i j)
      exact W.alen (n := Int32.ofNat q.2) hx hb ha harr (by rw [arrV_size]) rfl rfl hd (hK _ _ _ _ _ rfl h1 ad H locs cells slots ls (hD.stk (hv1 mem1 trivial)) hR)
    · split at h1
      · rename_i h11
        have h11 : k = 11 := Nat.eq_of_beq_eq_true h11
        subst h11
        have hi0 : i = 0 := by
          rcases hD.2.2.2.2.2.2.1 (aR 11 i) List.mem_cons_self with q | q
          · exact absurd (hD.2.2.1.1 11 i q).1 (by decide)
          · exact stv_lo q rfl
        subst hi0
        have hlt := hD.1.1.2
        exact va_slen hx hb hD.1.1.1 (Nat.lt_of_lt_of_le hlt C.2.2.2.2.2.2.2.1) (Nat.not_le.mpr hlt) hD.2.1 hd (hK _ _ _ _ _ rfl h1 ad H locs cells slots ls (hD.stk (hv1 mem1 trivial)) hR)
      · obtain ⟨h17, h2⟩ := pB_inv h1
        have h17 : k = 17 := Nat.eq_of_beq_eq_true h17
        subst h17
        have hi13 : i < 13 := by
          rcases hD.2.2.2.2.2.2.1 (aR 17 i) List.mem_cons_self with q | q
          · exact absurd (hD.2.2.1.1 17 i q).1 (by decide)
          · exact stv_hi q rfl
        have hE := (hD.1.2.2.1.1 i hi13).2.2.2
        have hln : (stx.map List.length).getD i 0 = (stx.getD i []).length := by
          rw [List.getD_eq_getElem?_getD, List.getD_eq_getElem?_getD, List.getElem?_map]
          cases stx[i]? <;> rfl
        rw [hln] at hE
        exact va_tlen hx hb hE hD.2.1 rfl hd (hK _ _ _ _ _ rfl h2 ad H locs cells slots ls (hD.stk (hv1 mem1 trivial)) hR)
theorem go_storeA {i : Instr} (C : Cx z D tA p R s m args meth c r d) (hK : ∀ pc' P L S M, pc' = pc + n → K pc' P L S M → Go gl gx z D tA l p e R s m args below meth c Zq r Q pc' P L S M) (hd : decode r.2.1 pc = .ok (i, n)) (ho : okI i pc n = true) (h : stepI gl gx X d r.2.2.2.2.2 r.2.2.2.1 r.2.2.2.2.1 r.1.cls Q K J i pc P L S M) (hi : i = .iastore ∨ i = .bastore ∨ i = .aastore) : Go gl gx z D tA l p e R s m args below meth c Zq r Q pc P L S M := by
  have hkf := C.2.2.2.2.2.2.1
  have hx := C.1
  have hb := C.2.1
  rcases hi with rfl | rfl | rfl
  all_goals (have en : n = 1 := by simpa [okI] using ho)
  all_goals subst en
  all_goals unfold stepI at h
  all_goals dsimp only at h
  · obtain ⟨x, T9, rfl, h9⟩ := pI_inv h
    obtain ⟨j, T0, rfl, h0⟩ := pI_inv h9
    obtain ⟨k, i, T1, rfl, h1⟩ := pR_inv h0
    obtain ⟨q, hk, h2⟩ := pO_inv h1
    obtain ⟨hI, hin, h3⟩ := pB_inv h2
    intro ad H locs cells slots ls hD hR
    obtain ⟨hlv, hz, ha⟩ := arr_live hD (mem2 _ List.mem_cons_self) hk
    have hI2 : q.1 = .int := isInt_eq hI
    have harr := (hkf.2.1 k q hk).1 q.2 (fun j => mv ad M k i j)
    rw [hI2] at harr
    refine W.iast hx hb ha harr (fun q => by cases q) (arr_in hin) rfl rfl hd fun H1 e z1 oq => ?_
    refine hK _ _ _ _ _ rfl h3 ad H1 _ cells slots ls (arr_put hD hlv hk rfl (fun k' i' j' hh => ⟨u3_ne hh, rfl⟩) (fun j' hj' => hD.2.2.1.2.2 k i j' hlv hj') (fun j' => ?_) e z1 oq (fun v hv => mem2 v (mem1 v hv))) hR
    have hI3 : isIT q.1 = true := by rw [hI2]; rfl
    rw [mv_I hk hI3]
    show Value.int (u3 M.1 k i j.toNatClampNeg x k i j') = _
    rw [u3_at]
    unfold updV
    by_cases hj : j' = j.toNatClampNeg
    · simp [hj]
    · simp [hj, mv_I hk hI3]
  · obtain ⟨x, T9, rfl, h9⟩ := pI_inv h
    obtain ⟨j, T0, rfl, h0⟩ := pI_inv h9
    obtain ⟨k, i, T1, rfl, h1⟩ := pR_inv h0
    obtain ⟨q, hk, h2⟩ := pO_inv h1
    obtain ⟨hI, hin, h3⟩ := pB_inv h2
    intro ad H locs cells slots ls hD hR
    obtain ⟨hlv, hz, ha⟩ := arr_live hD (mem2 _ List.mem_cons_self) hk
    have hIT : isIT q.1 = true := by
      simp only [Bool.and_eq_true] at hI
      exact hI.1
    have harr := (hkf.2.1 k q hk).1 q.2 (fun j => mv ad M k i j)
    have mvs : ∀ j', mv ad (u3 M.1 k i j.toNatClampNeg (vp_nar q.1 x), M.2) k i j' = updV (fun j => mv ad M k i j) j.toNatClampNeg (.int (vp_nar q.1 x)) j' := by
      intro j'
      rw [mv_I hk hIT]
      show Value.int (u3 M.1 k i j.toNatClampNeg (vp_nar q.1 x) k i j') = _
      rw [u3_at]
      unfold updV
      by_cases hj : j' = j.toNatClampNeg
      · simp [hj]
      · simp [hj, mv_I hk hIT]
    rcases isB_eq hI with hI2 | hI2
    · rw [hI2] at harr
      refine W.bast hx hb ha harr (fun q => by cases q) (arr_in hin) rfl rfl hd fun H1 e z1 oq => ?_
      refine hK _ _ _ _ _ rfl h3 ad H1 _ cells slots ls (arr_put hD hlv hk rfl (fun k' i' j' hh => ⟨u3_ne hh, rfl⟩) (fun j' hj' => hD.2.2.1.2.2 k i j' hlv hj') mvs ?_ z1 oq (fun v hv => mem2 v (mem1 v hv))) hR
      rw [e, hI2]
      rfl
    · rw [hI2] at harr
      refine W.zast hx hb ha harr (fun q => by cases q) (arr_in hin) rfl rfl hd fun H1 e z1 oq => ?_
      refine hK _ _ _ _ _ rfl h3 ad H1 _ cells slots ls (arr_put hD hlv hk rfl (fun k' i' j' hh => ⟨u3_ne hh, rfl⟩) (fun j' hj' => hD.2.2.1.2.2 k i j' hlv hj') mvs ?_ z1 oq (fun v hv => mem2 v (mem1 v hv))) hR
      rw [e, hI2]
      rfl
  · obtain ⟨k', i', T9, rfl, h9⟩ := pR_inv h
    obtain ⟨j, T0, rfl, h0⟩ := pI_inv h9
    obtain ⟨k, i, T1, rfl, h1⟩ := pR_inv h0
    obtain ⟨q, hk, h2⟩ := pO_inv h1
    intro ad H locs cells slots ls hD hR
    split at h2
    · rename_i C0 hty
      obtain ⟨⟨hcl, hk11⟩, hin, h3⟩ := h2
      obtain ⟨hlv, hz, ha⟩ := arr_live hD (mem2 _ List.mem_cons_self) hk
      obtain ⟨harr, hra⟩ := hkf.2.1 k q hk
      have hst : stk k' = false := by
        unfold stk
        rcases hq : Nat.ble 11 k' with _ | _
        · rfl
        · have := Nat.le_of_ble_eq_true hq
          omega
      have hlv' := lv_of hD List.mem_cons_self hst
      obtain ⟨-, -, g3⟩ := hD.2.2.1.1 k' i' hlv'
      have hb20 : Nat.ble 20 k' = false := by
        rcases hq : Nat.ble 20 k' with _ | _
        · rfl
        · have := Nat.le_of_ble_eq_true hq
          omega
      unfold cellR at g3
      rw [hb20] at g3
      obtain ⟨q', e1, cellV, b1, b2, b3, -⟩ := g3
      have hC0 : q'.1 = C0 := by
        rw [← hcl, List.getD_eq_getElem?_getD, e1]
        rfl
      have hcls := (hkf.1.1 k' q' e1).2
      rw [hC0] at hcls
      rw [hty] at hra
      obtain ⟨kA, comp, k1, k2, k3, -⟩ := hra
      have hcomp : comp = D.1 k' := Option.some.inj (k3.symm.trans hcls.1)
      subst hcomp
      obtain ⟨kC, hkC, -⟩ := hcls.2
      have hlt := vp_lt hin
      have h00 : ¬ j < 0 := fun q => hin (Or.inl q)
      refine W.aast hx hb ha (fun q h => by cases h) (fun h => by cases h) k1 k2 rfl hkC ⟨h00, by rw [arrV_size]; exact hlt⟩ b1 (fun q h => by rw [b3] at h; cases h) (by rw [b2]; exact hkC) (by rw [b2]; exact va_assign hcls) rfl rfl hd fun H1 e z1 oq => ?_
      have hIT : isIT q.1 = false := by rw [hty]; rfl
      refine hK _ _ _ _ _ rfl h3 ad H1 _ cells slots ls (arr_put hD hlv hk rfl (fun k' i' j' hh => ⟨rfl, u3_ne hh⟩) (fun j' hj' => ?_) (fun j' => ?_) e z1 oq (fun v hv => mem2 v (mem1 v hv))) hR
      · show okA M.2.2 (u3 M.2.1 k i j.toNatClampNeg (aR k' i') k i j')
        rw [u3_at]
        split
        · exact Or.inl hlv'
        · exact hD.2.2.1.2.2 k i j' hlv hj'
      · rw [mv_A hk hIT]
        show cv ad (u3 M.2.1 k i j.toNatClampNeg (aR k' i') k i j') = _
        rw [u3_at]
        unfold updV
        by_cases hj : j' = j.toNatClampNeg
        · simp [hj, cv]
        · simp [hj, mv_A hk hIT]
    · exact h2.elim
end STEP5
end
section
/-! ONE STEP: answers; calls of the machine's own -/
section STEP6
variable {gl : Nat} {gx : Nat → Int32} {z : Nat} {D : va_G} {tA : Nat → ClassId} {l : Launch} {p : Program} {e : Env} {R : Room} {s : State} {m : MethodId} {args : Array Value} {below : List Frame} {meth : Method} {c : Code} {Zq : State → Prop} {r : MT} {Q : PO} {d : Nat}
variable {K J : Nat → PL → List AV → List AV → MM → Prop} {pc n : Nat} {P : PL} {L S T : List AV} {M : MM} {X : XT}
theorem isEmpty_eq {S : List AV} (h : S.isEmpty = true) : S = [] := List.isEmpty_iff.mp h
theorem go_return {i : Instr} (hd : decode r.2.1 pc = .ok (i, n)) (ho : okI i pc n = true) (h : stepI gl gx X d r.2.2.2.2.2 r.2.2.2.1 r.2.2.2.2.1 r.1.cls Q K J i pc P L S M) (hi : i = .ireturn ∨ i = .areturn ∨ i = .return_) : Go gl gx z D tA l p e R s m args below meth c Zq r Q pc P L S M := by
  have fin : ∀ (v : AV) {S : List AV}, Q v M → retAt r pc v → (∀ ad H locs cells slots ls, Dx gl gx z D tA R s r ad H locs cells slots ls P L S M → okA M.2.2 v) → (∀ ad, S.map (cv ad) = rst ad v) → Go gl gx z D tA l p e R s m args below meth c Zq r Q pc P L S M := by
    intro v S hq hat hok hst ad H locs cells slots ls hD hR
    rw [hst ad]
    exact hR v M ad H locs cells slots pc ls hq hD.2.2.1 (hok _ _ _ _ _ _ hD) (fun _ _ _ => rfl) (fun _ _ h => h) hD.2.1 (Nat.le_trans (Nat.le_add_right _ _) hD.2.2.2.2.2.2.2.1) (Nat.le_trans (Nat.le_add_right _ _) hD.2.2.2.2.2.2.2.2) hat
  rcases hi with rfl | rfl | rfl
  all_goals (have en : n = 1 := by simpa [okI] using ho)
  all_goals subst en
  all_goals unfold stepI at h
  all_goals dsimp only at h
  · obtain ⟨x, T1, rfl, h1⟩ := pI_inv h
    obtain ⟨he, h2⟩ := pB_inv h1
    obtain rfl := isEmpty_eq he
    split at h2
    · rename_i hr
      exact fin (aI x) h2 (Or.inr (Or.inl ⟨x, .int, hr, rfl, rfl, hd⟩)) (fun _ _ _ _ _ _ _ => trivial) (fun _ => rfl)
    · rename_i t _ hr
      split at h2
      · exact fin (aI x) h2.2 (Or.inr (Or.inl ⟨x, t, hr, rfl, h2.1, hd⟩)) (fun _ _ _ _ _ _ _ => trivial) (fun _ => rfl)
      · exact h2.elim
    · exact h2.elim
  · have g : pA S (fun v S => pB S.isEmpty (match r.2.2.2.1 with
      | some (.object _) => Q v M
      | _ => False)) := h
    clear h
    rcases pA_inv g with ⟨k', i', T1, rfl, h1⟩ | ⟨T1, rfl, h1⟩
    · obtain ⟨he, h2⟩ := pB_inv h1
      obtain rfl := isEmpty_eq he
      split at h2
      · rename_i C0 hr
        exact fin _ h2 (Or.inr (Or.inr ⟨C0, hr, Or.inl ⟨_, rfl⟩, hd⟩)) (fun _ _ _ _ _ _ hD => hD.2.2.2.2.2.2.1 _ List.mem_cons_self) (fun _ => rfl)
      · exact h2.elim
    · obtain ⟨he, h2⟩ := pB_inv h1
      obtain rfl := isEmpty_eq he
      split at h2
      · rename_i C0 hr
        exact fin _ h2 (Or.inr (Or.inr ⟨C0, hr, Or.inr rfl, hd⟩)) (fun _ _ _ _ _ _ hD => trivial) (fun _ => rfl)
      · exact h2.elim
  · obtain ⟨he, h2⟩ := pB_inv h
    obtain rfl := isEmpty_eq he
    split at h2
    · rename_i hr
      exact fin aU h2 (Or.inl ⟨hr, rfl, hd⟩) (fun _ _ _ _ _ _ hD => trivial) (fun _ => rfl)
    · exact h2.elim
theorem cat_le (v : Value) : v.category ≤ 2 := by cases v <;> simp [Value.category]
theorem cat_sum : ∀ (l : List Value), (l.map fun v => v.category).sum ≤ 2 * l.length := by
  intro l
  induction l with
  | nil => simp
  | cons a l ih =>
    have := cat_le a
    simp only [List.map_cons, List.sum_cons, List.length_cons]
    omega
theorem row_copy {H : Heap} {locs : List Loc} {cells slots : Nat} {ls : Array Slot} {rest : List Value} {a a0 : Nat} {cc : ByteArray} {pc : Nat} (hexec : p.tables.exec = Jvm.exec) (hb : c.code = cc) (hml : c.maxLocals = ls.size) {own : String} {index : Nat} (hown : s.vm.findClass own = some m.cls) (hlink : (Cond.methodLink own index arraycopyName).before args s = true) (hnat : (Cond.native arraycopyName).before args s = true) (hstat : (Cond.static arraycopyName).before args s = true) (hini : (Cond.initialized "java/lang/System").before args s = true)
    {c0 c1 : ClassId} {n0 n1 : Nat} {f g : Nat → Int32} {ty : FieldType} (hc0 : H[a0]? = some (vp_cell c0 (n0, .inl f))) (hc1 : H[a]? = some (vp_cell c1 (n1, .inl g))) (ht0 : ArrOfT s c0 ty) (ht1 : ArrOfT s c1 ty) (hprim : refKind ty = false) (hS : va_S (aA z) s.heap H locs) (haz : z ≤ a)
    {sp dp n : Int32} (h1 : ¬ sp < 0) (h2 : ¬ dp < 0) (h3 : ¬ n < 0) (h4 : sp.toNatClampNeg + n.toNatClampNeg ≤ n0) (h5 : dp.toNatClampNeg + n.toNatClampNeg ≤ n1) (hfit : ∀ i, i < n.toNatClampNeg → fits ty (.int (f (sp.toNatClampNeg + i))) = true)
    (hframes : 1 ≤ R.frames) (hlocals : (rest.map fun v => v.category).sum + (nativeFrameWords "java/lang/System" "arraycopy" 5 + 11) ≤ R.locals) (hdg : decode cc pc = .ok (.invokestatic index, 3))
    (kk : ∀ (H1 : Heap) (locs1 : List Loc), H1[a]? = some (vp_cell c1 (n1, .inl (va_cpy f g sp.toNatClampNeg dp.toNatClampNeg n.toNatClampNeg))) → (∀ q, q ≠ a → H1[q]? = H[q]?) → va_S (aA z) s.heap H1 locs1 → W p l e R s m args below meth c H1 locs1 cells slots Zq (F0 m (pc + 3) ls rest)) : W p l e R s m args below meth c H locs cells slots Zq (F0 m pc ls (.int n :: .int dp :: .ref a :: .int sp :: .ref a0 :: rest)) := by
  have nn : ∀ z : Int32, ¬ z < 0 → z.toInt = (z.toNatClampNeg : Int) := by
    intro z hz
    have hz0 : (0 : Int) ≤ z.toInt := by
      have := Int32.not_lt.mp hz
      simpa using Int32.le_iff_toInt_le.mp this
    show z.toInt = ((z.toInt.toNat : Nat) : Int)
    omega
  intro T hT X
  obtain ⟨-, k0, hk0, cm0, hkk0⟩ := ht0 n0 (fun j => .int (f j))
  obtain ⟨-, k1, hk1, cm1, hkk1⟩ := ht1 n1 (fun j => .int (g j))
  obtain ⟨vm', X', step⟩ := X.arraycopy hexec hown hlink hnat hstat hini (src := a0) (dst := a) (cs := vp_cell c0 (n0, .inl f)) (cd := vp_cell c1 (n1, .inl g)) (srcPos := sp) (destPos := dp) (n := n) (by rw [hT]; exact hc0) (by rw [hT]; exact hc1)
    (fun _ h => by cases h) (fun _ h => by cases h) (fun h => by cases h) (fun h => by cases h) hk0 hk1 hkk0 hkk1 (by simp [hprim]) h1 h2 h3
    (by rw [nn sp h1, nn n h3]; show ¬ _ > ((arrV c0 n0 (fun j => .int (f j))).slots.size : Int); rw [arrV_size]; omega)
    (by rw [nn dp h2, nn n h3]; show ¬ _ > ((arrV c1 n1 (fun j => .int (g j))).slots.size : Int); rw [arrV_size]; omega)
    (fun vm₁ _ i hi => by
      have e : (vp_cell c0 (n0, .inl f)).slots.getD (sp.toNatClampNeg + i) .null = .int (f (sp.toNatClampNeg + i)) := by
        show (arrV c0 n0 (fun j => .int (f j))).slots.getD _ _ = _
        rw [Array.getD_eq_getD_getElem?, arrV_read _ _ (by omega)]
        rfl
      refine ⟨?_, ?_⟩
      · rw [e]
        exact hfit i hi
      · rw [e]
        exact trivial)
    (g := F0 m pc ls (.int n :: .int dp :: .ref a :: .int sp :: .ref a0 :: rest)) rfl (by rw [hml]) (rest := rest) rfl (by rw [hb]; exact hdg) hframes (by show 2 * 0 + _ + _ ≤ _; omega)
  have e1 : copied (vp_cell c0 (n0, .inl f)) (vp_cell c1 (n1, .inl g)) sp dp n = vp_cell c1 (n1, .inl (va_cpy f g sp.toNatClampNeg dp.toNatClampNeg n.toNatClampNeg)) := va_copied (fun z => .int z) c0 c1 f g h4
  rw [e1] at X' step
  have hl : a < H.size := (Array.getElem?_eq_some_iff.mp hc1).1
  have hheap : ((T.setVm vm').setCell a (vp_cell c1 (n1, .inl (va_cpy f g sp.toNatClampNeg dp.toNatClampNeg n.toNatClampNeg)))).heap = H.setIfInBounds a (vp_cell c1 (n1, .inl (va_cpy f g sp.toNatClampNeg dp.toNatClampNeg n.toNatClampNeg))) := by rw [← hT]; rfl
  have oq : ∀ q : Nat, q ≠ a → (H.setIfInBounds a (vp_cell c1 (n1, .inl (va_cpy f g sp.toNatClampNeg dp.toNatClampNeg n.toNatClampNeg))))[q]? = H[q]? := fun q hq => by simp [Array.getElem?_setIfInBounds, Ne.symm hq]
  obtain ⟨t, a1, b1⟩ := kk _ _ (show (H.setIfInBounds a _)[a]? = some _ by simp [Array.getElem?_setIfInBounds, hl]) oq ⟨by simp; exact hS.1, fun q g1 g2 => by
      rw [oq q (fun e => g2 (by rw [e]; exact haz))]
      exact hS.2.1 q g1 g2, fun q hq => by
      rcases List.mem_append.mp hq with h | h
      · exact hS.2.2 q h
      · obtain ⟨z, -, hz⟩ := List.mem_map.mp h
        rw [← hz]
        exact haz⟩ _ hheap X'
  exact ⟨t, step t a1, b1⟩
end STEP6
end
section
/-! ONE STEP: calls of methods of the table -/
section CALLS
variable {gl : Nat} {gx : Nat → Int32} {z : Nat} {D : va_G} {tA : Nat → ClassId} {l : Launch}
/-- a method's answer, and the memory behind it -/
def QG (D : va_G) (tA : Nat → ClassId) (z : Nat) (rt : Option FieldType) (Q : PO) (lv : LV) (ad : Nat → Nat → Nat) : Array Value → State → Outcome → State → Prop := fun _ st o t =>
  ∃ (v : AV) (M' : MM) (ad' : Nat → Nat → Nat), (Q v M' ∧ (rt = none → v = aU)) ∧ o = .returned (rst ad' v).head? ∧ Rep D tA z ad' M' t.heap ∧ okA M'.2.2 v ∧ Ext lv ad ad' ∧ (∀ c i, lv c i = true → M'.2.2 c i = true) ∧ va_F (aA z) st t
def PG (gl : Nat) (gx : Nat → Int32) (D : va_G) (tA : Nat → ClassId) (z : Nat) (ad : Nat → Nat → Nat) (M : MM) (U : State) : Prop := SF gl gx z ad U U.heap ∧ Rep D tA z ad M U.heap ∧ KF D tA U ∧ z ≤ U.heap.size
abbrev wsM (r : MT) : List Cond := Cond.code r.1 r.2.1 r.2.2.1 r.2.2.2.1 :: lw_g
theorem lvl_args {ad : Nat → Nat → Nat} : ∀ (A : List AV) (n i : Nat), ∀ q ∈ lvl ad i (ent A n), q ∈ lv_args i (A.map (cv ad)) := by
  intro A
  induction A with
  | nil =>
    intro n i q hq
    obtain ⟨j, v, h1, h2, -⟩ := lvl_mem.mp hq
    exact absurd (List.mem_replicate.mp (List.mem_of_getElem? h1)).2 h2
  | cons a A ih =>
    intro n i q hq
    match a with
    | .inr (.inl x) =>
      show q ∈ (i, Value.long x) :: lv_args (if (Value.long x).category = 2 then i + 2 else i + 1) (A.map (cv ad))
      have hq : q ∈ (i, Value.long x) :: lvl ad (i + 1 + 1) (ent A (n - 2)) := hq
      rcases List.mem_cons.mp hq with h | h
      · exact List.mem_cons.mpr (Or.inl h)
      · exact List.mem_cons_of_mem _ (ih (n - 2) (i + 2) q h)
    | .inl x =>
      have hq : q ∈ (i, Value.int x) :: lvl ad (i + 1) (ent A (n - 1)) := hq
      show q ∈ (i, Value.int x) :: lv_args (i + 1) (A.map (cv ad))
      rcases List.mem_cons.mp hq with h | h
      · exact List.mem_cons.mpr (Or.inl h)
      · exact List.mem_cons_of_mem _ (ih (n - 1) (i + 1) q h)
    | .inr (.inr (.inl x)) =>
      have hq : q ∈ (i, Value.ref (ad x.1 x.2)) :: lvl ad (i + 1) (ent A (n - 1)) := hq
      show q ∈ (i, Value.ref (ad x.1 x.2)) :: lv_args (i + 1) (A.map (cv ad))
      rcases List.mem_cons.mp hq with h | h
      · exact List.mem_cons.mpr (Or.inl h)
      · exact List.mem_cons_of_mem _ (ih (n - 1) (i + 1) q h)
    | .inr (.inr (.inr true)) =>
      have hq : q ∈ (i, Value.null) :: lvl ad (i + 1) (ent A (n - 1)) := hq
      show q ∈ (i, Value.null) :: lv_args (i + 1) (A.map (cv ad))
      rcases List.mem_cons.mp hq with h | h
      · exact List.mem_cons.mpr (Or.inl h)
      · exact List.mem_cons_of_mem _ (ih (n - 1) (i + 1) q h)
    | .inr (.inr (.inr false)) =>
      have hq : q ∈ lvl ad (i + 1) (ent A (n - 1)) := hq
      show q ∈ (i, Value.null) :: lv_args (i + 1) (A.map (cv ad))
      exact List.mem_cons_of_mem _ (ih (n - 1) (i + 1) q hq)
theorem ent_size {ad : Nat → Nat → Nat} : ∀ (A : List AV) (n : Nat), (lg_sl (A.map (cv ad))).length ≤ (ent A n).length := by
  intro A
  induction A with
  | nil => intro n; simp [lg_sl]
  | cons a A ih =>
    intro n
    match a with
    | .inr (.inl x) =>
      have := ih (n - 2)
      show (Slot.val (.long x) :: Slot.second :: lg_sl (A.map (cv ad))).length ≤ (aL x :: aU :: ent A (n - 2)).length
      simp only [List.length_cons]
      omega
    | .inl x =>
      have := ih (n - 1)
      show (Slot.val (.int x) :: lg_sl (A.map (cv ad))).length ≤ (aI x :: ent A (n - 1)).length
      simp only [List.length_cons]
      omega
    | .inr (.inr (.inl x)) =>
      have := ih (n - 1)
      show (Slot.val (.ref (ad x.1 x.2)) :: lg_sl (A.map (cv ad))).length ≤ ((.inr (.inr (.inl x)) : AV) :: ent A (n - 1)).length
      simp only [List.length_cons]
      omega
    | .inr (.inr (.inr b)) =>
      have := ih (n - 1)
      show (Slot.val .null :: lg_sl (A.map (cv ad))).length ≤ ((.inr (.inr (.inr b)) : AV) :: ent A (n - 1)).length
      simp only [List.length_cons]
      omega
theorem ent_ok {lv : LV} : ∀ (A : List AV) (n : Nat), (∀ v ∈ A, okA lv v) → ∀ v ∈ ent A n, okA lv v := by
  intro A
  induction A with
  | nil => intro n _ v hv; rw [(List.mem_replicate.mp hv).2]; trivial
  | cons a A ih =>
    intro n h v hv
    have h1 := h a List.mem_cons_self
    have h2 : ∀ v ∈ A, okA lv v := fun v hv => h v (List.mem_cons_of_mem _ hv)
    match a with
    | .inr (.inl x) =>
      have hv : v ∈ aL x :: aU :: ent A (n - 2) := hv
      rcases List.mem_cons.mp hv with rfl | hv
      · trivial
      · rcases List.mem_cons.mp hv with rfl | hv
        · trivial
        · exact ih _ h2 v hv
    | .inl x =>
      have hv : v ∈ aI x :: ent A (n - 1) := hv
      rcases List.mem_cons.mp hv with rfl | hv
      · trivial
      · exact ih _ h2 v hv
    | .inr (.inr (.inl x)) =>
      have hv : v ∈ (.inr (.inr (.inl x)) : AV) :: ent A (n - 1) := hv
      rcases List.mem_cons.mp hv with rfl | hv
      · exact h1
      · exact ih _ h2 v hv
    | .inr (.inr (.inr b)) =>
      have hv : v ∈ (.inr (.inr (.inr b)) : AV) :: ent A (n - 1) := hv
      rcases List.mem_cons.mp hv with rfl | hv
      · trivial
      · exact ih _ h2 v hv
/-- a run of the abstract machine from a method's entry is a contract of the method -/
theorem met_of {d y : Nat} {P : PL} {A : List AV} {M : MM} {Q : PO} {r : MT} {ad : Nat → Nat → Nat} (hr : mt y = some r) (h3 : r.2.2.2.2.1 ≠ 3) (h : Sim gl gx z D tA l d P y 0 (ent A r.2.2.1) [] M Q) (hlen : (ent A r.2.2.1).length = r.2.2.1) (hA : ∀ v ∈ A, okA M.2.2 v) :
    Met l r.1 (wsM r) ({ frames := d, cells := P.length, slots := psz P, locals := 64 * d }) (va_Pc (A.map (cv ad)) (PG gl gx D tA z ad M)) (QG D tA z r.2.2.2.1 Q M.2.2 ad) P.length (psz P) (aA z) := by
  have hmk := mok_in y r hr h3
  refine Met.ofW (cc := r.2.1) (maxL := r.2.2.1) (ret := r.2.2.2.1) hmk.2.1 rfl ?_
  intro p e s m args below meth c s₁ B hml hv
  obtain ⟨rfl, hSF, hRep, hKF, hz⟩ := hv
  have hx := B.exec
  have hb := B.bytes
  have hret := B.returns
  have hts := atoms_spec (ws := wsM r) B.pre
  have hown : s.vm.findClass r.1.cls = some m.cls := findClass_of_methodNamed B.named
  have hlocks := B.notSynchronized
  have hl := lv_entry (A.map (cv ad)) (n := r.2.2.1) (Nat.le_trans (ent_size A r.2.2.1) (Nat.le_of_eq hlen))
  rw [lg_entry_eq]
  generalize (lg_sl (A.map (cv ad)) ++ List.replicate (r.2.2.1 - (lg_sl (A.map (cv ad))).length) Slot.unset).toArray = ls at hl ⊢
  have C : Cx z D tA p ({ frames := d, cells := P.length, slots := psz P, locals := 64 * d }) s m (A.map (cv ad)).toArray meth c r d :=
    ⟨hx, hb, hml, hown, fun w hw => hts w (List.mem_cons_of_mem _ hw), fun hi => by rw [(name_of_methodNamed B.named B.method).1]; exact hi, hKF, hz, Nat.le_refl _, Nat.le_refl _, lok_in y r hr⟩
  refine h p e _ s m _ below meth c _ r hr C ad s.heap [] 0 0 ls ⟨hSF, va_S.rf, hRep, lvl_sub hl (lvl_args A _ 0), hlen, ent_ok A _ hA, fun v hv => absurd hv List.not_mem_nil, by show 0 + P.length ≤ P.length; omega, by show 0 + psz P ≤ psz P; omega⟩ ?_
  intro v M' ad' H' locs' cells' slots' pc' ls' g1 g2 g3 g4 g5 g6 g7 g8 g9
  refine W.widen (k := P.length) (n := psz P) g7 g8 ?_
  have hvU : r.2.2.2.1 = none → v = aU := by
    intro h0
    rcases g9 with ⟨e1, e2, e3⟩ | ⟨x, ty, e1, e2, e3, e4⟩ | ⟨C0, e1, e2, e3⟩
    · exact e2
    · rw [h0] at e1; cases e1
    · rw [h0] at e1; cases e1
  have fin : ∀ (o : Option Value), o = (rst ad' v).head? → ∀ t : State, t.heap = H' → s.WarmedH t.vm → QG D tA z r.2.2.2.1 Q M.2.2 ad (A.map (cv ad)).toArray s (.returned o) t := fun o ho t ht hW =>
    ⟨v, M', ad', ⟨g1, hvU⟩, by rw [ho], by rw [ht]; exact g2, g3, g4, g5, g6.F ht⟩
  rcases g9 with ⟨e1, rfl, e3⟩ | ⟨x, ty, e1, rfl, e3, e4⟩ | ⟨C0, e1, e2, e3⟩
  · exact W.vret hx hb (hret.trans e1) (fin none rfl) g6.2.2 e3
  · exact W.zret hx hb (hret.trans e1) e3 (fin (some (.int x)) rfl) g6.2.2 e4
  · rcases e2 with ⟨q, rfl⟩ | rfl
    · exact W.aret hx hb (hret.trans e1) (Or.inl ⟨_, rfl⟩) (Or.inr ⟨_, rfl⟩) (fin _ rfl) g6.2.2 e3
    · exact W.aret hx hb (hret.trans e1) (Or.inl ⟨_, rfl⟩) (Or.inl rfl) (fin _ rfl) g6.2.2 e3
variable {p : Program} {e : Env} {R : Room} {s : State} {m : MethodId} {args : Array Value} {below : List Frame} {meth : Method} {c : Code} {Zq : State → Prop} {r : MT} {Q : PO} {d : Nat}
variable {K J : Nat → PL → List AV → List AV → MM → Prop} {pc n : Nat} {P : PL} {L S T : List AV} {M : MM} {X : XT}
theorem row_back {rt : Option FieldType} {mc ms cells slots : Nat} {H : Heap} {locs : List Loc} {ls : Array Slot} {st0 rest : List Value} {a : Array Value} {Q' : PO} {lv : LV} {ad : Nat → Nat → Nat} (hr : va_Run p l e R s m args below meth c H locs cells slots mc ms (F0 m pc ls st0) rest (QG D tA z rt Q' lv ad a) (aA z)) (hS : va_S (aA z) s.heap H locs)
    (kk : ∀ (v : AV) (M' : MM) (ad' : Nat → Nat → Nat) (H1 : Heap) (locs1 : List Loc), (Q' v M' ∧ (rt = none → v = aU)) → Rep D tA z ad' M' H1 → okA M'.2.2 v → Ext lv ad ad' → (∀ c i, lv c i = true → M'.2.2 c i = true) → va_S (aA z) s.heap H1 locs1 → W p l e R s m args below meth c H1 locs1 (cells + mc) (slots + ms) Zq (F0 m (pc + 3) ls ((rst ad' v).head?.toList ++ rest))) : W p l e R s m args below meth c H locs cells slots Zq (F0 m pc ls st0) := by
  intro T hT X
  obtain ⟨v, st₀, t, T', L, h0, X', hL, e1, e2, ⟨w, M', ad', q1, q2, q3, q4, q5, q6, hz, hk⟩, st⟩ := hr T hT X
  cases q2
  rw [h0] at hz hk
  obtain ⟨t2, a1, b1⟩ := kk w M' ad' T'.heap (locs ++ L) q1 (by rw [e1]; exact q3) q4 q5 q6
    ⟨Nat.le_trans hS.1 (by rw [e1]; exact hz), fun q h1 h2 => by rw [e1, hk q (Nat.lt_of_lt_of_le h1 hS.1) h2]; exact hS.2.1 q h1 h2, fun q hq => by
      rcases List.mem_append.mp hq with h | h
      · exact hS.2.2 q h
      · exact hL q h⟩ T' rfl X'
  exact ⟨t2, st t2 a1, b1⟩
theorem PG_blind {A : List Value} {ad : Nat → Nat → Nat} : FrameBlind (va_Pc A (PG gl gx D tA z ad M)) := by
  intro a U g mk ⟨h1, h2, h3, h4, h5⟩
  exact ⟨h1, SF.same (u := U) (U := U.calling g mk a) rfl h2, h3, KF.same (u := U) (U := U.calling g mk a) rfl h4, h5⟩
theorem PG_at {ad : Nat → Nat → Nat} {H : Heap} {locs : List Loc} {cells slots : Nat} {ls : Array Slot} (C : Cx z D tA p R s m args meth c r d) (hD : Dx gl gx z D tA R s r ad H locs cells slots ls P L S M) {U : State} (hU : U.heap = H) (hW : s.WarmedH U.vm) : PG gl gx D tA z ad M U := by
  have hz := C.2.2.2.2.2.2.2.1
  refine ⟨SF.moved hW ?_, by rw [hU]; exact hD.2.2.1, C.2.2.2.2.2.2.1.moved hW, by rw [hU]; exact Nat.le_trans hz hD.2.1.1⟩
  rw [hU]
  exact hD.1.kept hz hD.2.1.2.1
theorem wsM_good {y : Nat} (hr : mt y = some r) (h3 : r.2.2.2.2.1 ≠ 3) : GoodIn lw_g (wsM r) := by
  intro w hw
  rcases List.mem_cons.mp hw with rfl | h
  · exact lw_g_good _ (lw_g_of (code_in y r hr h3) rfl)
  · exact lw_g_good _ h
theorem psz_app {A B : PL} : psz (A ++ B) = psz A + psz B := by simp [psz]
/-- behind a call: what comes back goes on -/
theorem go_back {rt : Option FieldType} {cells slots : Nat} {H : Heap} {locs : List Loc} {ls : Array Slot} {ad : Nat → Nat → Nat} {np : Nat} {T : List AV} {a : Array Value} {st0 : List Value} {rk : Nat} {fv : MM → Prop} {f : AV → MM → Prop} (hD : Dx gl gx z D tA R s r ad H locs cells slots ls P L S M) (hT : ∀ v ∈ T, v ∈ S) (hR : Ret z D tA l p e R s m args below meth c Zq r Q M.2.2 ad)
    (hr : va_Run p l e R s m args below meth c H locs cells slots (P.take np).length (psz (P.take np)) (F0 m pc ls st0) (T.map (cv ad)) (QG D tA z rt (onR rk fv f) M.2.2 ad a) (aA z))
    (hv0 : rk = 0 → rt = none)
    (h0 : ∀ M', fv M' → Go gl gx z D tA l p e R s m args below meth c Zq r Q (pc + 3) (P.drop np) L T M') (h1 : ∀ v M', f v M' → Go gl gx z D tA l p e R s m args below meth c Zq r Q (pc + 3) (P.drop np) L (v :: T) M') : W p l e R s m args below meth c H locs cells slots Zq (F0 m pc ls st0) := by
  refine row_back hr hD.2.1 fun v M' ad' H1 locs1 qq q2 q3 q4 q5 q6 => ?_
  obtain ⟨q1, qU⟩ := qq
  have eT : T.map (cv ad) = T.map (cv ad') := List.map_congr_left fun v hv => (cv_ext q4 (hD.2.2.2.2.2.2.1 v (hT v hv))).symm
  have hc : cells + (P.take np).length + (P.drop np).length ≤ R.cells := by
    have h8 := hD.2.2.2.2.2.2.2.1
    have : (P.take np).length + (P.drop np).length = P.length := by rw [← List.length_append, List.take_append_drop]
    omega
  have hs : slots + psz (P.take np) + psz (P.drop np) ≤ R.slots := by
    have h9 := hD.2.2.2.2.2.2.2.2
    have : psz (P.take np) + psz (P.drop np) = psz P := by rw [← psz_app, List.take_append_drop]
    omega
  have hDn : ∀ U : List AV, (∀ v ∈ U, v ∈ T ∨ okA M'.2.2 v) → Dx gl gx z D tA R s r ad' H1 locs1 (cells + (P.take np).length) (slots + psz (P.take np)) ls (P.drop np) L U M' := fun U hU =>
    ⟨hD.1.ext q4, q6, q2, lvl_ext q4 hD.2.2.2.2.2.1 hD.2.2.2.1, hD.2.2.2.2.1, fun v hv => okA_mono q5 (hD.2.2.2.2.2.1 v hv), fun v hv => (hU v hv).elim (fun q => okA_mono q5 (hD.2.2.2.2.2.2.1 v (hT v q))) id, hc, hs⟩
  have hRn := hR.mono q5 q4
  match rk, q1, hv0 with
  | 0, q1, hv0 =>
    have : v = aU := qU (hv0 rfl)
    subst this
    show W p l e R s m args below meth c H1 locs1 _ _ Zq (F0 m (pc + 3) ls (T.map (cv ad)))
    rw [eT]
    exact h0 M' q1 ad' H1 locs1 _ _ ls (hDn T fun v hv => Or.inl hv) hRn
  | 1, q1, _ =>
    match v, q1, q3 with
    | .inl x, q1, _ =>
      show W p l e R s m args below meth c H1 locs1 _ _ Zq (F0 m (pc + 3) ls (Value.int x :: T.map (cv ad)))
      rw [eT]
      exact h1 (aI x) M' q1 ad' H1 locs1 _ _ ls (hDn (aI x :: T) fun v hv => (List.mem_cons.mp hv).elim (fun q => Or.inr (by rw [q]; trivial)) Or.inl) hRn
  | k + 2, q1, _ =>
    match v, q1, q3 with
    | .inr (.inr (.inl q)), q1, q3 =>
      obtain ⟨qc, qi⟩ := q
      obtain ⟨e1, q1⟩ := q1
      have e1 : qc = k := e1
      subst e1
      show W p l e R s m args below meth c H1 locs1 _ _ Zq (F0 m (pc + 3) ls (Value.ref (ad' qc qi) :: T.map (cv ad)))
      rw [eT]
      exact h1 (aR qc qi) M' q1 ad' H1 locs1 _ _ ls (hDn (aR qc qi :: T) fun v hv => (List.mem_cons.mp hv).elim (fun q => Or.inr (by rw [q]; exact q3)) Or.inl) hRn
    | .inr (.inr (.inr true)), q1, _ =>
      show W p l e R s m args below meth c H1 locs1 _ _ Zq (F0 m (pc + 3) ls (Value.null :: T.map (cv ad)))
      rw [eT]
      exact h1 aN M' q1 ad' H1 locs1 _ _ ls (hDn (aN :: T) fun v hv => (List.mem_cons.mp hv).elim (fun q => Or.inr (by rw [q]; trivial)) Or.inl) hRn
end CALLS
end
section
/-! WORDS of the machine's own methods -/
theorem wp_acn : Cond.native arraycopyName ∈ lw_g := lw_g_of (inT_mem (p := (2, 128)) (by decide +kernel)) rfl
theorem wp_acs : Cond.static arraycopyName ∈ lw_g := lw_g_of (inT_mem (p := (2, 127)) (by decide +kernel)) rfl
theorem wp_sys : Cond.initialized "java/lang/System" ∈ lw_g := lw_g_of (inT_mem (p := (0, 17)) (by decide +kernel)) rfl
theorem wp_math : Cond.initialized "java/lang/Math" ∈ lw_g := lw_g_of (inT_mem (p := (0, 12)) (by decide +kernel)) rfl
theorem wp_maxs : Cond.static Lib.Math.max.name ∈ lw_g := lw_g_of (inT_mem (p := (3, 138)) (by decide +kernel)) rfl
theorem wp_mins : Cond.static Lib.Math.min.name ∈ lw_g := lw_g_of (inT_mem (p := (1, 178)) (by decide +kernel)) rfl
theorem wp_maxc : Cond.code Lib.Math.max.name Lib.Math.max.code 2 (some .int) ∈ lw_g := lw_g_of (inT_r 3 139 rfl) rfl
theorem wp_minc : Cond.code Lib.Math.min.name Lib.Math.min.code 2 (some .int) ∈ lw_g := lw_g_of (inT_r 1 179 rfl) rfl
theorem wp_oii : Cond.instanceMethod objectInit ∈ lw_g := lw_g_of (inT_mem (p := (0, 26)) (by decide +kernel)) rfl
theorem wp_oic : Cond.code objectInit ⟨#[0xb1]⟩ 1 none ∈ lw_g := lw_g_of (inT_r 0 27 rfl) rfl
def pkName : MethodName := ⟨"jdk/internal/util/Preconditions", "checkIndex", "(IILjava/util/function/BiFunction;)I"⟩
theorem wp_ckc : Cond.code ciName prog_16_method_155_code 2 none ∈ lw_g := lw_g_of (inT_r 2 14 rfl) rfl
theorem wp_pkc : Cond.code pkName prog_20_method_11_code 3 (some .int) ∈ lw_g := lw_g_of (inT_r 2 19 rfl) rfl
theorem wp_cks : Cond.static ciName ∈ lw_g := lw_g_of (inT_mem (p := (2, 13)) (by decide +kernel)) rfl
theorem wp_pks : Cond.static pkName ∈ lw_g := lw_g_of (inT_mem (p := (2, 18)) (by decide +kernel)) rfl
theorem wp_str : Cond.initialized "java/lang/String" ∈ lw_g := lw_g_of (inT_mem (p := (0, 13)) (by decide +kernel)) rfl
theorem wp_pre : Cond.initialized "jdk/internal/util/Preconditions" ∈ lw_g := lw_g_of (inT_mem (p := (0, 15)) (by decide +kernel)) rfl
theorem wp_pkl : Cond.methodLink "java/lang/String" 1059 pkName ∈ lw_g := lw_g_of (inT_mem (p := (2, 17)) (by decide +kernel)) rfl
theorem wp_sio : Cond.fieldLink "java/lang/String" 1053 "jdk/internal/util/Preconditions" "SIOOBE_FORMATTER" "Ljava/util/function/BiFunction;" ∈ lw_g := lw_g_of (inT_mem (p := (2, 15)) (by decide +kernel)) rfl
theorem dck_0 : decode prog_16_method_155_code 0 = .ok (.iload_n 0, 1) := by decide +kernel
theorem dck_1 : decode prog_16_method_155_code 1 = .ok (.iload_n 1, 1) := by decide +kernel
theorem dck_2 : decode prog_16_method_155_code 2 = .ok (.getstatic 1053, 3) := by decide +kernel
theorem dck_5 : decode prog_16_method_155_code 5 = .ok (.invokestatic 1059, 3) := by decide +kernel
theorem dck_8 : decode prog_16_method_155_code 8 = .ok (.pop, 1) := by decide +kernel
theorem dck_9 : decode prog_16_method_155_code 9 = .ok (.return_, 1) := by decide +kernel
theorem dpk_0 : decode prog_20_method_11_code 0 = .ok (.iload_n 0, 1) := by decide +kernel
theorem dpk_1 : decode prog_20_method_11_code 1 = .ok (.ifCond .lt 8, 3) := by decide +kernel
theorem dpk_4 : decode prog_20_method_11_code 4 = .ok (.iload_n 0, 1) := by decide +kernel
theorem dpk_5 : decode prog_20_method_11_code 5 = .ok (.iload_n 1, 1) := by decide +kernel
theorem dpk_6 : decode prog_20_method_11_code 6 = .ok (.if_icmp .lt 10, 3) := by decide +kernel
theorem dpk_9 : decode prog_20_method_11_code 9 = .ok (.aload_n 2, 1) := by decide +kernel
theorem dpk_10 : decode prog_20_method_11_code 10 = .ok (.iload_n 0, 1) := by decide +kernel
theorem dpk_11 : decode prog_20_method_11_code 11 = .ok (.iload_n 1, 1) := by decide +kernel
theorem dpk_12 : decode prog_20_method_11_code 12 = .ok (.invokestatic 95, 3) := by decide +kernel
theorem dpk_15 : decode prog_20_method_11_code 15 = .ok (.athrow, 1) := by decide +kernel
theorem dpk_16 : decode prog_20_method_11_code 16 = .ok (.iload_n 0, 1) := by decide +kernel
theorem dpk_17 : decode prog_20_method_11_code 17 = .ok (.ireturn, 1) := by decide +kernel
theorem wp_arr_int : Cond.arrayClass .int ∈ lw_g := lw_g_of (inT_mem (p := (0, 112)) (by decide +kernel)) rfl
theorem wp_arr_byte : Cond.arrayClass .byte ∈ lw_g := lw_g_of (inT_mem (p := (2, 144)) (by decide +kernel)) rfl
theorem wp_arr_boolean : Cond.arrayClass .boolean ∈ lw_g := lw_g_of (inT_mem (p := (5, 80)) (by decide +kernel)) rfl
end
section
/-! ONE STEP: invocations -/
section STEP7
variable {gl : Nat} {gx : Nat → Int32} {z : Nat} {D : va_G} {tA : Nat → ClassId} {l : Launch} {p : Program} {e : Env} {R : Room} {s : State} {m : MethodId} {args : Array Value} {below : List Frame} {meth : Method} {c : Code} {Zq : State → Prop} {r : MT} {Q : PO} {d : Nat}
variable {K J : Nat → PL → List AV → List AV → MM → Prop} {pc n : Nat} {P : PL} {L S T : List AV} {M : MM}
theorem rcd0 {t : Option FieldType} (h : rcd t = 0) : t = none := by
  unfold rcd at h
  split at h
  · rfl
  · split at h <;> omega
  · cases h
theorem cOK_virt {own : String} {k y n nl rr np c0 : Nat} {q : Nat × Nat} (h : cOK own (k, c0 + 10, y, n, nl, rr, np) q = true) : ∃ r, mt y = some r ∧ inT (.methodLink own k r.1) q = true ∧ (parseMethodDescriptor r.1.desc).map (fun d => d.parameters.length) = some n ∧ r.2.2.1 = nl ∧ rcd r.2.2.2.1 = rr ∧ r.2.2.2.2.1 = 1 ∧ kcls c0 = r.1.cls ∧ (c0 < 11 ∨ c0 = 16) := by
  unfold cOK at h
  dsimp only at h
  split at h
  case h_7 =>
    split at h
    · rename_i r hr
      split at h
      · omega
      · omega
      · simp only [Bool.and_eq_true, decide_eq_true_eq, beq_iff_eq, Bool.or_eq_true] at h
        obtain ⟨⟨⟨⟨h1, h2⟩, h3⟩, h4⟩, ⟨⟨h5, h6⟩, h7⟩, h8⟩ := h
        refine ⟨r, hr, h1, h2, h3, h4, h6, by simpa using h7, h8.imp (fun q => ?_) (fun q => by omega)⟩
        have := Nat.le_of_ble_eq_true q
        omega
    · cases h
  all_goals omega
theorem cOK_stat {own : String} {k y n nl rr np : Nat} {q : Nat × Nat} (h : cOK own (k, 1, y, n, nl, rr, np) q = true) : ∃ r, mt y = some r ∧ inT (.methodLink own k r.1) q = true ∧ (parseMethodDescriptor r.1.desc).map (fun d => d.parameters.length) = some n ∧ r.2.2.1 = nl ∧ rcd r.2.2.2.1 = rr ∧ r.2.2.2.2.1 = 0 := by
  rw [show cOK own (k, 1, y, n, nl, rr, np) q = (match mt y with
    | some r => inT (.methodLink own k r.1) q && decide ((parseMethodDescriptor r.1.desc).map (fun d => d.parameters.length) = some n) && (r.2.2.1 == nl) && (rcd r.2.2.2.1 == rr) && (r.2.2.2.2.1 == 0)
    | none => false) from rfl] at h
  split at h
  · rename_i r hr
    simp only [Bool.and_eq_true, decide_eq_true_eq, beq_iff_eq] at h
    obtain ⟨⟨⟨⟨h1, h2⟩, h3⟩, h4⟩, h5⟩ := h
    exact ⟨r, hr, h1, h2, h3, h4, h5⟩
  · cases h
theorem cOK_spec {own : String} {k y n nl rr np : Nat} {q : Nat × Nat} (h : cOK own (k, 2, y, n, nl, rr, np) q = true) : ∃ r, mt y = some r ∧ inT (.methodLink own k r.1) q = true ∧ (parseMethodDescriptor r.1.desc).map (fun d => d.parameters.length) = some n ∧ r.2.2.1 = nl ∧ r.2.2.2.2.1 = 2 := by
  rw [show cOK own (k, 2, y, n, nl, rr, np) q = (match mt y with
    | some r => inT (.methodLink own k r.1) q && decide ((parseMethodDescriptor r.1.desc).map (fun d => d.parameters.length) = some n) && (r.2.2.1 == nl) && (rcd r.2.2.2.1 == rr) && (r.2.2.2.2.1 == 2)
    | none => false) from rfl] at h
  split at h
  · rename_i r hr
    simp only [Bool.and_eq_true, decide_eq_true_eq, beq_iff_eq] at h
    obtain ⟨⟨⟨⟨h1, h2⟩, h3⟩, h4⟩, h5⟩ := h
    exact ⟨r, hr, h1, h2, h3, h5⟩
  · cases h
theorem cOK_nest {own : String} {k y n nl rr np : Nat} {q : Nat × Nat} (h : cOK own (k, 3, y, n, nl, rr, np) q = true) : ∃ r, mt y = some r ∧ inT (.methodLinkNest own k r.1 "StencilHouse") q = true ∧ (parseMethodDescriptor r.1.desc).map (fun d => d.parameters.length) = some n ∧ r.2.2.1 = nl ∧ r.2.2.2.2.1 = 2 := by
  rw [show cOK own (k, 3, y, n, nl, rr, np) q = (match mt y with
    | some r => inT (.methodLinkNest own k r.1 "StencilHouse") q && decide ((parseMethodDescriptor r.1.desc).map (fun d => d.parameters.length) = some n) && (r.2.2.1 == nl) && (r.2.2.2.2.1 == 2)
    | none => false) from rfl] at h
  split at h
  · rename_i r hr
    simp only [Bool.and_eq_true, decide_eq_true_eq, beq_iff_eq] at h
    obtain ⟨⟨⟨h1, h2⟩, h3⟩, h4⟩ := h
    exact ⟨r, hr, h1, h2, h3, h4⟩
  · cases h
theorem recv_ok (C : Cx z D tA p R s m args meth c r d) {ad : Nat → Nat → Nat} {H : Heap} {locs : List Loc} {cells slots : Nat} {ls : Array Slot} (hD : Dx gl gx z D tA R s r ad H locs cells slots ls P L S M) {k i : Nat} (hm : aR k i ∈ S) (hk : k < 11 ∨ k = 16) : ∃ cell : Cell, H[ad k i]? = some cell ∧ cell.vm.isStatics = false ∧ s.vm.findClass (kcls k) = some cell.cls := by
  have hkf := C.2.2.2.2.2.2.1
  rcases hk with hk | rfl
  · have hst : stk k = false := by
      unfold stk
      rcases hq : Nat.ble 11 k with _ | _
      · rfl
      · have := Nat.le_of_ble_eq_true hq
        omega
    have hlv := lv_of hD hm hst
    obtain ⟨-, -, g3⟩ := hD.2.2.1.1 k i hlv
    have hb20 : Nat.ble 20 k = false := by
      rcases hq : Nat.ble 20 k with _ | _
      · rfl
      · have := Nat.le_of_ble_eq_true hq
        omega
    unfold cellR at g3
    rw [hb20] at g3
    obtain ⟨q, e1, cell, b1, b2, b3, -⟩ := g3
    have hb16 : Nat.beq k 16 = false := by
      rcases hq : Nat.beq k 16 with _ | _
      · rfl
      · have := Nat.eq_of_beq_eq_true hq
        omega
    have hkc : kcls k = q.1 := by
      unfold kcls
      rw [hb16]
      show (classes.getD k _).1 = q.1
      rw [List.getD_eq_getElem?_getD, e1]
      rfl
    exact ⟨cell, b1, by rw [b3]; rfl, by rw [hkc, b2]; exact (hkf.1.1 k q e1).2.1⟩
  · have hi13 : i < 13 := by
      rcases hD.2.2.2.2.2.2.1 _ hm with q | q
      · exact absurd (hD.2.2.1.1 16 i q).1 (by decide)
      · exact stv_hi q rfl
    exact vk_recv hD.1.2.2.1 hi13 hD.2.1
theorem take_rev (S : List AV) (n : Nat) (f : AV → Value) : ((S.take n).reverse.map f).reverse ++ (S.drop n).map f = S.map f := by
  rw [← List.map_reverse, List.reverse_reverse, ← List.map_append, List.take_append_drop]
/-- the room of a call -/
theorem room_call {d : Nat} {r' : MT} (h1 : d + 1 ≤ R.frames) (h2 : 64 * (d + 1) ≤ R.locals) (h3 : r'.2.2.1 ≤ 45) : d + 1 ≤ R.frames ∧ 8 + (r'.2.2.1 + 11) + 64 * d ≤ R.locals := ⟨h1, by omega⟩
theorem go_virtual {k : Nat} (C : Cx z D tA p R s m args meth c r d) (hK : ∀ pc' P L S M, pc' = pc + n → K pc' P L S M → Go gl gx z D tA l p e R s m args below meth c Zq r Q pc' P L S M) (hd : decode r.2.1 pc = .ok (.invokevirtual k, n)) (ho : okI (.invokevirtual k) pc n = true) (h : stepI gl gx (Sim gl gx z D tA l) d r.2.2.2.2.2 r.2.2.2.1 r.2.2.2.2.1 r.1.cls Q K J (.invokevirtual k) pc P L S M) : Go gl gx z D tA l p e R s m args below meth c Zq r Q pc P L S M := by
  have en : n = 3 := by simpa [okI] using ho
  subst en
  unfold stepI at h
  dsimp only at h
  obtain ⟨⟨w, y, na, nl, rr, np⟩, hm, h1⟩ := pK_inv h
  dsimp only at h1
  obtain ⟨k0, i, T1, hT1, h2⟩ := pR_inv h1
  obtain ⟨hw, h3⟩ := pB_inv h2
  have hw : k0 + 10 = w := Nat.eq_of_beq_eq_true hw
  subst hw
  obtain ⟨d', rfl, ⟨g1, g2, g3⟩, g4⟩ := pD_inv h3
  obtain ⟨q, hq⟩ := C.2.2.2.2.2.2.2.2.2.2.2.1 _ hm
  obtain ⟨r', hr, f1, f2, f3, f4, f5, f6, f7⟩ := cOK_virt hq
  subst f3
  have h3n : r'.2.2.2.2.1 ≠ 3 := by rw [f5]; decide
  have hmk := mok_in y r' hr h3n
  intro ad H locs cells slots ls hD hR
  have hS : S = S.take na ++ (aR k0 i :: T1) := by rw [← hT1, List.take_append_drop]
  have hmem : aR k0 i ∈ S := by rw [hS]; simp
  have hA : ∀ v ∈ aR k0 i :: (S.take na).reverse, okA M.2.2 v := by
    intro v hv
    refine hD.2.2.2.2.2.2.1 v ?_
    rcases List.mem_cons.mp hv with rfl | hv
    · exact hmem
    · rw [hS]; exact List.mem_append_left _ (List.mem_reverse.mp hv)
  have hM := met_of (ad := ad) hr h3n g4 g3 hA
  have hwords : ∀ w ∈ mneed r', w.before args s = true := fun w hw => C.2.2.2.2.1 _ (hmk.1 w hw)
  have hi := hwords (.initialized r'.1.cls) List.mem_cons_self
  have hin := hwords (.instanceMethod r'.1) (by unfold mneed; rw [f5]; simp)
  have hsel := hwords (.selects r'.1.cls r'.1 r'.1) (by unfold mneed; rw [f5]; simp)
  have hrecv := recv_ok C hD hmem f7
  rw [f6] at hrecv
  have cb := callB_of (R := R) (s := s) (args := args) (own := r.1.cls) (index := k) (y := r'.1) (bytes := r'.2.1) (maxL := r'.2.2.1) (ret := r'.2.2.2.1) (ws := wsM r') (rm := { frames := d', cells := (P.take np).length, slots := psz (P.take np), locals := 64 * d' }) (mc := (P.take np).length) (ms := psz (P.take np)) na C.2.2.2.2.1 (wsM_good hr h3n) rfl rfl rfl hi (word_of C.2.2.2.2.1 f1 rfl) ⟨hmk.2.2.1.1, hmk.2.2.1.2, f2⟩ (room_call C.2.2.2.2.2.2.2.2.1 C.2.2.2.2.2.2.2.2.2.1 hmk.2.2.2.1)
  have hcell : cells + (P.take np).length ≤ R.cells ∧ slots + psz (P.take np) ≤ R.slots := by
    have e1 : (P.take np).length + (P.drop np).length = P.length := by rw [← List.length_append, List.take_append_drop]
    have e2 : psz (P.take np) + psz (P.drop np) = psz P := by rw [← psz_app, List.take_append_drop]
    have h8 := hD.2.2.2.2.2.2.2.1
    have h9 := hD.2.2.2.2.2.2.2.2
    omega
  have hrun := va_runV (l := l) (e := e) (below := below) (meth := meth) (H := H) (locs := locs) (cells := cells) (slots := slots) (g := F0 m pc ls (S.map (cv ad))) (As := (S.take na).reverse.map (cv ad)) (b := ad k0 i) (rest := T1.map (cv ad)) ⟨C.1, C.2.1, C.2.2.1, C.2.2.2.1, C.2.2.2.2.1⟩ hM ⟨cb, hin, hsel⟩ ⟨PG_blind, hrecv, fun U hU hW => ⟨rfl, PG_at C hD hU hW⟩⟩ rfl (by rw [List.length_map, List.length_reverse, g2]) hD.2.2.2.1.1
    (by
      show S.map (cv ad) = _
      have e1 := take_rev S na (cv ad)
      rw [hT1] at e1
      exact e1.symm) (lv_room (by rw [show ((T1.map (cv ad)).map fun v => v.category).sum ≤ 8 ↔ _ from Iff.rfl]; have := cat_sum (T1.map (cv ad)); rw [List.length_map] at this; omega)) hd hcell
  exact go_back hD (fun v hv => by rw [hS]; simp [hv]) hR hrun (fun h0 => rcd0 (f4.trans h0)) (fun M' hf => hK _ _ _ _ _ rfl hf) (fun v M' hf => hK _ _ _ _ _ rfl hf)
end STEP7
end
section
/-! ONE STEP: the rest of the invocations -/
section CKI
variable {z : Nat} {l : Launch}
def QN (ok : Option Value → Prop) : Array Value → State → Outcome → State → Prop := fun _ st o t => (∃ v, o = .returned v ∧ ok v) ∧ t.heap = st.heap
theorem wsp_good {w : Cond} (h : w ∈ lw_g) : GoodIn lw_g (w :: lw_g) := fun x hx => (List.mem_cons.mp hx).elim (fun e => by rw [e]; exact lw_g_good _ h) (lw_g_good x)
theorem met_pk (x n : Int32) (v : Value) (h0 : ¬ x < 0) (h1 : x < n) : Met l pkName (.code pkName prog_20_method_11_code 3 (some .int) :: lw_g) ({ frames := 0, cells := 0, slots := 0, locals := 0 }) (va_Pc [.int x, .int n, v] (fun _ => v = .null ∨ ∃ a, v = .ref a)) (QN (fun v => v = some (.int x))) 0 0 (fun _ => False) := by
  refine Met.ofW (cc := prog_20_method_11_code) (maxL := 3) (ret := some .int) (by decide +kernel) rfl ?_
  intro p e s m args below meth c s₁ B hml hv
  obtain ⟨rfl, hcat⟩ := hv
  have hx := B.exec
  have hb := B.bytes
  have hr := B.returns
  have hlocks := B.notSynchronized
  have hl := lv_entry ([.int x, .int n, v]) (n := 3) (by rcases hcat with rfl | ⟨a, rfl⟩ <;> exact Nat.le_of_ble_eq_true rfl)
  rw [lg_entry_eq]
  generalize (lg_sl ([.int x, .int n, v]) ++ List.replicate (3 - (lg_sl ([.int x, .int n, v])).length) Slot.unset).toArray = ls at hl ⊢
  have hl : lv_has ls 3 [(0, .int x), (1, .int n), (2, v)] := hl
  refine lv_iload_n hx hb dpk_0 rfl (lv_at hl 0 rfl) ?_
  refine lv_if_lt (tgt := 9) hx hb dpk_1 (by decide) (fun q => absurd q h0) (fun _ => ?_)
  refine lv_iload_n hx hb dpk_4 rfl (lv_at hl 0 rfl) ?_
  refine lv_iload_n hx hb dpk_5 rfl (lv_at hl 1 rfl) ?_
  refine lv_icmp_lt (tgt := 16) hx hb dpk_6 (by decide) (fun _ => ?_) (fun q => absurd h1 q)
  refine lv_iload_n hx hb dpk_16 rfl (lv_at hl 0 rfl) ?_
  exact W.iret hx hb hr (fun t ht hW => ⟨⟨_, rfl, rfl⟩, ht⟩) (fun _ h => by cases h) dpk_17
section
variable {p : Program} {e : Env} {R : Room} {s : State} {m : MethodId} {args : Array Value} {below : List Frame} {meth : Method} {c : Code} {Zq : State → Prop}
theorem row_backN {cells slots pc : Nat} {H : Heap} {locs : List Loc} {ls : Array Slot} {st0 rest : List Value} {a : Array Value} {ok : Option Value → Prop} (hr : va_Run p l e R s m args below meth c H locs cells slots 0 0 (F0 m pc ls st0) rest (QN ok a) (fun _ => False))
    (kk : ∀ v, ok v → W p l e R s m args below meth c H locs cells slots Zq (F0 m (pc + 3) ls (v.toList ++ rest))) : W p l e R s m args below meth c H locs cells slots Zq (F0 m pc ls st0) := by
  intro T hT X
  obtain ⟨v, st₀, t, T', L, h0, X', hL, e1, e2, ⟨⟨w, hw, hok⟩, hz⟩, st⟩ := hr T hT X
  cases hw
  have hL0 : L = [] := by
    cases L with
    | nil => rfl
    | cons q L => exact (hL q List.mem_cons_self).elim
  subst hL0
  rw [List.append_nil] at X'
  obtain ⟨t2, a1, b1⟩ := kk v hok T' (by rw [e1, hz, h0]) X'
  exact ⟨t2, st t2 a1, b1⟩
end
def PK (z : Nat) (U : State) : Prop := ∃ v, va_Z "jdk/internal/util/Preconditions" "SIOOBE_FORMATTER" "Ljava/util/function/BiFunction;" v (aA z) U U.heap ∧ (v = .null ∨ ∃ a, v = .ref a)
theorem met_ck (x n : Int32) (h0 : ¬ x < 0) (h1 : x < n) : Met l ciName (.code ciName prog_16_method_155_code 2 none :: lw_g) ({ frames := 1, cells := 0, slots := 0, locals := 40 }) (va_Pc [.int x, .int n] (PK z)) (QN (fun v => v = none)) 0 0 (fun _ => False) := by
  refine Met.ofW (cc := prog_16_method_155_code) (maxL := 2) (ret := none) (by decide +kernel) rfl ?_
  intro p e s m args below meth c s₁ B hml hv
  obtain ⟨rfl, v, hZ, hv⟩ := hv
  have hx := B.exec
  have hb := B.bytes
  have hr := B.returns
  have hts := atoms_spec (ws := .code ciName prog_16_method_155_code 2 none :: lw_g) B.pre
  have hw : ∀ w ∈ lw_g, w.before (List.toArray [Value.int x, Value.int n]) s = true := fun w h => hts w (List.mem_cons_of_mem _ h)
  have hown : s.vm.findClass "java/lang/String" = some m.cls := findClass_of_methodNamed B.named
  have hlocks := B.notSynchronized
  have hl := lv_entry ([.int x, .int n]) (n := 2) (Nat.le_of_ble_eq_true rfl)
  rw [lg_entry_eq]
  generalize (lg_sl ([.int x, .int n]) ++ List.replicate (2 - (lg_sl ([.int x, .int n])).length) Slot.unset).toArray = ls at hl ⊢
  have hl : lv_has ls 2 [(0, .int x), (1, .int n)] := hl
  refine lv_iload_n hx hb dck_0 rfl (lv_at hl 0 rfl) ?_
  refine lv_iload_n hx hb dck_1 rfl (lv_at hl 1 rfl) ?_
  refine va_gets hx hb hZ va_S.rf hown (hw _ wp_sio) (fun _ h => h) dck_2 ?_
  have cb := callB_of (R := ({ frames := 1, cells := 0, slots := 0, locals := 40 } : Room)) (s := s) (args := List.toArray [Value.int x, Value.int n]) (own := "java/lang/String") (index := 1059) (y := pkName) (bytes := prog_20_method_11_code) (maxL := 3) (ret := some .int) (ws := .code pkName prog_20_method_11_code 3 (some .int) :: lw_g) (rm := { frames := 0, cells := 0, slots := 0, locals := 0 }) (mc := 0) (ms := 0) 3 hw (wsp_good wp_pkc) rfl rfl rfl (hw _ wp_pre) (hw _ wp_pkl) (by decide +kernel) ⟨Nat.le_refl _, by decide⟩
  refine row_backN (l := l) (va_runS (l := l) (e := e) (below := below) (meth := meth) (H := s.heap) (locs := []) (cells := 0) (slots := 0) (g := F0 m 5 ls [v, .int n, .int x]) (As := [.int x, .int n, v]) (rest := []) ⟨hx, hb, hml, hown, hw⟩ (met_pk x n v h0 h1) ⟨cb, hw _ wp_pks⟩ ⟨fun a U g mk q => q, fun U hU hW => ⟨rfl, hv⟩⟩ rfl rfl hl.1 rfl (Nat.zero_le _) dck_5 ⟨Nat.le_refl _, Nat.le_refl _⟩) fun w hw2 => ?_
  subst hw2
  refine lv_pop hx hb dck_8 rfl ?_
  exact W.vret hx hb hr (fun t ht hW => ⟨⟨_, rfl, rfl⟩, ht⟩) (fun _ h => by cases h) dck_9
end CKI
section STEP8
variable {gl : Nat} {gx : Nat → Int32} {z : Nat} {D : va_G} {tA : Nat → ClassId} {l : Launch} {p : Program} {e : Env} {R : Room} {s : State} {m : MethodId} {args : Array Value} {below : List Frame} {meth : Method} {c : Code} {Zq : State → Prop} {r : MT} {Q : PO} {d : Nat}
variable {K J : Nat → PL → List AV → List AV → MM → Prop} {pc n : Nat} {P : PL} {L S T : List AV} {M : MM}
theorem hcell_of {np cells slots : Nat} {ad : Nat → Nat → Nat} {H : Heap} {locs : List Loc} {ls : Array Slot} (hD : Dx gl gx z D tA R s r ad H locs cells slots ls P L S M) : cells + (P.take np).length ≤ R.cells ∧ slots + psz (P.take np) ≤ R.slots := by
  have e1 : (P.take np).length + (P.drop np).length = P.length := by rw [← List.length_append, List.take_append_drop]
  have e2 : psz (P.take np) + psz (P.drop np) = psz P := by rw [← psz_app, List.take_append_drop]
  have h8 := hD.2.2.2.2.2.2.2.1
  have h9 := hD.2.2.2.2.2.2.2.2
  omega
theorem rest_ok {T : List AV} {ad : Nat → Nat → Nat} (h : T.length ≤ 4) : ((T.map (cv ad)).map fun v => v.category).sum ≤ 8 := by
  have := cat_sum (T.map (cv ad))
  rw [List.length_map] at this
  omega
theorem go_static {k : Nat} (C : Cx z D tA p R s m args meth c r d) (hK : ∀ pc' P L S M, pc' = pc + n → K pc' P L S M → Go gl gx z D tA l p e R s m args below meth c Zq r Q pc' P L S M) (hd : decode r.2.1 pc = .ok (.invokestatic k, n)) (ho : okI (.invokestatic k) pc n = true) (h : stepI gl gx (Sim gl gx z D tA l) d r.2.2.2.2.2 r.2.2.2.1 r.2.2.2.2.1 r.1.cls Q K J (.invokestatic k) pc P L S M) : Go gl gx z D tA l p e R s m args below meth c Zq r Q pc P L S M := by
  have en : n = 3 := by simpa [okI] using ho
  subst en
  unfold stepI at h
  dsimp only at h
  obtain ⟨⟨w, y, na, nl, rr, np⟩, hm, h1⟩ := pK_inv h
  dsimp only at h1
  obtain ⟨q, hq⟩ := C.2.2.2.2.2.2.2.2.2.2.2.1 _ hm
  have hw := C.2.2.2.2.1
  split at h1
  · obtain ⟨d', rfl, ⟨g1, g2, g3⟩, g4⟩ := pD_inv h1
    obtain ⟨r', hr, f1, f2, f3, f4, f5⟩ := cOK_stat hq
    subst f3
    have h3n : r'.2.2.2.2.1 ≠ 3 := by rw [f5]; decide
    have hmk := mok_in y r' hr h3n
    intro ad H locs cells slots ls hD hR
    have hS : S = S.take na ++ S.drop na := (List.take_append_drop na S).symm
    have hA : ∀ v ∈ (S.take na).reverse, okA M.2.2 v := fun v hv => hD.2.2.2.2.2.2.1 v (List.mem_of_mem_take (List.mem_reverse.mp hv))
    have hM := met_of (ad := ad) hr h3n g4 g3 hA
    have hwords : ∀ w ∈ mneed r', w.before args s = true := fun w hw' => hw _ (hmk.1 w hw')
    have hi := hwords (.initialized r'.1.cls) List.mem_cons_self
    have hst := hwords (.static r'.1) (by unfold mneed; rw [f5]; simp)
    have cb := callB_of (R := R) (s := s) (args := args) (own := r.1.cls) (index := k) (y := r'.1) (bytes := r'.2.1) (maxL := r'.2.2.1) (ret := r'.2.2.2.1) (ws := wsM r') (rm := { frames := d', cells := (P.take np).length, slots := psz (P.take np), locals := 64 * d' }) (mc := (P.take np).length) (ms := psz (P.take np)) na hw (wsM_good hr h3n) rfl rfl rfl hi (word_of hw f1 rfl) ⟨hmk.2.2.1.1, hmk.2.2.1.2, f2⟩ (room_call C.2.2.2.2.2.2.2.2.1 C.2.2.2.2.2.2.2.2.2.1 hmk.2.2.2.1)
    have hrun := va_runS (l := l) (e := e) (below := below) (meth := meth) (H := H) (locs := locs) (cells := cells) (slots := slots) (g := F0 m pc ls (S.map (cv ad))) (As := (S.take na).reverse.map (cv ad)) (rest := (S.drop na).map (cv ad)) ⟨C.1, C.2.1, C.2.2.1, C.2.2.2.1, hw⟩ hM ⟨cb, hst⟩ ⟨PG_blind, fun U hU hW => ⟨rfl, PG_at C hD hU hW⟩⟩ rfl (by rw [List.length_map, List.length_reverse, g2]) hD.2.2.2.1.1
      (by
        show S.map (cv ad) = _
        exact (take_rev S na (cv ad)).symm) (lv_room (rest_ok g1)) hd (hcell_of hD)
    exact go_back hD (fun v hv => List.mem_of_mem_drop hv) hR hrun (fun h0 => rcd0 (f4.trans h0)) (fun M' hf => hK _ _ _ _ _ rfl hf) (fun v M' hf => hK _ _ _ _ _ rfl hf)
  · obtain ⟨d', rfl, ga1⟩ := pD_inv h1
    obtain ⟨x, S1, rfl, ga2⟩ := pI_inv ga1
    obtain ⟨dp, S2, rfl, ga3⟩ := pI_inv ga2
    obtain ⟨k', i', S3, rfl, ga4⟩ := pR_inv ga3
    obtain ⟨sp, S4, rfl, ga5⟩ := pI_inv ga4
    obtain ⟨k0, i0, S5, rfl, ga6⟩ := pR_inv ga5
    obtain ⟨q0, hk0, ga7⟩ := pO_inv ga6
    obtain ⟨q1, hk1, ga8⟩ := pO_inv ga7
    obtain ⟨hI, ⟨g1, g2, g3, g4, g5, g6⟩, g7⟩ := pB_inv ga8
    simp only [Bool.and_eq_true] at hI
    have hI0 := isInt_eq hI.1
    have hI1 := isInt_eq hI.2
    have hq : inT (.methodLink r.1.cls k arraycopyName) q = true := hq
    intro ad H locs cells slots ls hD hR
    have hkf := C.2.2.2.2.2.2.1
    obtain ⟨lv0, z0, a0⟩ := arr_live hD (k := k0) (i := i0) (by simp) hk0
    obtain ⟨lv1, z1, a1⟩ := arr_live hD (k := k') (i := i') (by simp) hk1
    have e0 : H[ad k0 i0]? = some (vp_cell (tA k0) (q0.2, .inl (M.1 k0 i0))) := by
      rw [a0, vp_cell_i]; congr 2; funext j; exact mv_I hk0 (by rw [hI0]; rfl)
    have e1 : H[ad k' i']? = some (vp_cell (tA k') (q1.2, .inl (M.1 k' i'))) := by
      rw [a1, vp_cell_i]; congr 2; funext j; exact mv_I hk1 (by rw [hI1]; rfl)
    have t0 := (hkf.2.1 k0 q0 hk0).1
    have t1 := (hkf.2.1 k' q1 hk1).1
    rw [hI0] at t0
    rw [hI1] at t1
    have hR5 := rest_ok (T := S5) (ad := ad) g1
    have hlocals : ((S5.map (cv ad)).map fun v => v.category).sum + (nativeFrameWords "java/lang/System" "arraycopy" 5 + 11) ≤ R.locals := by
      have h64 := C.2.2.2.2.2.2.2.2.2.1
      have : nativeFrameWords "java/lang/System" "arraycopy" 5 = 7 := by decide +kernel
      omega
    have hfr : 1 ≤ R.frames := by have := C.2.2.2.2.2.2.2.2.1; omega
    refine row_copy (l := l) (Zq := Zq) (e := e) (below := below) (meth := meth) (z := z) (cells := cells) (slots := slots) (ty := .int) C.1 C.2.1 (by rw [C.2.2.1, hD.2.2.2.1.1]) C.2.2.2.1 (word_of hw hq rfl) (hw _ wp_acn) (hw _ wp_acs) (hw _ wp_sys) e0 e1 t0 t1 rfl hD.2.1 z1 g2 g3 g4 g5 g6 (fun _ _ => rfl) hfr hlocals hd fun H1 locs1 b1 b2 b3 => ?_
    have hne : ∀ (A : Nat → Int32) (k'' i'' j : Nat), ¬ (k'' = k' ∧ i'' = i') → u2 M.1 k' i' A k'' i'' j = M.1 k'' i'' j := fun A k'' i'' j hh => by unfold u2; rw [if_neg hh]
    have hc : cellR D tA ad (u2 M.1 k' i' (va_cpy (M.1 k0 i0) (M.1 k' i') sp.toNatClampNeg dp.toNatClampNeg x.toNatClampNeg), M.2) H1 k' i' := by
      unfold cellR
      rw [ak_le hk1]
      refine ⟨q1, hk1, ?_⟩
      rw [b1, vp_cell_i]
      congr 2
      funext j
      rw [mv_I hk1 (by rw [hI1]; rfl)]
      simp [u2]
    exact hK _ _ _ _ _ rfl g7 ad H1 locs1 cells slots ls (hD.mem rfl (hD.2.2.1.put lv1 rfl (fun k'' i'' j hh => ⟨hne _ _ _ _ hh, rfl⟩) (fun j hj => hD.2.2.1.2.2 k' i' j lv1 hj) b2 hc) b3 (fun v hv => by simp [hv])) hR
  · obtain ⟨d1, rfl, ga9⟩ := pD_inv h1
    obtain ⟨d2, rfl, ga10⟩ := pD_inv ga9
    obtain ⟨x, S1, rfl, ga11⟩ := pI_inv ga10
    obtain ⟨y2, S2, rfl, ga12⟩ := pI_inv ga11
    obtain ⟨⟨g1, g2, g3⟩, g4⟩ := ga12
    have hq : inT (.methodLink r.1.cls k ciName) q = true := hq
    intro ad H locs cells slots ls hD hR
    have hf2 := C.2.2.2.2.2.2.2.2.1
    have hl2 := C.2.2.2.2.2.2.2.2.2.1
    have cb := callB_of (R := R) (s := s) (args := args) (own := r.1.cls) (index := k) (y := ciName) (bytes := prog_16_method_155_code) (maxL := 2) (ret := none) (ws := .code ciName prog_16_method_155_code 2 none :: lw_g) (rm := { frames := 1, cells := 0, slots := 0, locals := 40 }) (mc := 0) (ms := 0) 2 hw (wsp_good wp_ckc) rfl rfl rfl (hw _ wp_str) (word_of hw hq rfl) (by decide +kernel) ⟨by show 1 + 1 ≤ _; omega, by show 8 + (2 + 11) + 40 ≤ _; omega⟩
    refine row_backN (l := l) (va_runS (l := l) (e := e) (below := below) (meth := meth) (H := H) (locs := locs) (cells := cells) (slots := slots) (g := F0 m pc ls (.int x :: .int y2 :: S2.map (cv ad))) (As := [.int y2, .int x]) (rest := S2.map (cv ad)) ⟨C.1, C.2.1, C.2.2.1, C.2.2.2.1, hw⟩ (met_ck (z := z) y2 x g2 g3) ⟨cb, hw _ wp_cks⟩ ⟨?_, ?_⟩ rfl rfl hD.2.2.2.1.1 rfl (lv_room (rest_ok g1)) hd ⟨?_, ?_⟩) fun w hw2 => ?_
    · intro a U g mk ⟨h1, v, h2, h3⟩
      exact ⟨h1, v, h2.moved (U := U.calling g mk a) (Vm.Alike.refl U.vm), h3⟩
    · intro U hU hW
      obtain ⟨-, -, -, -, -, v, h6, h7⟩ := (PG_at C hD hU hW).1
      exact ⟨rfl, v, h6, h7⟩
    · have := hD.2.2.2.2.2.2.2.1; omega
    · have := hD.2.2.2.2.2.2.2.2; omega
    · subst hw2
      exact hK _ _ _ _ _ rfl g4 ad H locs cells slots ls (hD.stk fun v hv => Or.inl (mem2 v hv)) hR
  · obtain ⟨d', rfl, ga13⟩ := pD_inv h1
    obtain ⟨x, S1, rfl, ga14⟩ := pI_inv ga13
    obtain ⟨y2, S2, rfl, ga15⟩ := pI_inv ga14
    obtain ⟨g1, g4⟩ := ga15
    have hq : inT (.methodLink r.1.cls k Lib.Math.max.name) q = true := hq
    intro ad H locs cells slots ls hD hR
    have h64 := C.2.2.2.2.2.2.2.2.2.1
    have hfr := C.2.2.2.2.2.2.2.2.1
    have h8 := hD.2.2.2.2.2.2.2.1
    have h9 := hD.2.2.2.2.2.2.2.2
    have h5 := rest_ok (T := S2) (ad := ad) g1
    exact va_mmax C.1 C.2.1 (by rw [C.2.2.1, hD.2.2.2.1.1]) C.2.2.2.1 (word_of hw hq rfl) (hw _ wp_maxs) (hw _ wp_math) (hw _ wp_maxc) (by omega) (by omega) (by omega) (by omega) hd (hK _ _ _ _ _ rfl g4 ad H locs cells slots ls (hD.stk (hv1 mem2 trivial)) hR)
  · obtain ⟨d', rfl, ga16⟩ := pD_inv h1
    obtain ⟨x, S1, rfl, ga17⟩ := pI_inv ga16
    obtain ⟨y2, S2, rfl, ga18⟩ := pI_inv ga17
    obtain ⟨g1, g4⟩ := ga18
    have hq : inT (.methodLink r.1.cls k Lib.Math.min.name) q = true := hq
    intro ad H locs cells slots ls hD hR
    have h64 := C.2.2.2.2.2.2.2.2.2.1
    have hfr := C.2.2.2.2.2.2.2.2.1
    have h8 := hD.2.2.2.2.2.2.2.1
    have h9 := hD.2.2.2.2.2.2.2.2
    have h5 := rest_ok (T := S2) (ad := ad) g1
    exact va_mmin C.1 C.2.1 (by rw [C.2.2.1, hD.2.2.2.1.1]) C.2.2.2.1 (word_of hw hq rfl) (hw _ wp_mins) (hw _ wp_math) (hw _ wp_minc) (by omega) (by omega) (by omega) (by omega) hd (hK _ _ _ _ _ rfl g4 ad H locs cells slots ls (hD.stk (hv1 mem2 trivial)) hR)
  · exact h1.elim
end STEP8
end
section
/-! ONE STEP: constructors' calls, new objects -/
section STEP9
variable {gl : Nat} {gx : Nat → Int32} {z : Nat} {D : va_G} {tA : Nat → ClassId} {l : Launch} {p : Program} {e : Env} {R : Room} {s : State} {m : MethodId} {args : Array Value} {below : List Frame} {meth : Method} {c : Code} {Zq : State → Prop} {r : MT} {Q : PO} {d : Nat}
variable {K J : Nat → PL → List AV → List AV → MM → Prop} {pc n : Nat} {P : PL} {L S T : List AV} {M : MM}
theorem go_special {k : Nat} (C : Cx z D tA p R s m args meth c r d) (hK : ∀ pc' P L S M, pc' = pc + n → K pc' P L S M → Go gl gx z D tA l p e R s m args below meth c Zq r Q pc' P L S M) (hd : decode r.2.1 pc = .ok (.invokespecial k, n)) (ho : okI (.invokespecial k) pc n = true) (h : stepI gl gx (Sim gl gx z D tA l) d r.2.2.2.2.2 r.2.2.2.1 r.2.2.2.2.1 r.1.cls Q K J (.invokespecial k) pc P L S M) : Go gl gx z D tA l p e R s m args below meth c Zq r Q pc P L S M := by
  have en : n = 3 := by simpa [okI] using ho
  subst en
  unfold stepI at h
  dsimp only at h
  obtain ⟨⟨w, y, na, nl, rr, np⟩, hm, h1⟩ := pK_inv h
  clear h
  dsimp only at h1
  obtain ⟨q, hq⟩ := C.2.2.2.2.2.2.2.2.2.2.2.1 _ hm
  have hw := C.2.2.2.2.1
  split at h1
  · obtain ⟨k0, i, T1, hT1, h2⟩ := pR_inv h1
    obtain ⟨d', rfl, ⟨g1, g2, g3⟩, g4⟩ := pD_inv h2
    obtain ⟨r', hr, f1, f2, f3, f5⟩ := cOK_spec hq
    subst f3
    have h3n : r'.2.2.2.2.1 ≠ 3 := by rw [f5]; decide
    have hmk := mok_in y r' hr h3n
    obtain ⟨hini, hret⟩ := hmk.2.2.2.2 f5
    intro ad H locs cells slots ls hD hR
    have hS : S = S.take na ++ (aR k0 i :: T1) := by rw [← hT1, List.take_append_drop]
    have hmem : aR k0 i ∈ S := by rw [hS]; simp
    have hA : ∀ v ∈ aR k0 i :: (S.take na).reverse, okA M.2.2 v := by
      intro v hv
      refine hD.2.2.2.2.2.2.1 v ?_
      rcases List.mem_cons.mp hv with rfl | hv
      · exact hmem
      · rw [hS]; exact List.mem_append_left _ (List.mem_reverse.mp hv)
    have hM := met_of (ad := ad) (Q := onR 0 (fun M => K (pc + 3) (P.drop np) L T1 M) (fun _ _ => False)) hr h3n g4 g3 hA
    have hwords : ∀ w ∈ mneed r', w.before args s = true := fun w hw' => hw _ (hmk.1 w hw')
    have hi := hwords (.initialized r'.1.cls) List.mem_cons_self
    have hin := hwords (.instanceMethod r'.1) (by unfold mneed; rw [f5]; simp)
    have cb := callB_of (R := R) (s := s) (args := args) (own := r.1.cls) (index := k) (y := r'.1) (bytes := r'.2.1) (maxL := r'.2.2.1) (ret := none) (ws := wsM r') (ws' := lw_g) (rm := { frames := d', cells := (P.take np).length, slots := psz (P.take np), locals := 64 * d' }) (mc := (P.take np).length) (ms := psz (P.take np)) na hw (wsM_good hr h3n) (by unfold wsM; rw [hret]) rfl rfl hi (word_of hw f1 rfl) ⟨hmk.2.2.1.1, hmk.2.2.1.2, f2⟩ (room_call C.2.2.2.2.2.2.2.2.1 C.2.2.2.2.2.2.2.2.2.1 hmk.2.2.2.1)
    have hrun := va_runI (l := l) (e := e) (below := below) (meth := meth) (H := H) (locs := locs) (cells := cells) (slots := slots) (g := F0 m pc ls (S.map (cv ad))) (As := (S.take na).reverse.map (cv ad)) (b := ad k0 i) (rest := T1.map (cv ad)) ⟨C.1, C.2.1, C.2.2.1, C.2.2.2.1, hw⟩ hM ⟨cb, hini, hin⟩ ⟨PG_blind, fun U hU hW => ⟨rfl, PG_at C hD hU hW⟩⟩ rfl (by rw [List.length_map, List.length_reverse, g2]) hD.2.2.2.1.1
      (by
        show S.map (cv ad) = _
        have e1 := take_rev S na (cv ad)
        rw [hT1] at e1
        exact e1.symm) (lv_room (rest_ok g1)) hd (hcell_of hD)
    exact go_back hD (fun v hv => by rw [hS]; simp [hv]) hR hrun (fun _ => hret) (fun M' hf => hK _ _ _ _ _ rfl hf) (fun v M' hf => hf.elim)
  · obtain ⟨k0, i, T1, hT1, h2⟩ := pR_inv h1
    obtain ⟨d', rfl, ⟨g1, g2, g3⟩, g4⟩ := pD_inv h2
    obtain ⟨r', hr, f1, f2, f3, f5⟩ := cOK_nest hq
    subst f3
    have h3n : r'.2.2.2.2.1 ≠ 3 := by rw [f5]; decide
    have hmk := mok_in y r' hr h3n
    obtain ⟨hini, hret⟩ := hmk.2.2.2.2 f5
    intro ad H locs cells slots ls hD hR
    have hS : S = S.take na ++ (aR k0 i :: T1) := by rw [← hT1, List.take_append_drop]
    have hmem : aR k0 i ∈ S := by rw [hS]; simp
    have hA : ∀ v ∈ aR k0 i :: (S.take na).reverse, okA M.2.2 v := by
      intro v hv
      refine hD.2.2.2.2.2.2.1 v ?_
      rcases List.mem_cons.mp hv with rfl | hv
      · exact hmem
      · rw [hS]; exact List.mem_append_left _ (List.mem_reverse.mp hv)
    have hM := met_of (ad := ad) (Q := onR 0 (fun M => K (pc + 3) (P.drop np) L T1 M) (fun _ _ => False)) hr h3n g4 g3 hA
    have hwords : ∀ w ∈ mneed r', w.before args s = true := fun w hw' => hw _ (hmk.1 w hw')
    have hi := hwords (.initialized r'.1.cls) List.mem_cons_self
    have hin := hwords (.instanceMethod r'.1) (by unfold mneed; rw [f5]; simp)
    have hnw := C.2.2.2.2.2.2.1.2.2.2 _ _ _ _ (inT_mem f1)
    have cb := va_cnB (R := R) (s := s) (args := args) (own := r.1.cls) (host := "StencilHouse") (index := k) (y := r'.1) (bytes := r'.2.1) (maxL := r'.2.2.1) (ret := none) (ws := wsM r') (ws' := lw_g) (rm := { frames := d', cells := (P.take np).length, slots := psz (P.take np), locals := 64 * d' }) (mc := (P.take np).length) (ms := psz (P.take np)) na hw (wsM_good hr h3n) (by unfold wsM; rw [hret]) rfl rfl hnw hi ⟨hmk.2.2.1.1, hmk.2.2.1.2, f2⟩ (room_call C.2.2.2.2.2.2.2.2.1 C.2.2.2.2.2.2.2.2.2.1 hmk.2.2.2.1)
    have hrun := va_runIN (l := l) (e := e) (below := below) (meth := meth) (H := H) (locs := locs) (cells := cells) (slots := slots) (g := F0 m pc ls (S.map (cv ad))) (As := (S.take na).reverse.map (cv ad)) (b := ad k0 i) (rest := T1.map (cv ad)) ⟨C.1, C.2.1, C.2.2.1, C.2.2.2.1, hw⟩ hM ⟨cb, hini, hin⟩ ⟨PG_blind, fun U hU hW => ⟨rfl, PG_at C hD hU hW⟩⟩ rfl (by rw [List.length_map, List.length_reverse, g2]) hD.2.2.2.1.1
      (by
        show S.map (cv ad) = _
        have e1 := take_rev S na (cv ad)
        rw [hT1] at e1
        exact e1.symm) (lv_room (rest_ok g1)) hd (hcell_of hD)
    exact go_back hD (fun v hv => by rw [hS]; simp [hv]) hR hrun (fun _ => hret) (fun M' hf => hK _ _ _ _ _ rfl hf) (fun v M' hf => hf.elim)
  · obtain ⟨d', rfl, g1⟩ := pD_inv h1
    obtain ⟨k0, i, T1, rfl, g2, g3⟩ := pR_inv g1
    have hq : inT (.methodLink r.1.cls k objectInit) q = true := hq
    intro ad H locs cells slots ls hD hR
    have h64 := C.2.2.2.2.2.2.2.2.2.1
    have hfr := C.2.2.2.2.2.2.2.2.1
    have h5 := rest_ok (T := T1) (ad := ad) g2
    refine W.objInit C.1 C.2.1 C.2.2.2.1 (word_of hw hq rfl) (hw _ wp_oii) (hw _ wp_oic) rfl (by show ls.size = _; rw [C.2.2.1, hD.2.2.2.1.1]) rfl hd (by omega) (by show 2 * 0 + _ + 12 ≤ _; omega) ?_
    exact hK _ _ _ _ _ rfl g3 ad H locs cells slots ls (hD.stk fun v hv => Or.inl (mem1 v hv)) hR
  · exact h1.elim
end STEP9
end
section
/-! ONE STEP: new objects -/
section STEP10
variable {gl : Nat} {gx : Nat → Int32} {z : Nat} {D : va_G} {tA : Nat → ClassId} {l : Launch} {p : Program} {e : Env} {R : Room} {s : State} {m : MethodId} {args : Array Value} {below : List Frame} {meth : Method} {c : Code} {Zq : State → Prop} {r : MT} {Q : PO} {d : Nat}
variable {K J : Nat → PL → List AV → List AV → MM → Prop} {pc n : Nat} {P : PL} {L S T : List AV} {M : MM} {X : XT}
def adN (ad : Nat → Nat → Nat) (k i a : Nat) : Nat → Nat → Nat := fun k' i' => if k' = k ∧ i' = i then a else ad k' i'
theorem adN_self {ad : Nat → Nat → Nat} {k i a : Nat} : adN ad k i a k i = a := by simp [adN]
theorem adN_ne {ad : Nat → Nat → Nat} {k i a k' i' : Nat} (h : ¬ (k' = k ∧ i' = i)) : adN ad k i a k' i' = ad k' i' := by unfold adN; rw [if_neg h]
theorem adN_ext {ad : Nat → Nat → Nat} {k i a : Nat} (hl : M.2.2 k i = false) (hs : stk k = false) : Ext M.2.2 ad (adN ad k i a) := by
  intro k' i' h
  refine adN_ne fun q => ?_
  obtain ⟨rfl, rfl⟩ := q
  rcases h with h | h
  · rw [hl] at h; cases h
  · rw [hs] at h; cases h
theorem mk_1 {k i : Nat} : (mk M k i).1 = u2 M.1 k i (fun _ => 0) := rfl
theorem mk_2 {k i : Nat} : (mk M k i).2.1 = u2 M.2.1 k i (fun j => if j < sz1 k then dv (ftk k j) else M.2.1 k i j) := rfl
theorem mk_lv {k i k' i' : Nat} : (mk M k i).2.2 k' i' = true ↔ (k' = k ∧ i' = i) ∨ M.2.2 k' i' = true := by
  show u1 M.2.2 k i true k' i' = true ↔ _
  unfold u1
  by_cases h : k' = k ∧ i' = i
  · simp [h]
  · simp [h]
theorem mv_mk {ad : Nat → Nat → Nat} {k i j : Nat} (hj : j < sz1 k) (ht : tyK (ftk k j) = true) : mv ad (mk M k i) k i j = defaultValue (ftk k j) := by
  unfold mv
  have e1 : (mk M k i).1 k i j = 0 := by rw [mk_1]; simp [u2]
  have e2 : (mk M k i).2.1 k i j = dv (ftk k j) := by rw [mk_2]; simp [u2, hj]
  rw [e1, e2]
  revert ht
  cases ftk k j <;> intro ht <;> first | rfl | (exfalso; revert ht; decide)
theorem arrV_congr {cI : ClassId} {N : Nat} {f g : Nat → Value} (h : ∀ j, j < N → f j = g j) : arrV cI N f = arrV cI N g := by
  unfold arrV
  congr 2
  funext j
  exact h j.val j.isLt
theorem cellR.congr2 {ad ad' : Nat → Nat → Nat} {M M1 : MM} {H H1 : Heap} {k i : Nat} (h : cellR D tA ad M H k i) (ha : ad' k i = ad k i) (hq : H1[ad k i]? = H[ad k i]?) (hm : ∀ j, j < sz1 k → mv ad' M1 k i j = mv ad M k i j) : cellR D tA ad' M1 H1 k i := by
  unfold cellR at h ⊢
  rw [ha]
  split at h
  · obtain ⟨q, h1, h2⟩ := h
    refine ⟨q, h1, hq.trans (h2.trans ?_)⟩
    rw [arrV_congr fun j hj => (hm j (by rw [sz1_ak h1]; exact hj)).symm]
  · obtain ⟨q, h1, h2⟩ := h
    exact ⟨q, h1, (h2.kept hq).to fun j hj => (hm j (by rw [sz1_cl h1]; exact hj)).symm⟩
theorem cellR_lt {ad : Nat → Nat → Nat} {H : Heap} {k i : Nat} (h : cellR D tA ad M H k i) : ad k i < H.size := by
  unfold cellR at h
  split at h
  · obtain ⟨q, -, h2⟩ := h
    exact (Array.getElem?_eq_some_iff.mp h2).1
  · obtain ⟨q, -, cell, h2, -⟩ := h
    exact (Array.getElem?_eq_some_iff.mp h2).1
theorem alloc_ok {ad : Nat → Nat → Nat} {H H1 : Heap} {locs : List Loc} {cells slots : Nat} {ls : Array Slot} {k i : Nat} (C : Cx z D tA p R s m args meth c r d) (hD : Dx gl gx z D tA R s r ad H locs cells slots ls ((k, i) :: P) L S M) (hT : ∀ v ∈ T, v ∈ S) (hl : M.2.2 k i = false) (hs : stk k = false) (z1 : H1.size = H.size + 1) (ho : ∀ q, q < H.size → H1[q]? = H[q]?) (hc : cellR D tA (adN ad k i H.size) (mk M k i) H1 k i)
    (hR : Ret z D tA l p e R s m args below meth c Zq r Q M.2.2 ad) : Dx gl gx z D tA R s r (adN ad k i H.size) H1 locs (cells + 1) (slots + sz1 k) ls P L (aR k i :: T) (mk M k i) ∧ Ret z D tA l p e R s m args below meth c Zq r Q (mk M k i).2.2 (adN ad k i H.size) ∧ T.map (cv (adN ad k i H.size)) = T.map (cv ad) := by
  obtain ⟨d1, d2, d3, d4, d5, d6, d7, d8, d9⟩ := hD
  have he : Ext M.2.2 ad (adN ad k i H.size) := adN_ext hl hs
  have hlv : ∀ k' i', M.2.2 k' i' = true → (mk M k i).2.2 k' i' = true := fun k' i' h => mk_lv.mpr (Or.inr h)
  have hne : ∀ k' i', M.2.2 k' i' = true → ¬ (k' = k ∧ i' = i) := by
    rintro k' i' h ⟨rfl, rfl⟩
    rw [hl] at h; cases h
  have hz := C.2.2.2.2.2.2.2.1
  have hsz : z ≤ H.size := Nat.le_trans hz d2.1
  refine ⟨⟨d1.ext he, ?_, ⟨?_, ?_, ?_⟩, lvl_ext he d6 d4, d5, fun v hv => okA_mono hlv (d6 v hv), ?_, ?_, ?_⟩, hR.mono hlv he, ?_⟩
  · exact ⟨by rw [z1]; exact Nat.le_trans d2.1 (Nat.le_succ _), fun q h1 h2 => (ho q (Nat.lt_of_lt_of_le h1 d2.1)).trans (d2.2.1 q h1 h2), d2.2.2⟩
  · intro k' i' h
    by_cases hkk : k' = k ∧ i' = i
    · obtain ⟨rfl, rfl⟩ := hkk
      exact ⟨hs, by rw [adN_self]; exact hsz, hc⟩
    · have hold : M.2.2 k' i' = true := (mk_lv.mp h).resolve_left hkk
      obtain ⟨g1, g2, g3⟩ := d3.1 k' i' hold
      refine ⟨g1, by rw [adN_ne hkk]; exact g2, g3.congr2 (adN_ne hkk) (ho _ (cellR_lt g3)) fun j hj => ?_⟩
      unfold mv
      have e1 : (mk M k i).1 k' i' j = M.1 k' i' j := by rw [mk_1]; unfold u2; rw [if_neg hkk]
      have e2 : (mk M k i).2.1 k' i' j = M.2.1 k' i' j := by rw [mk_2]; unfold u2; rw [if_neg hkk]
      rw [e1, e2, cv_ext he (d3.2.2 k' i' j hold hj)]
  · intro k1 i1 k2 i2 h1 h2 heq
    by_cases hk1 : k1 = k ∧ i1 = i
    · by_cases hk2 : k2 = k ∧ i2 = i
      · exact ⟨hk1.1.trans hk2.1.symm, hk1.2.trans hk2.2.symm⟩
      · exfalso
        rw [adN_ne hk2] at heq
        obtain ⟨rfl, rfl⟩ := hk1
        rw [adN_self] at heq
        have := cellR_lt (d3.1 k2 i2 ((mk_lv.mp h2).resolve_left hk2)).2.2
        omega
    · by_cases hk2 : k2 = k ∧ i2 = i
      · exfalso
        rw [adN_ne hk1] at heq
        obtain ⟨rfl, rfl⟩ := hk2
        rw [adN_self] at heq
        have := cellR_lt (d3.1 k1 i1 ((mk_lv.mp h1).resolve_left hk1)).2.2
        omega
      · rw [adN_ne hk1, adN_ne hk2] at heq
        exact d3.2.1 k1 i1 k2 i2 ((mk_lv.mp h1).resolve_left hk1) ((mk_lv.mp h2).resolve_left hk2) heq
  · intro k' i' j h hj
    by_cases hkk : k' = k ∧ i' = i
    · obtain ⟨rfl, rfl⟩ := hkk
      have e2 : (mk M k' i').2.1 k' i' j = dv (ftk k' j) := by rw [mk_2]; simp [u2, hj]
      rw [e2]
      unfold dv
      split <;> trivial
    · have e2 : (mk M k i).2.1 k' i' j = M.2.1 k' i' j := by rw [mk_2]; unfold u2; rw [if_neg hkk]
      rw [e2]
      exact okA_mono hlv (d3.2.2 k' i' j ((mk_lv.mp h).resolve_left hkk) hj)
  · intro v hv
    rcases List.mem_cons.mp hv with rfl | hv
    · exact Or.inl (mk_lv.mpr (Or.inl ⟨rfl, rfl⟩))
    · exact okA_mono hlv (d7 v (hT v hv))
  · simp only [List.length_cons] at d8
    omega
  · have : psz ((k, i) :: P) = sz1 k + psz P := by simp [psz]
    omega
  · exact List.map_congr_left fun v hv => cv_ext he (d7 v (hT v hv))
theorem aks_ok : aks.all (fun q => decide (q.2 ≤ 200000) && (match q.1 with
  | .int | .byte | .boolean | .object _ => true
  | _ => false)) = true := by decide +kernel
theorem ak_ok {k : Nat} {q : FieldType × Nat} (hk : ak k = some q) : q.2 ≤ 200000 ∧ (q.1 = .int ∨ q.1 = .byte ∨ q.1 = .boolean ∨ ∃ C, q.1 = .object C) := by
  unfold ak at hk
  split at hk
  · have h := List.all_eq_true.mp aks_ok q (List.mem_of_getElem? hk)
    simp only [Bool.and_eq_true, decide_eq_true_eq] at h
    refine ⟨h.1, ?_⟩
    have h2 := h.2
    split at h2
    · rename_i e; exact Or.inl e
    · rename_i e; exact Or.inr (Or.inl e)
    · rename_i e; exact Or.inr (Or.inr (Or.inl e))
    · rename_i C0 e; exact Or.inr (Or.inr (Or.inr ⟨C0, e⟩))
    · cases h2
  · cases hk
theorem tyK_ak {k j : Nat} {q : FieldType × Nat} (hk : ak k = some q) : tyK (ftk k j) = true := by
  rw [ak_ft hk]
  rcases (ak_ok hk).2 with h | h | h | ⟨C0, h⟩ <;> rw [h] <;> rfl
theorem go_alloc {i0 : Instr} (C : Cx z D tA p R s m args meth c r d) (hK : ∀ pc' P L S M, pc' = pc + n → K pc' P L S M → Go gl gx z D tA l p e R s m args below meth c Zq r Q pc' P L S M) (hd : decode r.2.1 pc = .ok (i0, n)) (ho : okI i0 pc n = true) (h : stepI gl gx X d r.2.2.2.2.2 r.2.2.2.1 r.2.2.2.2.1 r.1.cls Q K J i0 pc P L S M) (hi : (∃ k, i0 = .new k) ∨ (∃ k, i0 = .newarray k) ∨ (∃ k, i0 = .anewarray k)) : Go gl gx z D tA l p e R s m args below meth c Zq r Q pc P L S M := by
  have hkf := C.2.2.2.2.2.2.1
  have hw := C.2.2.2.2.1
  rcases hi with ⟨k, rfl⟩ | ⟨k, rfl⟩ | ⟨k, rfl⟩
  · have en : n = 3 := by simpa [okI] using ho
    subst en
    unfold stepI at h
    dsimp only at h
    obtain ⟨kk, i, P', rfl, h1⟩ := pP_inv h
    obtain ⟨c', hm, h2⟩ := pK_inv h1
    obtain ⟨hb, hl, h3⟩ := pB_inv h2
    have hb : kk = c' := Nat.eq_of_beq_eq_true hb
    subst hb
    obtain ⟨ps, hq⟩ := C.2.2.2.2.2.2.2.2.2.2.2.2.2.1 _ hm
    unfold nOK at hq
    dsimp only at hq
    split at hq
    · rename_i q hcq
      have hws := inTs_mem hq
      have w1 := hw _ (lw_g_of (hws (.classLink r.1.cls k q.1) (by simp)) rfl)
      have w2 := hw _ (lw_g_of (hws (.instantiable q.1 q.2.2) (by simp)) rfl)
      have w3 := hw _ (lw_g_of (hws (.initialized q.1) (by simp)) rfl)
      have hk11 : kk < 11 := (List.getElem?_eq_some_iff.mp hcq).1
      have hb20 : Nat.ble 20 kk = false := by
        rcases hq' : Nat.ble 20 kk with _ | _
        · rfl
        · have := Nat.le_of_ble_eq_true hq'
          omega
      have hst : stk kk = false := by
        unfold stk
        rcases hq' : Nat.ble 11 kk with _ | _
        · rfl
        · have := Nat.le_of_ble_eq_true hq'
          omega
      have hsz : sz1 kk = q.2.2 := by
        unfold sz1
        rw [hb20]
        show (classes.getD kk _).2.2 = _
        rw [List.getD_eq_getElem?_getD, hcq]
        rfl
      intro ad H locs cells slots ls hD hR
      have hKn := hkf.1.1 kk q hcq
      have h8 := hD.2.2.2.2.2.2.2.1
      have h9 := hD.2.2.2.2.2.2.2.2
      have hp2 : psz ((kk, i) :: P') = sz1 kk + psz P' := by simp [psz]
      simp only [List.length_cons] at h8
      refine W.newcK C.1 C.2.1 C.2.2.2.1 w1 w2 w3 rfl hd (by omega) (by omega) hKn.2.1 rfl fun H1 kC hkC e1 z1 o1 => ?_
      have ht := u_born (fun j => ftk kk j) hw (uwg kk q hcq) hKn hkC e1 (tyg kk q hcq)
      have hc : cellR D tA (adN ad kk i H.size) (mk M kk i) H1 kk i := by
        unfold cellR
        rw [hb20, adN_self]
        exact ⟨q, hcq, ht.to fun j hj => (mv_mk (by rw [sz1_cl hcq]; exact hj) (tyK_at hb20)).symm⟩
      obtain ⟨a1, a2, a3⟩ := alloc_ok C hD (fun v hv => hv) hl hst z1 o1 hc hR
      rw [hsz] at a1
      have := hK _ _ _ _ _ rfl h3 _ H1 locs (cells + 1) (slots + q.2.2) ls a1 a2
      rw [List.map_cons, a3] at this
      have e2 : cv (adN ad kk i H.size) (aR kk i) = .ref H.size := congrArg Value.ref adN_self
      rw [e2] at this
      exact this
    · cases hq
  · have en : n = 2 := by simpa [okI] using ho
    subst en
    unfold stepI at h
    dsimp only at h
    obtain ⟨x, S1, rfl, h1⟩ := pI_inv h
    obtain ⟨kk, i, P', rfl, h2⟩ := pP_inv h1
    obtain ⟨q, hak, ⟨hty, rfl⟩, hl, h3⟩ := pO_inv h2
    intro ad H locs cells slots ls hD hR
    obtain ⟨hN, hT⟩ := ak_ok hak
    have h8 := hD.2.2.2.2.2.2.2.1
    have h9 := hD.2.2.2.2.2.2.2.2
    have hp2 : psz ((kk, i) :: P') = sz1 kk + psz P' := by simp [psz]
    have hsz := sz1_ak hak
    simp only [List.length_cons] at h8
    have harr : (Cond.arrayClass (newarray.typeOf k)).before args s = true ∧ componentBytes q.1 ≤ 8 ∧ s.vm.findClass ("[" ++ q.1.toString) = some (tA kk) := by
      have hra := (hkf.2.1 kk q hak).2
      rw [hty]
      rcases hT with h | h | h | ⟨C0, h⟩
      · rw [h] at hra ⊢; exact ⟨hw _ wp_arr_int, by decide, hra⟩
      · rw [h] at hra ⊢; exact ⟨hw _ wp_arr_byte, by decide, hra⟩
      · rw [h] at hra ⊢; exact ⟨hw _ wp_arr_boolean, by decide, hra⟩
      · rw [h] at hty; cases k <;> cases hty
    refine va_newaK (l := l) C.1 C.2.1 harr.1 rfl hd rfl (nI_pos (n := q.2) (by omega)) (nI_clamp (n := q.2) (by omega)) (by rw [hty]; have := Nat.mul_le_mul hN harr.2.1; omega) (by omega) (by omega) rfl fun H1 cA e1 z1 o1 _ hfc => ?_
    rw [hty] at hfc e1
    have hcA : cA = tA kk := Option.some.inj (hfc.symm.trans harr.2.2)
    subst hcA
    have hc : cellR D tA (adN ad kk i H.size) (mk M kk i) H1 kk i := by
      unfold cellR
      rw [ak_le hak, adN_self]
      refine ⟨q, hak, ?_⟩
      rw [e1]
      refine congrArg some (arrV_congr fun j hj => ?_)
      rw [mv_mk (by rw [sz1_ak hak]; exact hj) (tyK_ak hak), ak_ft hak]
    obtain ⟨a1, a2, a3⟩ := alloc_ok C hD mem1 hl (ak_st hak) z1 o1 hc hR
    rw [hsz] at a1
    have := hK _ _ _ _ _ rfl h3 _ H1 locs (cells + 1) (slots + q.2) ls a1 a2
    rw [List.map_cons, a3] at this
    have e2 : cv (adN ad kk i H.size) (aR kk i) = .ref H.size := congrArg Value.ref adN_self
    rw [e2] at this
    exact this
  · have en : n = 3 := by simpa [okI] using ho
    subst en
    unfold stepI at h
    dsimp only at h
    obtain ⟨x, S1, rfl, h1⟩ := pI_inv h
    obtain ⟨kk, i, P', rfl, h2⟩ := pP_inv h1
    obtain ⟨q, hak, ⟨hty, rfl⟩, hl, h3⟩ := pO_inv h2
    obtain ⟨v', hm, hv'⟩ := pK_inv (f := fun v => v = q.1) (show pK _ k _ from by unfold pK; rw [hty])
    subst hv'
    obtain ⟨w, hq⟩ := C.2.2.2.2.2.2.2.2.2.2.2.2.2.2.1 _ hm
    unfold aOK at hq
    dsimp only at hq
    split at hq
    · rename_i C0 hC0
      simp only [Bool.and_eq_true, decide_eq_true_eq] at hq
      obtain ⟨f1, f2⟩ := hq
      intro ad H locs cells slots ls hD hR
      obtain ⟨hN, -⟩ := ak_ok hak
      have h8 := hD.2.2.2.2.2.2.2.1
      have h9 := hD.2.2.2.2.2.2.2.2
      have hp2 : psz ((kk, i) :: P') = sz1 kk + psz P' := by simp [psz]
      have hsz := sz1_ak hak
      simp only [List.length_cons] at h8
      have hra := (hkf.2.1 kk q hak).2
      rw [hC0] at hra
      obtain ⟨kA, comp, -, -, -, hfc⟩ := hra
      have hcl : (Int32.ofNat q.2).toNatClampNeg = q.2 := nI_clamp (n := q.2) (by omega)
      refine W.anew (l := l) C.1 C.2.1 C.2.2.2.1 (word_of hw f1 rfl) (va_AO.use (hkf.2.2.1 C0 f2)) rfl hd rfl (nI_pos (n := q.2) (by omega)) (by rw [hcl]; omega) (by omega) (by rw [hcl]; omega) fun cA kA' comp' g1 g2 g3 g4 => ?_
      have hcA : cA = tA kk := Option.some.inj (g1.symm.trans hfc)
      subst hcA
      rw [hcl]
      generalize hH1 : H.push ({ cls := tA kk, slots := Array.replicate q.2 .null, vm := .none } : Cell) = H1
      have z1 : H1.size = H.size + 1 := by rw [← hH1, Array.size_push]
      have e1 : H1[H.size]? = some (arrV (tA kk) q.2 (fun _ => .null)) := by rw [← hH1, Array.getElem?_push_size, ← arrV_new]
      have o1 : ∀ x, x < H.size → H1[x]? = H[x]? := fun x hx => by rw [← hH1, Array.getElem?_push, if_neg (Nat.ne_of_lt hx)]
      have hc : cellR D tA (adN ad kk i H.size) (mk M kk i) H1 kk i := by
        unfold cellR
        rw [ak_le hak, adN_self]
        refine ⟨q, hak, ?_⟩
        rw [e1]
        refine congrArg some (arrV_congr fun j hj => ?_)
        rw [mv_mk (by rw [sz1_ak hak]; exact hj) (tyK_ak hak), ak_ft hak, hC0]
        rfl
      obtain ⟨a1, a2, a3⟩ := alloc_ok C hD mem1 hl (ak_st hak) z1 o1 hc hR
      rw [hsz] at a1
      have := hK _ _ _ _ _ rfl h3 _ H1 locs (cells + 1) (slots + q.2) ls a1 a2
      rw [List.map_cons, a3] at this
      have e2 : cv (adN ad kk i H.size) (aR kk i) = .ref H.size := congrArg Value.ref adN_self
      rw [e2] at this
      exact this
    · cases hq
end STEP10
end

section
-- ===== PART A: goes FIRST, ahead of the names: the tables' words, and 'selects' of the private methods out of them =====
/-- a private method of a class that the tables say can be made, by its rows of tables_1 -/
def lw_okq (q : MethodName × Nat) : Prop := (q.1.cls ≠ "java/lang/invoke/MethodHandle" ∧ q.1.cls ≠ "java/lang/invoke/VarHandle") ∧ Cond.instantiable q.1.cls q.2 ∈ tables_1 ∧ Cond.privateMethod q.1 ∈ tables_1 ∧ Cond.instanceMethod q.1 ∈ tables_1
theorem lw_p0 : lw_okq (⟨"StencilHouse$Reader", "clear", "()V"⟩, 11) := ⟨⟨by decide +kernel, by decide +kernel⟩, List.mem_of_getElem? (i := 200) (by decide +kernel), List.mem_of_getElem? (i := 402) (by decide +kernel), List.mem_of_getElem? (i := 403) (by decide +kernel)⟩
theorem lw_p1 : lw_okq (⟨"StencilHouse$Tokens", "nextWord", "()V"⟩, 6) := ⟨⟨by decide +kernel, by decide +kernel⟩, List.mem_of_getElem? (i := 214) (by decide +kernel), List.mem_of_getElem? (i := 431) (by decide +kernel), List.mem_of_getElem? (i := 432) (by decide +kernel)⟩
theorem lw_p2 : lw_okq (⟨"StencilHouse$Tokens", "nextNumber", "()V"⟩, 6) := ⟨⟨by decide +kernel, by decide +kernel⟩, List.mem_of_getElem? (i := 214) (by decide +kernel), List.mem_of_getElem? (i := 438) (by decide +kernel), List.mem_of_getElem? (i := 439) (by decide +kernel)⟩
theorem lw_p3 : lw_okq (⟨"StencilHouse$Reader", "readLine", "(I)Z"⟩, 11) := ⟨⟨by decide +kernel, by decide +kernel⟩, List.mem_of_getElem? (i := 200) (by decide +kernel), List.mem_of_getElem? (i := 442) (by decide +kernel), List.mem_of_getElem? (i := 443) (by decide +kernel)⟩
theorem lw_p4 : lw_okq (⟨"StencilHouse$Reader", "wordOfSort", "(I)I"⟩, 11) := ⟨⟨by decide +kernel, by decide +kernel⟩, List.mem_of_getElem? (i := 200) (by decide +kernel), List.mem_of_getElem? (i := 446) (by decide +kernel), List.mem_of_getElem? (i := 447) (by decide +kernel)⟩
theorem lw_p5 : lw_okq (⟨"StencilHouse$Reader", "hasRoomFor", "(I)Z"⟩, 11) := ⟨⟨by decide +kernel, by decide +kernel⟩, List.mem_of_getElem? (i := 200) (by decide +kernel), List.mem_of_getElem? (i := 520) (by decide +kernel), List.mem_of_getElem? (i := 521) (by decide +kernel)⟩
theorem lw_p6 : lw_okq (⟨"StencilHouse$Reader", "note", "(II)V"⟩, 11) := ⟨⟨by decide +kernel, by decide +kernel⟩, List.mem_of_getElem? (i := 200) (by decide +kernel), List.mem_of_getElem? (i := 524) (by decide +kernel), List.mem_of_getElem? (i := 525) (by decide +kernel)⟩
theorem lw_p7 : lw_okq (⟨"StencilHouse$Reader", "takeNumber", "(II)V"⟩, 11) := ⟨⟨by decide +kernel, by decide +kernel⟩, List.mem_of_getElem? (i := 200) (by decide +kernel), List.mem_of_getElem? (i := 531) (by decide +kernel), List.mem_of_getElem? (i := 532) (by decide +kernel)⟩
theorem lw_p8 : lw_okq (⟨"StencilHouse$Reader", "store", "(II)V"⟩, 11) := ⟨⟨by decide +kernel, by decide +kernel⟩, List.mem_of_getElem? (i := 200) (by decide +kernel), List.mem_of_getElem? (i := 539) (by decide +kernel), List.mem_of_getElem? (i := 540) (by decide +kernel)⟩
theorem lw_p9 : lw_okq (⟨"StencilHouse$Reader", "storeSheet", "(I)V"⟩, 11) := ⟨⟨by decide +kernel, by decide +kernel⟩, List.mem_of_getElem? (i := 200) (by decide +kernel), List.mem_of_getElem? (i := 543) (by decide +kernel), List.mem_of_getElem? (i := 544) (by decide +kernel)⟩
theorem lw_p10 : lw_okq (⟨"StencilHouse$Reader", "storeWear", "(II)V"⟩, 11) := ⟨⟨by decide +kernel, by decide +kernel⟩, List.mem_of_getElem? (i := 200) (by decide +kernel), List.mem_of_getElem? (i := 547) (by decide +kernel), List.mem_of_getElem? (i := 548) (by decide +kernel)⟩
theorem lw_p11 : lw_okq (⟨"StencilHouse$Reader", "storeRow", "(I)V"⟩, 11) := ⟨⟨by decide +kernel, by decide +kernel⟩, List.mem_of_getElem? (i := 200) (by decide +kernel), List.mem_of_getElem? (i := 551) (by decide +kernel), List.mem_of_getElem? (i := 552) (by decide +kernel)⟩
theorem lw_p12 : lw_okq (⟨"StencilHouse$Reader", "checkShop", "(I)V"⟩, 11) := ⟨⟨by decide +kernel, by decide +kernel⟩, List.mem_of_getElem? (i := 200) (by decide +kernel), List.mem_of_getElem? (i := 567) (by decide +kernel), List.mem_of_getElem? (i := 568) (by decide +kernel)⟩
theorem lw_p13 : lw_okq (⟨"StencilHouse$Reader", "cutRow", "(III)V"⟩, 11) := ⟨⟨by decide +kernel, by decide +kernel⟩, List.mem_of_getElem? (i := 200) (by decide +kernel), List.mem_of_getElem? (i := 571) (by decide +kernel), List.mem_of_getElem? (i := 572) (by decide +kernel)⟩
theorem lw_p14 : lw_okq (⟨"StencilHouse$Shop", "toRight", "(I)I"⟩, 11) := ⟨⟨by decide +kernel, by decide +kernel⟩, List.mem_of_getElem? (i := 42) (by decide +kernel), List.mem_of_getElem? (i := 595) (by decide +kernel), List.mem_of_getElem? (i := 596) (by decide +kernel)⟩
theorem lw_p15 : lw_okq (⟨"StencilHouse$Wall", "act", "(IIII)Z"⟩, 12) := ⟨⟨by decide +kernel, by decide +kernel⟩, List.mem_of_getElem? (i := 282) (by decide +kernel), List.mem_of_getElem? (i := 671) (by decide +kernel), List.mem_of_getElem? (i := 672) (by decide +kernel)⟩
def lw_privs_1 : List (MethodName × Nat) := [(⟨"StencilHouse$Reader", "clear", "()V"⟩, 11), (⟨"StencilHouse$Tokens", "nextWord", "()V"⟩, 6), (⟨"StencilHouse$Tokens", "nextNumber", "()V"⟩, 6), (⟨"StencilHouse$Reader", "readLine", "(I)Z"⟩, 11), (⟨"StencilHouse$Reader", "wordOfSort", "(I)I"⟩, 11), (⟨"StencilHouse$Reader", "hasRoomFor", "(I)Z"⟩, 11), (⟨"StencilHouse$Reader", "note", "(II)V"⟩, 11), (⟨"StencilHouse$Reader", "takeNumber", "(II)V"⟩, 11), (⟨"StencilHouse$Reader", "store", "(II)V"⟩, 11), (⟨"StencilHouse$Reader", "storeSheet", "(I)V"⟩, 11), (⟨"StencilHouse$Reader", "storeWear", "(II)V"⟩, 11), (⟨"StencilHouse$Reader", "storeRow", "(I)V"⟩, 11), (⟨"StencilHouse$Reader", "checkShop", "(I)V"⟩, 11), (⟨"StencilHouse$Reader", "cutRow", "(III)V"⟩, 11), (⟨"StencilHouse$Shop", "toRight", "(I)I"⟩, 11), (⟨"StencilHouse$Wall", "act", "(IIII)Z"⟩, 12)]
theorem lw_r1 : ∀ q ∈ lw_privs_1, lw_okq q := List.forall_mem_cons.mpr ⟨lw_p0, List.forall_mem_cons.mpr ⟨lw_p1, List.forall_mem_cons.mpr ⟨lw_p2, List.forall_mem_cons.mpr ⟨lw_p3, List.forall_mem_cons.mpr ⟨lw_p4, List.forall_mem_cons.mpr ⟨lw_p5, List.forall_mem_cons.mpr ⟨lw_p6, List.forall_mem_cons.mpr ⟨lw_p7, List.forall_mem_cons.mpr ⟨lw_p8, List.forall_mem_cons.mpr ⟨lw_p9, List.forall_mem_cons.mpr ⟨lw_p10, List.forall_mem_cons.mpr ⟨lw_p11, List.forall_mem_cons.mpr ⟨lw_p12, List.forall_mem_cons.mpr ⟨lw_p13, List.forall_mem_cons.mpr ⟨lw_p14, List.forall_mem_cons.mpr ⟨lw_p15, fun _ h => absurd h List.not_mem_nil⟩⟩⟩⟩⟩⟩⟩⟩⟩⟩⟩⟩⟩⟩⟩⟩
theorem lw_p16 : lw_okq (⟨"StencilHouse$Wall", "washOff", "(I)Z"⟩, 12) := ⟨⟨by decide +kernel, by decide +kernel⟩, List.mem_of_getElem? (i := 282) (by decide +kernel), List.mem_of_getElem? (i := 675) (by decide +kernel), List.mem_of_getElem? (i := 676) (by decide +kernel)⟩
theorem lw_p17 : lw_okq (⟨"StencilHouse$Wall", "sprayOn", "(II)Z"⟩, 12) := ⟨⟨by decide +kernel, by decide +kernel⟩, List.mem_of_getElem? (i := 282) (by decide +kernel), List.mem_of_getElem? (i := 686) (by decide +kernel), List.mem_of_getElem? (i := 687) (by decide +kernel)⟩
theorem lw_p18 : lw_okq (⟨"StencilHouse$Wall", "openNow", "(I)I"⟩, 12) := ⟨⟨by decide +kernel, by decide +kernel⟩, List.mem_of_getElem? (i := 282) (by decide +kernel), List.mem_of_getElem? (i := 690) (by decide +kernel), List.mem_of_getElem? (i := 691) (by decide +kernel)⟩
theorem lw_p19 : lw_okq (⟨"StencilHouse$Wall", "overlay", "(II)V"⟩, 12) := ⟨⟨by decide +kernel, by decide +kernel⟩, List.mem_of_getElem? (i := 282) (by decide +kernel), List.mem_of_getElem? (i := 699) (by decide +kernel), List.mem_of_getElem? (i := 700) (by decide +kernel)⟩
theorem lw_p20 : lw_okq (⟨"StencilHouse$Wall", "slideTo", "(III)Z"⟩, 12) := ⟨⟨by decide +kernel, by decide +kernel⟩, List.mem_of_getElem? (i := 282) (by decide +kernel), List.mem_of_getElem? (i := 711) (by decide +kernel), List.mem_of_getElem? (i := 712) (by decide +kernel)⟩
theorem lw_p21 : lw_okq (⟨"StencilHouse$Wall", "patchAt", "(III)Z"⟩, 12) := ⟨⟨by decide +kernel, by decide +kernel⟩, List.mem_of_getElem? (i := 282) (by decide +kernel), List.mem_of_getElem? (i := 715) (by decide +kernel), List.mem_of_getElem? (i := 716) (by decide +kernel)⟩
theorem lw_p22 : lw_okq (⟨"StencilHouse$Wall", "colourOf", "(I)I"⟩, 12) := ⟨⟨by decide +kernel, by decide +kernel⟩, List.mem_of_getElem? (i := 282) (by decide +kernel), List.mem_of_getElem? (i := 735) (by decide +kernel), List.mem_of_getElem? (i := 736) (by decide +kernel)⟩
theorem lw_p23 : lw_okq (⟨"StencilHouse$Orders", "findSprays", "(LStencilHouse$Shop;I)Z"⟩, 7) := ⟨⟨by decide +kernel, by decide +kernel⟩, List.mem_of_getElem? (i := 330) (by decide +kernel), List.mem_of_getElem? (i := 781) (by decide +kernel), List.mem_of_getElem? (i := 782) (by decide +kernel)⟩
theorem lw_p24 : lw_okq (⟨"StencilHouse$Orders", "begin", "(II)V"⟩, 7) := ⟨⟨by decide +kernel, by decide +kernel⟩, List.mem_of_getElem? (i := 330) (by decide +kernel), List.mem_of_getElem? (i := 785) (by decide +kernel), List.mem_of_getElem? (i := 786) (by decide +kernel)⟩
theorem lw_p25 : lw_okq (⟨"StencilHouse$Orders", "fill", "(II)V"⟩, 7) := ⟨⟨by decide +kernel, by decide +kernel⟩, List.mem_of_getElem? (i := 330) (by decide +kernel), List.mem_of_getElem? (i := 790) (by decide +kernel), List.mem_of_getElem? (i := 791) (by decide +kernel)⟩
theorem lw_p26 : lw_okq (⟨"StencilHouse$Orders", "leastUnused", "(II)I"⟩, 7) := ⟨⟨by decide +kernel, by decide +kernel⟩, List.mem_of_getElem? (i := 330) (by decide +kernel), List.mem_of_getElem? (i := 794) (by decide +kernel), List.mem_of_getElem? (i := 795) (by decide +kernel)⟩
theorem lw_p27 : lw_okq (⟨"StencilHouse$Orders", "makesWanted", "(LStencilHouse$Shop;)Z"⟩, 7) := ⟨⟨by decide +kernel, by decide +kernel⟩, List.mem_of_getElem? (i := 330) (by decide +kernel), List.mem_of_getElem? (i := 798) (by decide +kernel), List.mem_of_getElem? (i := 799) (by decide +kernel)⟩
theorem lw_p28 : lw_okq (⟨"StencilHouse$Orders", "colourOfAll", "(I)I"⟩, 7) := ⟨⟨by decide +kernel, by decide +kernel⟩, List.mem_of_getElem? (i := 330) (by decide +kernel), List.mem_of_getElem? (i := 802) (by decide +kernel), List.mem_of_getElem? (i := 803) (by decide +kernel)⟩
theorem lw_p29 : lw_okq (⟨"StencilHouse$Orders", "isLessThanFound", "()Z"⟩, 7) := ⟨⟨by decide +kernel, by decide +kernel⟩, List.mem_of_getElem? (i := 330) (by decide +kernel), List.mem_of_getElem? (i := 806) (by decide +kernel), List.mem_of_getElem? (i := 807) (by decide +kernel)⟩
theorem lw_p30 : lw_okq (⟨"StencilHouse$Orders", "advance", "()Z"⟩, 7) := ⟨⟨by decide +kernel, by decide +kernel⟩, List.mem_of_getElem? (i := 330) (by decide +kernel), List.mem_of_getElem? (i := 811) (by decide +kernel), List.mem_of_getElem? (i := 812) (by decide +kernel)⟩
theorem lw_p31 : lw_okq (⟨"StencilHouse$Orders", "clearTops", "()V"⟩, 7) := ⟨⟨by decide +kernel, by decide +kernel⟩, List.mem_of_getElem? (i := 330) (by decide +kernel), List.mem_of_getElem? (i := 908) (by decide +kernel), List.mem_of_getElem? (i := 909) (by decide +kernel)⟩
def lw_privs_2 : List (MethodName × Nat) := [(⟨"StencilHouse$Wall", "washOff", "(I)Z"⟩, 12), (⟨"StencilHouse$Wall", "sprayOn", "(II)Z"⟩, 12), (⟨"StencilHouse$Wall", "openNow", "(I)I"⟩, 12), (⟨"StencilHouse$Wall", "overlay", "(II)V"⟩, 12), (⟨"StencilHouse$Wall", "slideTo", "(III)Z"⟩, 12), (⟨"StencilHouse$Wall", "patchAt", "(III)Z"⟩, 12), (⟨"StencilHouse$Wall", "colourOf", "(I)I"⟩, 12), (⟨"StencilHouse$Orders", "findSprays", "(LStencilHouse$Shop;I)Z"⟩, 7), (⟨"StencilHouse$Orders", "begin", "(II)V"⟩, 7), (⟨"StencilHouse$Orders", "fill", "(II)V"⟩, 7), (⟨"StencilHouse$Orders", "leastUnused", "(II)I"⟩, 7), (⟨"StencilHouse$Orders", "makesWanted", "(LStencilHouse$Shop;)Z"⟩, 7), (⟨"StencilHouse$Orders", "colourOfAll", "(I)I"⟩, 7), (⟨"StencilHouse$Orders", "isLessThanFound", "()Z"⟩, 7), (⟨"StencilHouse$Orders", "advance", "()Z"⟩, 7), (⟨"StencilHouse$Orders", "clearTops", "()V"⟩, 7)]
theorem lw_r2 : ∀ q ∈ lw_privs_2, lw_okq q := List.forall_mem_cons.mpr ⟨lw_p16, List.forall_mem_cons.mpr ⟨lw_p17, List.forall_mem_cons.mpr ⟨lw_p18, List.forall_mem_cons.mpr ⟨lw_p19, List.forall_mem_cons.mpr ⟨lw_p20, List.forall_mem_cons.mpr ⟨lw_p21, List.forall_mem_cons.mpr ⟨lw_p22, List.forall_mem_cons.mpr ⟨lw_p23, List.forall_mem_cons.mpr ⟨lw_p24, List.forall_mem_cons.mpr ⟨lw_p25, List.forall_mem_cons.mpr ⟨lw_p26, List.forall_mem_cons.mpr ⟨lw_p27, List.forall_mem_cons.mpr ⟨lw_p28, List.forall_mem_cons.mpr ⟨lw_p29, List.forall_mem_cons.mpr ⟨lw_p30, List.forall_mem_cons.mpr ⟨lw_p31, fun _ h => absurd h List.not_mem_nil⟩⟩⟩⟩⟩⟩⟩⟩⟩⟩⟩⟩⟩⟩⟩⟩
theorem lw_p32 : lw_okq (⟨"StencilHouse$Orders", "fitsAll", "(LStencilHouse$Shop;LStencilHouse$Marks;)Z"⟩, 7) := ⟨⟨by decide +kernel, by decide +kernel⟩, List.mem_of_getElem? (i := 330) (by decide +kernel), List.mem_of_getElem? (i := 912) (by decide +kernel), List.mem_of_getElem? (i := 913) (by decide +kernel)⟩
theorem lw_p33 : lw_okq (⟨"StencilHouse$Orders", "topAt", "(LStencilHouse$Shop;I)I"⟩, 7) := ⟨⟨by decide +kernel, by decide +kernel⟩, List.mem_of_getElem? (i := 330) (by decide +kernel), List.mem_of_getElem? (i := 917) (by decide +kernel), List.mem_of_getElem? (i := 918) (by decide +kernel)⟩
theorem lw_p34 : lw_okq (⟨"StencilHouse$Orders", "asNumber", "()I"⟩, 7) := ⟨⟨by decide +kernel, by decide +kernel⟩, List.mem_of_getElem? (i := 330) (by decide +kernel), List.mem_of_getElem? (i := 925) (by decide +kernel), List.mem_of_getElem? (i := 926) (by decide +kernel)⟩
theorem lw_p35 : lw_okq (⟨"StencilHouse$Orders", "lastItem", "()I"⟩, 7) := ⟨⟨by decide +kernel, by decide +kernel⟩, List.mem_of_getElem? (i := 330) (by decide +kernel), List.mem_of_getElem? (i := 929) (by decide +kernel), List.mem_of_getElem? (i := 930) (by decide +kernel)⟩
theorem lw_p36 : lw_okq (⟨"StencilHouse$Orders", "countTops", "(LStencilHouse$Shop;)V"⟩, 7) := ⟨⟨by decide +kernel, by decide +kernel⟩, List.mem_of_getElem? (i := 330) (by decide +kernel), List.mem_of_getElem? (i := 933) (by decide +kernel), List.mem_of_getElem? (i := 934) (by decide +kernel)⟩
theorem lw_p37 : lw_okq (⟨"StencilHouse$Orders", "cellToAsk", "(LStencilHouse$Shop;)I"⟩, 7) := ⟨⟨by decide +kernel, by decide +kernel⟩, List.mem_of_getElem? (i := 330) (by decide +kernel), List.mem_of_getElem? (i := 937) (by decide +kernel), List.mem_of_getElem? (i := 938) (by decide +kernel)⟩
theorem lw_p38 : lw_okq (⟨"StencilHouse$Wall", "actDrawn", "()V"⟩, 12) := ⟨⟨by decide +kernel, by decide +kernel⟩, List.mem_of_getElem? (i := 282) (by decide +kernel), List.mem_of_getElem? (i := 950) (by decide +kernel), List.mem_of_getElem? (i := 951) (by decide +kernel)⟩
theorem lw_p39 : lw_okq (⟨"StencilHouse$Wall", "draw", "(I)I"⟩, 12) := ⟨⟨by decide +kernel, by decide +kernel⟩, List.mem_of_getElem? (i := 282) (by decide +kernel), List.mem_of_getElem? (i := 954) (by decide +kernel), List.mem_of_getElem? (i := 955) (by decide +kernel)⟩
theorem lw_p40 : lw_okq (⟨"StencilHouse$Wall", "actDrawnWith", "(II)V"⟩, 12) := ⟨⟨by decide +kernel, by decide +kernel⟩, List.mem_of_getElem? (i := 282) (by decide +kernel), List.mem_of_getElem? (i := 959) (by decide +kernel), List.mem_of_getElem? (i := 960) (by decide +kernel)⟩
theorem lw_p41 : lw_okq (⟨"StencilHouse$Orders", "shownCount", "(LStencilHouse$Shop;)I"⟩, 7) := ⟨⟨by decide +kernel, by decide +kernel⟩, List.mem_of_getElem? (i := 330) (by decide +kernel), List.mem_of_getElem? (i := 1055) (by decide +kernel), List.mem_of_getElem? (i := 1056) (by decide +kernel)⟩
theorem lw_p42 : lw_okq (⟨"StencilHouseModel", "four", "(I)V"⟩, 51) := ⟨⟨by decide +kernel, by decide +kernel⟩, List.mem_of_getElem? (i := 1120) (by decide +kernel), List.mem_of_getElem? (i := 1286) (by decide +kernel), List.mem_of_getElem? (i := 1287) (by decide +kernel)⟩
theorem lw_p43 : lw_okq (⟨"StencilHouseModel", "is", "(II)Z"⟩, 51) := ⟨⟨by decide +kernel, by decide +kernel⟩, List.mem_of_getElem? (i := 1120) (by decide +kernel), List.mem_of_getElem? (i := 1301) (by decide +kernel), List.mem_of_getElem? (i := 1302) (by decide +kernel)⟩
theorem lw_p44 : lw_okq (⟨"StencilHouseModel", "readText", "(I)Z"⟩, 51) := ⟨⟨by decide +kernel, by decide +kernel⟩, List.mem_of_getElem? (i := 1120) (by decide +kernel), List.mem_of_getElem? (i := 1305) (by decide +kernel), List.mem_of_getElem? (i := 1306) (by decide +kernel)⟩
theorem lw_p45 : lw_okq (⟨"StencilHouseModel", "token", "()V"⟩, 51) := ⟨⟨by decide +kernel, by decide +kernel⟩, List.mem_of_getElem? (i := 1120) (by decide +kernel), List.mem_of_getElem? (i := 1309) (by decide +kernel), List.mem_of_getElem? (i := 1310) (by decide +kernel)⟩
theorem lw_p46 : lw_okq (⟨"StencilHouseModel", "see", "()I"⟩, 51) := ⟨⟨by decide +kernel, by decide +kernel⟩, List.mem_of_getElem? (i := 1120) (by decide +kernel), List.mem_of_getElem? (i := 1313) (by decide +kernel), List.mem_of_getElem? (i := 1314) (by decide +kernel)⟩
theorem lw_p47 : lw_okq (⟨"StencilHouseModel", "allLines", "(I)Z"⟩, 51) := ⟨⟨by decide +kernel, by decide +kernel⟩, List.mem_of_getElem? (i := 1120) (by decide +kernel), List.mem_of_getElem? (i := 1317) (by decide +kernel), List.mem_of_getElem? (i := 1318) (by decide +kernel)⟩
def lw_privs_3 : List (MethodName × Nat) := [(⟨"StencilHouse$Orders", "fitsAll", "(LStencilHouse$Shop;LStencilHouse$Marks;)Z"⟩, 7), (⟨"StencilHouse$Orders", "topAt", "(LStencilHouse$Shop;I)I"⟩, 7), (⟨"StencilHouse$Orders", "asNumber", "()I"⟩, 7), (⟨"StencilHouse$Orders", "lastItem", "()I"⟩, 7), (⟨"StencilHouse$Orders", "countTops", "(LStencilHouse$Shop;)V"⟩, 7), (⟨"StencilHouse$Orders", "cellToAsk", "(LStencilHouse$Shop;)I"⟩, 7), (⟨"StencilHouse$Wall", "actDrawn", "()V"⟩, 12), (⟨"StencilHouse$Wall", "draw", "(I)I"⟩, 12), (⟨"StencilHouse$Wall", "actDrawnWith", "(II)V"⟩, 12), (⟨"StencilHouse$Orders", "shownCount", "(LStencilHouse$Shop;)I"⟩, 7), (⟨"StencilHouseModel", "four", "(I)V"⟩, 51), (⟨"StencilHouseModel", "is", "(II)Z"⟩, 51), (⟨"StencilHouseModel", "readText", "(I)Z"⟩, 51), (⟨"StencilHouseModel", "token", "()V"⟩, 51), (⟨"StencilHouseModel", "see", "()I"⟩, 51), (⟨"StencilHouseModel", "allLines", "(I)Z"⟩, 51)]
theorem lw_r3 : ∀ q ∈ lw_privs_3, lw_okq q := List.forall_mem_cons.mpr ⟨lw_p32, List.forall_mem_cons.mpr ⟨lw_p33, List.forall_mem_cons.mpr ⟨lw_p34, List.forall_mem_cons.mpr ⟨lw_p35, List.forall_mem_cons.mpr ⟨lw_p36, List.forall_mem_cons.mpr ⟨lw_p37, List.forall_mem_cons.mpr ⟨lw_p38, List.forall_mem_cons.mpr ⟨lw_p39, List.forall_mem_cons.mpr ⟨lw_p40, List.forall_mem_cons.mpr ⟨lw_p41, List.forall_mem_cons.mpr ⟨lw_p42, List.forall_mem_cons.mpr ⟨lw_p43, List.forall_mem_cons.mpr ⟨lw_p44, List.forall_mem_cons.mpr ⟨lw_p45, List.forall_mem_cons.mpr ⟨lw_p46, List.forall_mem_cons.mpr ⟨lw_p47, fun _ h => absurd h List.not_mem_nil⟩⟩⟩⟩⟩⟩⟩⟩⟩⟩⟩⟩⟩⟩⟩⟩
theorem lw_p48 : lw_okq (⟨"StencilHouseModel", "lineOf", "(IJI)Z"⟩, 51) := ⟨⟨by decide +kernel, by decide +kernel⟩, List.mem_of_getElem? (i := 1120) (by decide +kernel), List.mem_of_getElem? (i := 1321) (by decide +kernel), List.mem_of_getElem? (i := 1322) (by decide +kernel)⟩
theorem lw_p49 : lw_okq (⟨"StencilHouseModel", "shopLine", "(JI)Z"⟩, 51) := ⟨⟨by decide +kernel, by decide +kernel⟩, List.mem_of_getElem? (i := 1120) (by decide +kernel), List.mem_of_getElem? (i := 1325) (by decide +kernel), List.mem_of_getElem? (i := 1326) (by decide +kernel)⟩
theorem lw_p50 : lw_okq (⟨"StencilHouseModel", "sheetLine", "(I)Z"⟩, 51) := ⟨⟨by decide +kernel, by decide +kernel⟩, List.mem_of_getElem? (i := 1120) (by decide +kernel), List.mem_of_getElem? (i := 1330) (by decide +kernel), List.mem_of_getElem? (i := 1331) (by decide +kernel)⟩
theorem lw_p51 : lw_okq (⟨"StencilHouseModel", "full", "(III)V"⟩, 51) := ⟨⟨by decide +kernel, by decide +kernel⟩, List.mem_of_getElem? (i := 1120) (by decide +kernel), List.mem_of_getElem? (i := 1334) (by decide +kernel), List.mem_of_getElem? (i := 1335) (by decide +kernel)⟩
theorem lw_p52 : lw_okq (⟨"StencilHouseModel", "addsFault", "(II)V"⟩, 51) := ⟨⟨by decide +kernel, by decide +kernel⟩, List.mem_of_getElem? (i := 1120) (by decide +kernel), List.mem_of_getElem? (i := 1338) (by decide +kernel), List.mem_of_getElem? (i := 1339) (by decide +kernel)⟩
theorem lw_p53 : lw_okq (⟨"StencilHouseModel", "list", "(IIZ)V"⟩, 51) := ⟨⟨by decide +kernel, by decide +kernel⟩, List.mem_of_getElem? (i := 1120) (by decide +kernel), List.mem_of_getElem? (i := 1345) (by decide +kernel), List.mem_of_getElem? (i := 1346) (by decide +kernel)⟩
theorem lw_p54 : lw_okq (⟨"StencilHouseModel", "fails", "()Z"⟩, 51) := ⟨⟨by decide +kernel, by decide +kernel⟩, List.mem_of_getElem? (i := 1120) (by decide +kernel), List.mem_of_getElem? (i := 1352) (by decide +kernel), List.mem_of_getElem? (i := 1353) (by decide +kernel)⟩
theorem lw_p55 : lw_okq (⟨"StencilHouseModel", "take", "(III)Z"⟩, 51) := ⟨⟨by decide +kernel, by decide +kernel⟩, List.mem_of_getElem? (i := 1120) (by decide +kernel), List.mem_of_getElem? (i := 1356) (by decide +kernel), List.mem_of_getElem? (i := 1357) (by decide +kernel)⟩
theorem lw_p56 : lw_okq (⟨"StencilHouseModel", "dayLine", "(JI)Z"⟩, 51) := ⟨⟨by decide +kernel, by decide +kernel⟩, List.mem_of_getElem? (i := 1120) (by decide +kernel), List.mem_of_getElem? (i := 1363) (by decide +kernel), List.mem_of_getElem? (i := 1364) (by decide +kernel)⟩
theorem lw_p57 : lw_okq (⟨"StencilHouseModel", "deedBy", "(J)I"⟩, 51) := ⟨⟨by decide +kernel, by decide +kernel⟩, List.mem_of_getElem? (i := 1120) (by decide +kernel), List.mem_of_getElem? (i := 1367) (by decide +kernel), List.mem_of_getElem? (i := 1368) (by decide +kernel)⟩
theorem lw_p58 : lw_okq (⟨"StencilHouseModel", "keepRow", "(I)V"⟩, 51) := ⟨⟨by decide +kernel, by decide +kernel⟩, List.mem_of_getElem? (i := 1120) (by decide +kernel), List.mem_of_getElem? (i := 1377) (by decide +kernel), List.mem_of_getElem? (i := 1378) (by decide +kernel)⟩
theorem lw_p59 : lw_okq (⟨"StencilHouseModel", "pictureLine", "(JI)Z"⟩, 51) := ⟨⟨by decide +kernel, by decide +kernel⟩, List.mem_of_getElem? (i := 1120) (by decide +kernel), List.mem_of_getElem? (i := 1381) (by decide +kernel), List.mem_of_getElem? (i := 1382) (by decide +kernel)⟩
theorem lw_p60 : lw_okq (⟨"StencilHouseModel", "markLine", "(JI)Z"⟩, 51) := ⟨⟨by decide +kernel, by decide +kernel⟩, List.mem_of_getElem? (i := 1120) (by decide +kernel), List.mem_of_getElem? (i := 1386) (by decide +kernel), List.mem_of_getElem? (i := 1387) (by decide +kernel)⟩
theorem lw_p61 : lw_okq (⟨"StencilHouseModel", "cutsTooFar", "()Z"⟩, 51) := ⟨⟨by decide +kernel, by decide +kernel⟩, List.mem_of_getElem? (i := 1120) (by decide +kernel), List.mem_of_getElem? (i := 1392) (by decide +kernel), List.mem_of_getElem? (i := 1393) (by decide +kernel)⟩
theorem lw_p62 : lw_okq (⟨"StencilHouseModel", "storeOf", "(II)V"⟩, 51) := ⟨⟨by decide +kernel, by decide +kernel⟩, List.mem_of_getElem? (i := 1120) (by decide +kernel), List.mem_of_getElem? (i := 1396) (by decide +kernel), List.mem_of_getElem? (i := 1397) (by decide +kernel)⟩
theorem lw_p63 : lw_okq (⟨"StencilHouseModel", "store", "([III)V"⟩, 51) := ⟨⟨by decide +kernel, by decide +kernel⟩, List.mem_of_getElem? (i := 1120) (by decide +kernel), List.mem_of_getElem? (i := 1400) (by decide +kernel), List.mem_of_getElem? (i := 1401) (by decide +kernel)⟩
def lw_privs_4 : List (MethodName × Nat) := [(⟨"StencilHouseModel", "lineOf", "(IJI)Z"⟩, 51), (⟨"StencilHouseModel", "shopLine", "(JI)Z"⟩, 51), (⟨"StencilHouseModel", "sheetLine", "(I)Z"⟩, 51), (⟨"StencilHouseModel", "full", "(III)V"⟩, 51), (⟨"StencilHouseModel", "addsFault", "(II)V"⟩, 51), (⟨"StencilHouseModel", "list", "(IIZ)V"⟩, 51), (⟨"StencilHouseModel", "fails", "()Z"⟩, 51), (⟨"StencilHouseModel", "take", "(III)Z"⟩, 51), (⟨"StencilHouseModel", "dayLine", "(JI)Z"⟩, 51), (⟨"StencilHouseModel", "deedBy", "(J)I"⟩, 51), (⟨"StencilHouseModel", "keepRow", "(I)V"⟩, 51), (⟨"StencilHouseModel", "pictureLine", "(JI)Z"⟩, 51), (⟨"StencilHouseModel", "markLine", "(JI)Z"⟩, 51), (⟨"StencilHouseModel", "cutsTooFar", "()Z"⟩, 51), (⟨"StencilHouseModel", "storeOf", "(II)V"⟩, 51), (⟨"StencilHouseModel", "store", "([III)V"⟩, 51)]
theorem lw_r4 : ∀ q ∈ lw_privs_4, lw_okq q := List.forall_mem_cons.mpr ⟨lw_p48, List.forall_mem_cons.mpr ⟨lw_p49, List.forall_mem_cons.mpr ⟨lw_p50, List.forall_mem_cons.mpr ⟨lw_p51, List.forall_mem_cons.mpr ⟨lw_p52, List.forall_mem_cons.mpr ⟨lw_p53, List.forall_mem_cons.mpr ⟨lw_p54, List.forall_mem_cons.mpr ⟨lw_p55, List.forall_mem_cons.mpr ⟨lw_p56, List.forall_mem_cons.mpr ⟨lw_p57, List.forall_mem_cons.mpr ⟨lw_p58, List.forall_mem_cons.mpr ⟨lw_p59, List.forall_mem_cons.mpr ⟨lw_p60, List.forall_mem_cons.mpr ⟨lw_p61, List.forall_mem_cons.mpr ⟨lw_p62, List.forall_mem_cons.mpr ⟨lw_p63, fun _ h => absurd h List.not_mem_nil⟩⟩⟩⟩⟩⟩⟩⟩⟩⟩⟩⟩⟩⟩⟩⟩
theorem lw_p64 : lw_okq (⟨"StencilHouseModel", "hand", "(I)Z"⟩, 51) := ⟨⟨by decide +kernel, by decide +kernel⟩, List.mem_of_getElem? (i := 1120) (by decide +kernel), List.mem_of_getElem? (i := 1412) (by decide +kernel), List.mem_of_getElem? (i := 1413) (by decide +kernel)⟩
theorem lw_p65 : lw_okq (⟨"StencilHouseModel", "of", "(I)I"⟩, 51) := ⟨⟨by decide +kernel, by decide +kernel⟩, List.mem_of_getElem? (i := 1120) (by decide +kernel), List.mem_of_getElem? (i := 1416) (by decide +kernel), List.mem_of_getElem? (i := 1417) (by decide +kernel)⟩
theorem lw_p66 : lw_okq (⟨"StencilHouseModel", "asTold", "()V"⟩, 51) := ⟨⟨by decide +kernel, by decide +kernel⟩, List.mem_of_getElem? (i := 1120) (by decide +kernel), List.mem_of_getElem? (i := 1420) (by decide +kernel), List.mem_of_getElem? (i := 1421) (by decide +kernel)⟩
theorem lw_p67 : lw_okq (⟨"StencilHouseModel", "clean", "()V"⟩, 51) := ⟨⟨by decide +kernel, by decide +kernel⟩, List.mem_of_getElem? (i := 1120) (by decide +kernel), List.mem_of_getElem? (i := 1424) (by decide +kernel), List.mem_of_getElem? (i := 1425) (by decide +kernel)⟩
theorem lw_p68 : lw_okq (⟨"StencilHouseModel", "openBy", "(I)I"⟩, 51) := ⟨⟨by decide +kernel, by decide +kernel⟩, List.mem_of_getElem? (i := 1120) (by decide +kernel), List.mem_of_getElem? (i := 1431) (by decide +kernel), List.mem_of_getElem? (i := 1432) (by decide +kernel)⟩
theorem lw_p69 : lw_okq (⟨"StencilHouseModel", "fallsBy", "(I)I"⟩, 51) := ⟨⟨by decide +kernel, by decide +kernel⟩, List.mem_of_getElem? (i := 1120) (by decide +kernel), List.mem_of_getElem? (i := 1435) (by decide +kernel), List.mem_of_getElem? (i := 1436) (by decide +kernel)⟩
theorem lw_p70 : lw_okq (⟨"StencilHouseModel", "isRim", "(I)Z"⟩, 51) := ⟨⟨by decide +kernel, by decide +kernel⟩, List.mem_of_getElem? (i := 1120) (by decide +kernel), List.mem_of_getElem? (i := 1439) (by decide +kernel), List.mem_of_getElem? (i := 1440) (by decide +kernel)⟩
theorem lw_p71 : lw_okq (⟨"StencilHouseModel", "besides", "(I)I"⟩, 51) := ⟨⟨by decide +kernel, by decide +kernel⟩, List.mem_of_getElem? (i := 1120) (by decide +kernel), List.mem_of_getElem? (i := 1443) (by decide +kernel), List.mem_of_getElem? (i := 1444) (by decide +kernel)⟩
theorem lw_p72 : lw_okq (⟨"StencilHouseModel", "isSheet", "(I)Z"⟩, 51) := ⟨⟨by decide +kernel, by decide +kernel⟩, List.mem_of_getElem? (i := 1120) (by decide +kernel), List.mem_of_getElem? (i := 1447) (by decide +kernel), List.mem_of_getElem? (i := 1448) (by decide +kernel)⟩
theorem lw_p73 : lw_okq (⟨"StencilHouseModel", "hasDay", "(I)Z"⟩, 51) := ⟨⟨by decide +kernel, by decide +kernel⟩, List.mem_of_getElem? (i := 1120) (by decide +kernel), List.mem_of_getElem? (i := 1455) (by decide +kernel), List.mem_of_getElem? (i := 1456) (by decide +kernel)⟩
theorem lw_p74 : lw_okq (⟨"StencilHouseModel", "deeds", "()I"⟩, 51) := ⟨⟨by decide +kernel, by decide +kernel⟩, List.mem_of_getElem? (i := 1120) (by decide +kernel), List.mem_of_getElem? (i := 1459) (by decide +kernel), List.mem_of_getElem? (i := 1460) (by decide +kernel)⟩
theorem lw_p75 : lw_okq (⟨"StencilHouseModel", "deedOf", "(II)I"⟩, 51) := ⟨⟨by decide +kernel, by decide +kernel⟩, List.mem_of_getElem? (i := 1120) (by decide +kernel), List.mem_of_getElem? (i := 1463) (by decide +kernel), List.mem_of_getElem? (i := 1464) (by decide +kernel)⟩
theorem lw_p76 : lw_okq (⟨"StencilHouseModel", "layAll", "(II)Z"⟩, 51) := ⟨⟨by decide +kernel, by decide +kernel⟩, List.mem_of_getElem? (i := 1120) (by decide +kernel), List.mem_of_getElem? (i := 1471) (by decide +kernel), List.mem_of_getElem? (i := 1472) (by decide +kernel)⟩
theorem lw_p77 : lw_okq (⟨"StencilHouseModel", "play", "(I)I"⟩, 51) := ⟨⟨by decide +kernel, by decide +kernel⟩, List.mem_of_getElem? (i := 1120) (by decide +kernel), List.mem_of_getElem? (i := 1475) (by decide +kernel), List.mem_of_getElem? (i := 1476) (by decide +kernel)⟩
theorem lw_p78 : lw_okq (⟨"StencilHouseModel", "doesDeed", "(I)Z"⟩, 51) := ⟨⟨by decide +kernel, by decide +kernel⟩, List.mem_of_getElem? (i := 1120) (by decide +kernel), List.mem_of_getElem? (i := 1479) (by decide +kernel), List.mem_of_getElem? (i := 1480) (by decide +kernel)⟩
theorem lw_p79 : lw_okq (⟨"StencilHouseModel", "does", "(IIII)Z"⟩, 51) := ⟨⟨by decide +kernel, by decide +kernel⟩, List.mem_of_getElem? (i := 1120) (by decide +kernel), List.mem_of_getElem? (i := 1483) (by decide +kernel), List.mem_of_getElem? (i := 1484) (by decide +kernel)⟩
def lw_privs_5 : List (MethodName × Nat) := [(⟨"StencilHouseModel", "hand", "(I)Z"⟩, 51), (⟨"StencilHouseModel", "of", "(I)I"⟩, 51), (⟨"StencilHouseModel", "asTold", "()V"⟩, 51), (⟨"StencilHouseModel", "clean", "()V"⟩, 51), (⟨"StencilHouseModel", "openBy", "(I)I"⟩, 51), (⟨"StencilHouseModel", "fallsBy", "(I)I"⟩, 51), (⟨"StencilHouseModel", "isRim", "(I)Z"⟩, 51), (⟨"StencilHouseModel", "besides", "(I)I"⟩, 51), (⟨"StencilHouseModel", "isSheet", "(I)Z"⟩, 51), (⟨"StencilHouseModel", "hasDay", "(I)Z"⟩, 51), (⟨"StencilHouseModel", "deeds", "()I"⟩, 51), (⟨"StencilHouseModel", "deedOf", "(II)I"⟩, 51), (⟨"StencilHouseModel", "layAll", "(II)Z"⟩, 51), (⟨"StencilHouseModel", "play", "(I)I"⟩, 51), (⟨"StencilHouseModel", "doesDeed", "(I)Z"⟩, 51), (⟨"StencilHouseModel", "does", "(IIII)Z"⟩, 51)]
theorem lw_r5 : ∀ q ∈ lw_privs_5, lw_okq q := List.forall_mem_cons.mpr ⟨lw_p64, List.forall_mem_cons.mpr ⟨lw_p65, List.forall_mem_cons.mpr ⟨lw_p66, List.forall_mem_cons.mpr ⟨lw_p67, List.forall_mem_cons.mpr ⟨lw_p68, List.forall_mem_cons.mpr ⟨lw_p69, List.forall_mem_cons.mpr ⟨lw_p70, List.forall_mem_cons.mpr ⟨lw_p71, List.forall_mem_cons.mpr ⟨lw_p72, List.forall_mem_cons.mpr ⟨lw_p73, List.forall_mem_cons.mpr ⟨lw_p74, List.forall_mem_cons.mpr ⟨lw_p75, List.forall_mem_cons.mpr ⟨lw_p76, List.forall_mem_cons.mpr ⟨lw_p77, List.forall_mem_cons.mpr ⟨lw_p78, List.forall_mem_cons.mpr ⟨lw_p79, fun _ h => absurd h List.not_mem_nil⟩⟩⟩⟩⟩⟩⟩⟩⟩⟩⟩⟩⟩⟩⟩⟩
theorem lw_p80 : lw_okq (⟨"StencilHouseModel", "washes", "(I)Z"⟩, 51) := ⟨⟨by decide +kernel, by decide +kernel⟩, List.mem_of_getElem? (i := 1120) (by decide +kernel), List.mem_of_getElem? (i := 1487) (by decide +kernel), List.mem_of_getElem? (i := 1488) (by decide +kernel)⟩
theorem lw_p81 : lw_okq (⟨"StencilHouseModel", "spray", "(II)Z"⟩, 51) := ⟨⟨by decide +kernel, by decide +kernel⟩, List.mem_of_getElem? (i := 1120) (by decide +kernel), List.mem_of_getElem? (i := 1491) (by decide +kernel), List.mem_of_getElem? (i := 1492) (by decide +kernel)⟩
theorem lw_p82 : lw_okq (⟨"StencilHouseModel", "openNow", "(I)I"⟩, 51) := ⟨⟨by decide +kernel, by decide +kernel⟩, List.mem_of_getElem? (i := 1120) (by decide +kernel), List.mem_of_getElem? (i := 1495) (by decide +kernel), List.mem_of_getElem? (i := 1496) (by decide +kernel)⟩
theorem lw_p83 : lw_okq (⟨"StencilHouseModel", "slid", "(III)I"⟩, 51) := ⟨⟨by decide +kernel, by decide +kernel⟩, List.mem_of_getElem? (i := 1120) (by decide +kernel), List.mem_of_getElem? (i := 1499) (by decide +kernel), List.mem_of_getElem? (i := 1500) (by decide +kernel)⟩
theorem lw_p84 : lw_okq (⟨"StencilHouseModel", "paint", "(II)V"⟩, 51) := ⟨⟨by decide +kernel, by decide +kernel⟩, List.mem_of_getElem? (i := 1120) (by decide +kernel), List.mem_of_getElem? (i := 1503) (by decide +kernel), List.mem_of_getElem? (i := 1504) (by decide +kernel)⟩
theorem lw_p85 : lw_okq (⟨"StencilHouseModel", "turnedBy", "(IZ)I"⟩, 51) := ⟨⟨by decide +kernel, by decide +kernel⟩, List.mem_of_getElem? (i := 1120) (by decide +kernel), List.mem_of_getElem? (i := 1507) (by decide +kernel), List.mem_of_getElem? (i := 1508) (by decide +kernel)⟩
theorem lw_p86 : lw_okq (⟨"StencilHouseModel", "cuts", "(II)Z"⟩, 51) := ⟨⟨by decide +kernel, by decide +kernel⟩, List.mem_of_getElem? (i := 1120) (by decide +kernel), List.mem_of_getElem? (i := 1511) (by decide +kernel), List.mem_of_getElem? (i := 1512) (by decide +kernel)⟩
theorem lw_p87 : lw_okq (⟨"StencilHouseModel", "slides", "(III)Z"⟩, 51) := ⟨⟨by decide +kernel, by decide +kernel⟩, List.mem_of_getElem? (i := 1120) (by decide +kernel), List.mem_of_getElem? (i := 1515) (by decide +kernel), List.mem_of_getElem? (i := 1516) (by decide +kernel)⟩
theorem lw_p88 : lw_okq (⟨"StencilHouseModel", "patches", "(III)Z"⟩, 51) := ⟨⟨by decide +kernel, by decide +kernel⟩, List.mem_of_getElem? (i := 1120) (by decide +kernel), List.mem_of_getElem? (i := 1519) (by decide +kernel), List.mem_of_getElem? (i := 1520) (by decide +kernel)⟩
theorem lw_p89 : lw_okq (⟨"StencilHouseModel", "ofState", "(I)I"⟩, 51) := ⟨⟨by decide +kernel, by decide +kernel⟩, List.mem_of_getElem? (i := 1120) (by decide +kernel), List.mem_of_getElem? (i := 1527) (by decide +kernel), List.mem_of_getElem? (i := 1528) (by decide +kernel)⟩
theorem lw_p90 : lw_okq (⟨"StencilHouseModel", "isCell", "(I)Z"⟩, 51) := ⟨⟨by decide +kernel, by decide +kernel⟩, List.mem_of_getElem? (i := 1120) (by decide +kernel), List.mem_of_getElem? (i := 1531) (by decide +kernel), List.mem_of_getElem? (i := 1532) (by decide +kernel)⟩
theorem lw_p91 : lw_okq (⟨"StencilHouseModel", "coloured", "()I"⟩, 51) := ⟨⟨by decide +kernel, by decide +kernel⟩, List.mem_of_getElem? (i := 1120) (by decide +kernel), List.mem_of_getElem? (i := 1535) (by decide +kernel), List.mem_of_getElem? (i := 1536) (by decide +kernel)⟩
theorem lw_p92 : lw_okq (⟨"StencilHouseModel", "hasPicture", "(I)Z"⟩, 51) := ⟨⟨by decide +kernel, by decide +kernel⟩, List.mem_of_getElem? (i := 1120) (by decide +kernel), List.mem_of_getElem? (i := 1550) (by decide +kernel), List.mem_of_getElem? (i := 1551) (by decide +kernel)⟩
theorem lw_p93 : lw_okq (⟨"StencilHouseModel", "fewestSprays", "()I"⟩, 51) := ⟨⟨by decide +kernel, by decide +kernel⟩, List.mem_of_getElem? (i := 1120) (by decide +kernel), List.mem_of_getElem? (i := 1554) (by decide +kernel), List.mem_of_getElem? (i := 1555) (by decide +kernel)⟩
theorem lw_p94 : lw_okq (⟨"StencilHouseModel", "goesBeyond", "(I)Z"⟩, 51) := ⟨⟨by decide +kernel, by decide +kernel⟩, List.mem_of_getElem? (i := 1120) (by decide +kernel), List.mem_of_getElem? (i := 1558) (by decide +kernel), List.mem_of_getElem? (i := 1559) (by decide +kernel)⟩
theorem lw_p95 : lw_okq (⟨"StencilHouseModel", "colourAt", "(II)I"⟩, 51) := ⟨⟨by decide +kernel, by decide +kernel⟩, List.mem_of_getElem? (i := 1120) (by decide +kernel), List.mem_of_getElem? (i := 1562) (by decide +kernel), List.mem_of_getElem? (i := 1563) (by decide +kernel)⟩
def lw_privs_6 : List (MethodName × Nat) := [(⟨"StencilHouseModel", "washes", "(I)Z"⟩, 51), (⟨"StencilHouseModel", "spray", "(II)Z"⟩, 51), (⟨"StencilHouseModel", "openNow", "(I)I"⟩, 51), (⟨"StencilHouseModel", "slid", "(III)I"⟩, 51), (⟨"StencilHouseModel", "paint", "(II)V"⟩, 51), (⟨"StencilHouseModel", "turnedBy", "(IZ)I"⟩, 51), (⟨"StencilHouseModel", "cuts", "(II)Z"⟩, 51), (⟨"StencilHouseModel", "slides", "(III)Z"⟩, 51), (⟨"StencilHouseModel", "patches", "(III)Z"⟩, 51), (⟨"StencilHouseModel", "ofState", "(I)I"⟩, 51), (⟨"StencilHouseModel", "isCell", "(I)Z"⟩, 51), (⟨"StencilHouseModel", "coloured", "()I"⟩, 51), (⟨"StencilHouseModel", "hasPicture", "(I)Z"⟩, 51), (⟨"StencilHouseModel", "fewestSprays", "()I"⟩, 51), (⟨"StencilHouseModel", "goesBeyond", "(I)Z"⟩, 51), (⟨"StencilHouseModel", "colourAt", "(II)I"⟩, 51)]
theorem lw_r6 : ∀ q ∈ lw_privs_6, lw_okq q := List.forall_mem_cons.mpr ⟨lw_p80, List.forall_mem_cons.mpr ⟨lw_p81, List.forall_mem_cons.mpr ⟨lw_p82, List.forall_mem_cons.mpr ⟨lw_p83, List.forall_mem_cons.mpr ⟨lw_p84, List.forall_mem_cons.mpr ⟨lw_p85, List.forall_mem_cons.mpr ⟨lw_p86, List.forall_mem_cons.mpr ⟨lw_p87, List.forall_mem_cons.mpr ⟨lw_p88, List.forall_mem_cons.mpr ⟨lw_p89, List.forall_mem_cons.mpr ⟨lw_p90, List.forall_mem_cons.mpr ⟨lw_p91, List.forall_mem_cons.mpr ⟨lw_p92, List.forall_mem_cons.mpr ⟨lw_p93, List.forall_mem_cons.mpr ⟨lw_p94, List.forall_mem_cons.mpr ⟨lw_p95, fun _ h => absurd h List.not_mem_nil⟩⟩⟩⟩⟩⟩⟩⟩⟩⟩⟩⟩⟩⟩⟩⟩
theorem lw_p96 : lw_okq (⟨"StencilHouseModel", "layRow", "(II)Z"⟩, 51) := ⟨⟨by decide +kernel, by decide +kernel⟩, List.mem_of_getElem? (i := 1120) (by decide +kernel), List.mem_of_getElem? (i := 1566) (by decide +kernel), List.mem_of_getElem? (i := 1567) (by decide +kernel)⟩
theorem lw_p97 : lw_okq (⟨"StencilHouseModel", "makes", "(I)Z"⟩, 51) := ⟨⟨by decide +kernel, by decide +kernel⟩, List.mem_of_getElem? (i := 1120) (by decide +kernel), List.mem_of_getElem? (i := 1570) (by decide +kernel), List.mem_of_getElem? (i := 1571) (by decide +kernel)⟩
theorem lw_p98 : lw_okq (⟨"StencilHouseModel", "colourOf", "(I)I"⟩, 51) := ⟨⟨by decide +kernel, by decide +kernel⟩, List.mem_of_getElem? (i := 1120) (by decide +kernel), List.mem_of_getElem? (i := 1574) (by decide +kernel), List.mem_of_getElem? (i := 1575) (by decide +kernel)⟩
theorem lw_p99 : lw_okq (⟨"StencilHouseModel", "keepFirst", "(IZ)V"⟩, 51) := ⟨⟨by decide +kernel, by decide +kernel⟩, List.mem_of_getElem? (i := 1120) (by decide +kernel), List.mem_of_getElem? (i := 1578) (by decide +kernel), List.mem_of_getElem? (i := 1579) (by decide +kernel)⟩
theorem lw_p100 : lw_okq (⟨"StencilHouseModel", "openAll", "(I)I"⟩, 51) := ⟨⟨by decide +kernel, by decide +kernel⟩, List.mem_of_getElem? (i := 1120) (by decide +kernel), List.mem_of_getElem? (i := 1586) (by decide +kernel), List.mem_of_getElem? (i := 1587) (by decide +kernel)⟩
theorem lw_p101 : lw_okq (⟨"StencilHouseModel", "areApart", "(I)Z"⟩, 51) := ⟨⟨by decide +kernel, by decide +kernel⟩, List.mem_of_getElem? (i := 1120) (by decide +kernel), List.mem_of_getElem? (i := 1594) (by decide +kernel), List.mem_of_getElem? (i := 1595) (by decide +kernel)⟩
theorem lw_p102 : lw_okq (⟨"StencilHouseModel", "endOf", "(II)I"⟩, 51) := ⟨⟨by decide +kernel, by decide +kernel⟩, List.mem_of_getElem? (i := 1120) (by decide +kernel), List.mem_of_getElem? (i := 1605) (by decide +kernel), List.mem_of_getElem? (i := 1606) (by decide +kernel)⟩
theorem lw_p103 : lw_okq (⟨"StencilHouseModel", "fold", "(IZ)I"⟩, 51) := ⟨⟨by decide +kernel, by decide +kernel⟩, List.mem_of_getElem? (i := 1120) (by decide +kernel), List.mem_of_getElem? (i := 1609) (by decide +kernel), List.mem_of_getElem? (i := 1610) (by decide +kernel)⟩
theorem lw_p104 : lw_okq (⟨"StencilHouseModel", "isOpen", "(III)Z"⟩, 51) := ⟨⟨by decide +kernel, by decide +kernel⟩, List.mem_of_getElem? (i := 1120) (by decide +kernel), List.mem_of_getElem? (i := 1617) (by decide +kernel), List.mem_of_getElem? (i := 1618) (by decide +kernel)⟩
theorem lw_p105 : lw_okq (⟨"StencilHouseModel", "hasMarks", "(I)Z"⟩, 51) := ⟨⟨by decide +kernel, by decide +kernel⟩, List.mem_of_getElem? (i := 1120) (by decide +kernel), List.mem_of_getElem? (i := 1636) (by decide +kernel), List.mem_of_getElem? (i := 1637) (by decide +kernel)⟩
theorem lw_p106 : lw_okq (⟨"StencilHouseModel", "allMarks", "()I"⟩, 51) := ⟨⟨by decide +kernel, by decide +kernel⟩, List.mem_of_getElem? (i := 1120) (by decide +kernel), List.mem_of_getElem? (i := 1640) (by decide +kernel), List.mem_of_getElem? (i := 1641) (by decide +kernel)⟩
theorem lw_p107 : lw_okq (⟨"StencilHouseModel", "markOf", "(II)I"⟩, 51) := ⟨⟨by decide +kernel, by decide +kernel⟩, List.mem_of_getElem? (i := 1120) (by decide +kernel), List.mem_of_getElem? (i := 1644) (by decide +kernel), List.mem_of_getElem? (i := 1645) (by decide +kernel)⟩
theorem lw_p108 : lw_okq (⟨"StencilHouseModel", "findOrders", "(I)V"⟩, 51) := ⟨⟨by decide +kernel, by decide +kernel⟩, List.mem_of_getElem? (i := 1120) (by decide +kernel), List.mem_of_getElem? (i := 1652) (by decide +kernel), List.mem_of_getElem? (i := 1653) (by decide +kernel)⟩
theorem lw_p109 : lw_okq (⟨"StencilHouseModel", "firstOrder", "()V"⟩, 51) := ⟨⟨by decide +kernel, by decide +kernel⟩, List.mem_of_getElem? (i := 1120) (by decide +kernel), List.mem_of_getElem? (i := 1656) (by decide +kernel), List.mem_of_getElem? (i := 1657) (by decide +kernel)⟩
theorem lw_p110 : lw_okq (⟨"StencilHouseModel", "isSo", "()Z"⟩, 51) := ⟨⟨by decide +kernel, by decide +kernel⟩, List.mem_of_getElem? (i := 1120) (by decide +kernel), List.mem_of_getElem? (i := 1660) (by decide +kernel), List.mem_of_getElem? (i := 1661) (by decide +kernel)⟩
theorem lw_p111 : lw_okq (⟨"StencilHouseModel", "topOf", "(I)I"⟩, 51) := ⟨⟨by decide +kernel, by decide +kernel⟩, List.mem_of_getElem? (i := 1120) (by decide +kernel), List.mem_of_getElem? (i := 1664) (by decide +kernel), List.mem_of_getElem? (i := 1665) (by decide +kernel)⟩
def lw_privs_7 : List (MethodName × Nat) := [(⟨"StencilHouseModel", "layRow", "(II)Z"⟩, 51), (⟨"StencilHouseModel", "makes", "(I)Z"⟩, 51), (⟨"StencilHouseModel", "colourOf", "(I)I"⟩, 51), (⟨"StencilHouseModel", "keepFirst", "(IZ)V"⟩, 51), (⟨"StencilHouseModel", "openAll", "(I)I"⟩, 51), (⟨"StencilHouseModel", "areApart", "(I)Z"⟩, 51), (⟨"StencilHouseModel", "endOf", "(II)I"⟩, 51), (⟨"StencilHouseModel", "fold", "(IZ)I"⟩, 51), (⟨"StencilHouseModel", "isOpen", "(III)Z"⟩, 51), (⟨"StencilHouseModel", "hasMarks", "(I)Z"⟩, 51), (⟨"StencilHouseModel", "allMarks", "()I"⟩, 51), (⟨"StencilHouseModel", "markOf", "(II)I"⟩, 51), (⟨"StencilHouseModel", "findOrders", "(I)V"⟩, 51), (⟨"StencilHouseModel", "firstOrder", "()V"⟩, 51), (⟨"StencilHouseModel", "isSo", "()Z"⟩, 51), (⟨"StencilHouseModel", "topOf", "(I)I"⟩, 51)]
theorem lw_r7 : ∀ q ∈ lw_privs_7, lw_okq q := List.forall_mem_cons.mpr ⟨lw_p96, List.forall_mem_cons.mpr ⟨lw_p97, List.forall_mem_cons.mpr ⟨lw_p98, List.forall_mem_cons.mpr ⟨lw_p99, List.forall_mem_cons.mpr ⟨lw_p100, List.forall_mem_cons.mpr ⟨lw_p101, List.forall_mem_cons.mpr ⟨lw_p102, List.forall_mem_cons.mpr ⟨lw_p103, List.forall_mem_cons.mpr ⟨lw_p104, List.forall_mem_cons.mpr ⟨lw_p105, List.forall_mem_cons.mpr ⟨lw_p106, List.forall_mem_cons.mpr ⟨lw_p107, List.forall_mem_cons.mpr ⟨lw_p108, List.forall_mem_cons.mpr ⟨lw_p109, List.forall_mem_cons.mpr ⟨lw_p110, List.forall_mem_cons.mpr ⟨lw_p111, fun _ h => absurd h List.not_mem_nil⟩⟩⟩⟩⟩⟩⟩⟩⟩⟩⟩⟩⟩⟩⟩⟩
theorem lw_p112 : lw_okq (⟨"StencilHouseModel", "orderCode", "()I"⟩, 51) := ⟨⟨by decide +kernel, by decide +kernel⟩, List.mem_of_getElem? (i := 1120) (by decide +kernel), List.mem_of_getElem? (i := 1668) (by decide +kernel), List.mem_of_getElem? (i := 1669) (by decide +kernel)⟩
theorem lw_p113 : lw_okq (⟨"StencilHouseModel", "nextOrder", "()Z"⟩, 51) := ⟨⟨by decide +kernel, by decide +kernel⟩, List.mem_of_getElem? (i := 1120) (by decide +kernel), List.mem_of_getElem? (i := 1672) (by decide +kernel), List.mem_of_getElem? (i := 1673) (by decide +kernel)⟩
theorem lw_p114 : lw_okq (⟨"StencilHouseModel", "swap", "(II)V"⟩, 51) := ⟨⟨by decide +kernel, by decide +kernel⟩, List.mem_of_getElem? (i := 1120) (by decide +kernel), List.mem_of_getElem? (i := 1676) (by decide +kernel), List.mem_of_getElem? (i := 1677) (by decide +kernel)⟩
theorem lw_p115 : lw_okq (⟨"StencilHouseModel", "sure", "()I"⟩, 51) := ⟨⟨by decide +kernel, by decide +kernel⟩, List.mem_of_getElem? (i := 1120) (by decide +kernel), List.mem_of_getElem? (i := 1680) (by decide +kernel), List.mem_of_getElem? (i := 1681) (by decide +kernel)⟩
theorem lw_p116 : lw_okq (⟨"StencilHouseModel", "askWhere", "()I"⟩, 51) := ⟨⟨by decide +kernel, by decide +kernel⟩, List.mem_of_getElem? (i := 1120) (by decide +kernel), List.mem_of_getElem? (i := 1684) (by decide +kernel), List.mem_of_getElem? (i := 1685) (by decide +kernel)⟩
theorem lw_p117 : lw_okq (⟨"StencilHouseModel", "alike", "(I)I"⟩, 51) := ⟨⟨by decide +kernel, by decide +kernel⟩, List.mem_of_getElem? (i := 1120) (by decide +kernel), List.mem_of_getElem? (i := 1688) (by decide +kernel), List.mem_of_getElem? (i := 1689) (by decide +kernel)⟩
theorem lw_p118 : lw_okq (⟨"StencilHouseModel", "drawDeed", "()V"⟩, 51) := ⟨⟨by decide +kernel, by decide +kernel⟩, List.mem_of_getElem? (i := 1120) (by decide +kernel), List.mem_of_getElem? (i := 1696) (by decide +kernel), List.mem_of_getElem? (i := 1697) (by decide +kernel)⟩
theorem lw_p119 : lw_okq (⟨"StencilHouseModel", "draw", "(I)I"⟩, 51) := ⟨⟨by decide +kernel, by decide +kernel⟩, List.mem_of_getElem? (i := 1120) (by decide +kernel), List.mem_of_getElem? (i := 1700) (by decide +kernel), List.mem_of_getElem? (i := 1701) (by decide +kernel)⟩
theorem lw_p120 : lw_okq (⟨"StencilHouseModel", "holesOf", "(IZ)I"⟩, 51) := ⟨⟨by decide +kernel, by decide +kernel⟩, List.mem_of_getElem? (i := 1120) (by decide +kernel), List.mem_of_getElem? (i := 1709) (by decide +kernel), List.mem_of_getElem? (i := 1710) (by decide +kernel)⟩
theorem lw_p121 : lw_okq (⟨"StencilHouseModel", "joined", "(II)I"⟩, 51) := ⟨⟨by decide +kernel, by decide +kernel⟩, List.mem_of_getElem? (i := 1120) (by decide +kernel), List.mem_of_getElem? (i := 1713) (by decide +kernel), List.mem_of_getElem? (i := 1714) (by decide +kernel)⟩
theorem lw_p122 : lw_okq (⟨"StencilHouseModel", "edge", "(I)I"⟩, 51) := ⟨⟨by decide +kernel, by decide +kernel⟩, List.mem_of_getElem? (i := 1120) (by decide +kernel), List.mem_of_getElem? (i := 1717) (by decide +kernel), List.mem_of_getElem? (i := 1718) (by decide +kernel)⟩
theorem lw_p123 : lw_okq (⟨"StencilHouseModel", "strokes", "(IZ)I"⟩, 51) := ⟨⟨by decide +kernel, by decide +kernel⟩, List.mem_of_getElem? (i := 1120) (by decide +kernel), List.mem_of_getElem? (i := 1721) (by decide +kernel), List.mem_of_getElem? (i := 1722) (by decide +kernel)⟩
theorem lw_p124 : lw_okq (⟨"StencilHouseModel", "likeThemselves", "(Z)I"⟩, 51) := ⟨⟨by decide +kernel, by decide +kernel⟩, List.mem_of_getElem? (i := 1120) (by decide +kernel), List.mem_of_getElem? (i := 1729) (by decide +kernel), List.mem_of_getElem? (i := 1730) (by decide +kernel)⟩
theorem lw_p125 : lw_okq (⟨"StencilHouseModel", "twins", "()I"⟩, 51) := ⟨⟨by decide +kernel, by decide +kernel⟩, List.mem_of_getElem? (i := 1120) (by decide +kernel), List.mem_of_getElem? (i := 1733) (by decide +kernel), List.mem_of_getElem? (i := 1734) (by decide +kernel)⟩
theorem lw_p126 : lw_okq (⟨"StencilHouseModel", "openToAll", "()I"⟩, 51) := ⟨⟨by decide +kernel, by decide +kernel⟩, List.mem_of_getElem? (i := 1120) (by decide +kernel), List.mem_of_getElem? (i := 1737) (by decide +kernel), List.mem_of_getElem? (i := 1738) (by decide +kernel)⟩
theorem lw_p127 : lw_okq (⟨"StencilHouseModel", "falling", "()I"⟩, 51) := ⟨⟨by decide +kernel, by decide +kernel⟩, List.mem_of_getElem? (i := 1120) (by decide +kernel), List.mem_of_getElem? (i := 1741) (by decide +kernel), List.mem_of_getElem? (i := 1742) (by decide +kernel)⟩
def lw_privs_8 : List (MethodName × Nat) := [(⟨"StencilHouseModel", "orderCode", "()I"⟩, 51), (⟨"StencilHouseModel", "nextOrder", "()Z"⟩, 51), (⟨"StencilHouseModel", "swap", "(II)V"⟩, 51), (⟨"StencilHouseModel", "sure", "()I"⟩, 51), (⟨"StencilHouseModel", "askWhere", "()I"⟩, 51), (⟨"StencilHouseModel", "alike", "(I)I"⟩, 51), (⟨"StencilHouseModel", "drawDeed", "()V"⟩, 51), (⟨"StencilHouseModel", "draw", "(I)I"⟩, 51), (⟨"StencilHouseModel", "holesOf", "(IZ)I"⟩, 51), (⟨"StencilHouseModel", "joined", "(II)I"⟩, 51), (⟨"StencilHouseModel", "edge", "(I)I"⟩, 51), (⟨"StencilHouseModel", "strokes", "(IZ)I"⟩, 51), (⟨"StencilHouseModel", "likeThemselves", "(Z)I"⟩, 51), (⟨"StencilHouseModel", "twins", "()I"⟩, 51), (⟨"StencilHouseModel", "openToAll", "()I"⟩, 51), (⟨"StencilHouseModel", "falling", "()I"⟩, 51)]
theorem lw_r8 : ∀ q ∈ lw_privs_8, lw_okq q := List.forall_mem_cons.mpr ⟨lw_p112, List.forall_mem_cons.mpr ⟨lw_p113, List.forall_mem_cons.mpr ⟨lw_p114, List.forall_mem_cons.mpr ⟨lw_p115, List.forall_mem_cons.mpr ⟨lw_p116, List.forall_mem_cons.mpr ⟨lw_p117, List.forall_mem_cons.mpr ⟨lw_p118, List.forall_mem_cons.mpr ⟨lw_p119, List.forall_mem_cons.mpr ⟨lw_p120, List.forall_mem_cons.mpr ⟨lw_p121, List.forall_mem_cons.mpr ⟨lw_p122, List.forall_mem_cons.mpr ⟨lw_p123, List.forall_mem_cons.mpr ⟨lw_p124, List.forall_mem_cons.mpr ⟨lw_p125, List.forall_mem_cons.mpr ⟨lw_p126, List.forall_mem_cons.mpr ⟨lw_p127, fun _ h => absurd h List.not_mem_nil⟩⟩⟩⟩⟩⟩⟩⟩⟩⟩⟩⟩⟩⟩⟩⟩
theorem lw_p128 : lw_okq (⟨"StencilHouseModel", "needed", "()I"⟩, 51) := ⟨⟨by decide +kernel, by decide +kernel⟩, List.mem_of_getElem? (i := 1120) (by decide +kernel), List.mem_of_getElem? (i := 1745) (by decide +kernel), List.mem_of_getElem? (i := 1746) (by decide +kernel)⟩
theorem lw_p129 : lw_okq (⟨"StencilHouseModel", "stack", "()I"⟩, 51) := ⟨⟨by decide +kernel, by decide +kernel⟩, List.mem_of_getElem? (i := 1120) (by decide +kernel), List.mem_of_getElem? (i := 1749) (by decide +kernel), List.mem_of_getElem? (i := 1750) (by decide +kernel)⟩
theorem lw_p130 : lw_okq (⟨"StencilHouseModel", "stackAt", "(I)I"⟩, 51) := ⟨⟨by decide +kernel, by decide +kernel⟩, List.mem_of_getElem? (i := 1120) (by decide +kernel), List.mem_of_getElem? (i := 1753) (by decide +kernel), List.mem_of_getElem? (i := 1754) (by decide +kernel)⟩
theorem lw_p131 : lw_okq (⟨"StencilHouseModel", "nearly", "(Z)I"⟩, 51) := ⟨⟨by decide +kernel, by decide +kernel⟩, List.mem_of_getElem? (i := 1120) (by decide +kernel), List.mem_of_getElem? (i := 1757) (by decide +kernel), List.mem_of_getElem? (i := 1758) (by decide +kernel)⟩
theorem lw_p132 : lw_okq (⟨"StencilHouseModel", "unlikeOf", "(II)I"⟩, 51) := ⟨⟨by decide +kernel, by decide +kernel⟩, List.mem_of_getElem? (i := 1120) (by decide +kernel), List.mem_of_getElem? (i := 1762) (by decide +kernel), List.mem_of_getElem? (i := 1763) (by decide +kernel)⟩
theorem lw_p133 : lw_okq (⟨"StencilHouseModel", "hidden", "()I"⟩, 51) := ⟨⟨by decide +kernel, by decide +kernel⟩, List.mem_of_getElem? (i := 1120) (by decide +kernel), List.mem_of_getElem? (i := 1766) (by decide +kernel), List.mem_of_getElem? (i := 1767) (by decide +kernel)⟩
theorem lw_p134 : lw_okq (⟨"StencilHouseModel", "seenOf", "(I)I"⟩, 51) := ⟨⟨by decide +kernel, by decide +kernel⟩, List.mem_of_getElem? (i := 1120) (by decide +kernel), List.mem_of_getElem? (i := 1770) (by decide +kernel), List.mem_of_getElem? (i := 1771) (by decide +kernel)⟩
theorem lw_p135 : lw_okq (⟨"StencilHouseModel", "onTop", "()I"⟩, 51) := ⟨⟨by decide +kernel, by decide +kernel⟩, List.mem_of_getElem? (i := 1120) (by decide +kernel), List.mem_of_getElem? (i := 1786) (by decide +kernel), List.mem_of_getElem? (i := 1787) (by decide +kernel)⟩
theorem lw_p136 : lw_okq (⟨"StencilHouseModel", "places", "(I)I"⟩, 51) := ⟨⟨by decide +kernel, by decide +kernel⟩, List.mem_of_getElem? (i := 1120) (by decide +kernel), List.mem_of_getElem? (i := 1794) (by decide +kernel), List.mem_of_getElem? (i := 1795) (by decide +kernel)⟩
theorem lw_p137 : lw_okq (⟨"StencilHouseModel", "busy", "()I"⟩, 51) := ⟨⟨by decide +kernel, by decide +kernel⟩, List.mem_of_getElem? (i := 1120) (by decide +kernel), List.mem_of_getElem? (i := 1810) (by decide +kernel), List.mem_of_getElem? (i := 1811) (by decide +kernel)⟩
theorem lw_p138 : lw_okq (⟨"StencilHouseModel", "torn", "()I"⟩, 51) := ⟨⟨by decide +kernel, by decide +kernel⟩, List.mem_of_getElem? (i := 1120) (by decide +kernel), List.mem_of_getElem? (i := 1814) (by decide +kernel), List.mem_of_getElem? (i := 1815) (by decide +kernel)⟩
theorem lw_p139 : lw_okq (⟨"StencilHouseModel", "copyAll", "(II)V"⟩, 51) := ⟨⟨by decide +kernel, by decide +kernel⟩, List.mem_of_getElem? (i := 1120) (by decide +kernel), List.mem_of_getElem? (i := 1826) (by decide +kernel), List.mem_of_getElem? (i := 1827) (by decide +kernel)⟩
def lw_privs_9 : List (MethodName × Nat) := [(⟨"StencilHouseModel", "needed", "()I"⟩, 51), (⟨"StencilHouseModel", "stack", "()I"⟩, 51), (⟨"StencilHouseModel", "stackAt", "(I)I"⟩, 51), (⟨"StencilHouseModel", "nearly", "(Z)I"⟩, 51), (⟨"StencilHouseModel", "unlikeOf", "(II)I"⟩, 51), (⟨"StencilHouseModel", "hidden", "()I"⟩, 51), (⟨"StencilHouseModel", "seenOf", "(I)I"⟩, 51), (⟨"StencilHouseModel", "onTop", "()I"⟩, 51), (⟨"StencilHouseModel", "places", "(I)I"⟩, 51), (⟨"StencilHouseModel", "busy", "()I"⟩, 51), (⟨"StencilHouseModel", "torn", "()I"⟩, 51), (⟨"StencilHouseModel", "copyAll", "(II)V"⟩, 51)]
theorem lw_r9 : ∀ q ∈ lw_privs_9, lw_okq q := List.forall_mem_cons.mpr ⟨lw_p128, List.forall_mem_cons.mpr ⟨lw_p129, List.forall_mem_cons.mpr ⟨lw_p130, List.forall_mem_cons.mpr ⟨lw_p131, List.forall_mem_cons.mpr ⟨lw_p132, List.forall_mem_cons.mpr ⟨lw_p133, List.forall_mem_cons.mpr ⟨lw_p134, List.forall_mem_cons.mpr ⟨lw_p135, List.forall_mem_cons.mpr ⟨lw_p136, List.forall_mem_cons.mpr ⟨lw_p137, List.forall_mem_cons.mpr ⟨lw_p138, List.forall_mem_cons.mpr ⟨lw_p139, fun _ h => absurd h List.not_mem_nil⟩⟩⟩⟩⟩⟩⟩⟩⟩⟩⟩⟩
def lw_privs : List (MethodName × Nat) := lw_privs_1 ++ (lw_privs_2 ++ (lw_privs_3 ++ (lw_privs_4 ++ (lw_privs_5 ++ (lw_privs_6 ++ (lw_privs_7 ++ (lw_privs_8 ++ (lw_privs_9))))))))
def lw_tbl : List Cond := k2_sels lw_privs ++ tables_1
theorem lw_privs_ok : ∀ q ∈ lw_privs, lw_okq q := by
  show ∀ q ∈ lw_privs_1 ++ (lw_privs_2 ++ (lw_privs_3 ++ (lw_privs_4 ++ (lw_privs_5 ++ (lw_privs_6 ++ (lw_privs_7 ++ (lw_privs_8 ++ (lw_privs_9)))))))), lw_okq q
  exact List.forall_mem_append.mpr ⟨lw_r1, List.forall_mem_append.mpr ⟨lw_r2, List.forall_mem_append.mpr ⟨lw_r3, List.forall_mem_append.mpr ⟨lw_r4, List.forall_mem_append.mpr ⟨lw_r5, List.forall_mem_append.mpr ⟨lw_r6, List.forall_mem_append.mpr ⟨lw_r7, List.forall_mem_append.mpr ⟨lw_r8, lw_r9⟩⟩⟩⟩⟩⟩⟩⟩
-- ===== end of PART A; then your names; then what follows =====
end
section
/-! NAMES (by a program of ours out of the claim's own tables): classes, their places in the order of the slots, methods -/
def RX0 : String := "StencilHouse$Day"
def TX0 : u_T := fun k => match k with
  | 0 => ("StencilHouse$Day", "deedCount", "I", false)
  | _ => ("StencilHouse$Day", "parts", "[I", true)
def tyX0 : Nat → FieldType := fun k => match k with
  | 0 => .int
  | _ => .array .int
theorem nmX0 : ∀ a, a < 2 → ∀ b, b < 2 → a ≠ b → (TX0 a).2.1 ≠ (TX0 b).2.1 := by decide +kernel
theorem tyokX0 : ∀ k, k < 2 → parseFieldDescriptor (TX0 k).2.2.1 = some (tyX0 k) := by decide +kernel
def RX2 : String := "StencilHouse$Marks"
def TX2 : u_T := fun k => match k with
  | 0 => ("StencilHouse$Marks", "markCount", "I", false)
  | 1 => ("StencilHouse$Marks", "column", "[I", true)
  | 2 => ("StencilHouse$Marks", "row", "[I", true)
  | _ => ("StencilHouse$Marks", "sheet", "[I", true)
def tyX2 : Nat → FieldType := fun k => match k with
  | 0 => .int
  | 1 => .array .int
  | 2 => .array .int
  | _ => .array .int
theorem nmX2 : ∀ a, a < 4 → ∀ b, b < 4 → a ≠ b → (TX2 a).2.1 ≠ (TX2 b).2.1 := by decide +kernel
theorem tyokX2 : ∀ k, k < 4 → parseFieldDescriptor (TX2 k).2.2.1 = some (tyX2 k) := by decide +kernel
def RX3 : String := "StencilHouse$Orders"
def TX3 : u_T := fun k => match k with
  | 0 => ("StencilHouse$Orders", "items", "[I", true)
  | 1 => ("StencilHouse$Orders", "found", "[I", true)
  | 2 => ("StencilHouse$Orders", "spraysMade", "[I", true)
  | 3 => ("StencilHouse$Orders", "wanted", "[I", true)
  | 4 => ("StencilHouse$Orders", "tops", "[I", true)
  | 5 => ("StencilHouse$Orders", "size", "I", false)
  | _ => ("StencilHouse$Orders", "length", "I", false)
def tyX3 : Nat → FieldType := fun k => match k with
  | 0 => .array .int
  | 1 => .array .int
  | 2 => .array .int
  | 3 => .array .int
  | 4 => .array .int
  | 5 => .int
  | _ => .int
theorem nmX3 : ∀ a, a < 7 → ∀ b, b < 7 → a ≠ b → (TX3 a).2.1 ≠ (TX3 b).2.1 := by decide +kernel
theorem tyokX3 : ∀ k, k < 7 → parseFieldDescriptor (TX3 k).2.2.1 = some (tyX3 k) := by decide +kernel
def RX4 : String := "StencilHouse$Picture"
def TX4 : u_T := fun k => match k with
  | _ => ("StencilHouse$Picture", "colour", "[I", true)
def tyX4 : Nat → FieldType := fun k => match k with
  | _ => .array .int
theorem nmX4 : ∀ a, a < 1 → ∀ b, b < 1 → a ≠ b → (TX4 a).2.1 ≠ (TX4 b).2.1 := by decide +kernel
theorem tyokX4 : ∀ k, k < 1 → parseFieldDescriptor (TX4 k).2.2.1 = some (tyX4 k) := by decide +kernel
def RX5 : String := "StencilHouse$Reader"
def TX5 : u_T := fun k => match k with
  | 0 => ("StencilHouse$Reader", "shopRead", "LStencilHouse$Shop;", true)
  | 1 => ("StencilHouse$Reader", "dayRead", "LStencilHouse$Day;", true)
  | 2 => ("StencilHouse$Reader", "pictureRead", "LStencilHouse$Picture;", true)
  | 3 => ("StencilHouse$Reader", "marksRead", "LStencilHouse$Marks;", true)
  | 4 => ("StencilHouse$Reader", "fault", "I", false)
  | 5 => ("StencilHouse$Reader", "faultPlace", "I", false)
  | 6 => ("StencilHouse$Reader", "tokens", "LStencilHouse$Tokens;", true)
  | 7 => ("StencilHouse$Reader", "sheetRows", "[I", true)
  | 8 => ("StencilHouse$Reader", "numbers", "[I", true)
  | 9 => ("StencilHouse$Reader", "wornSheets", "I", false)
  | _ => ("StencilHouse$Reader", "pictureRows", "I", false)
def tyX5 : Nat → FieldType := fun k => match k with
  | 0 => .object "StencilHouse$Shop"
  | 1 => .object "StencilHouse$Day"
  | 2 => .object "StencilHouse$Picture"
  | 3 => .object "StencilHouse$Marks"
  | 4 => .int
  | 5 => .int
  | 6 => .object "StencilHouse$Tokens"
  | 7 => .array .int
  | 8 => .array .int
  | 9 => .int
  | _ => .int
theorem nmX5 : ∀ a, a < 11 → ∀ b, b < 11 → a ≠ b → (TX5 a).2.1 ≠ (TX5 b).2.1 := by decide +kernel
theorem tyokX5 : ∀ k, k < 11 → parseFieldDescriptor (TX5 k).2.2.1 = some (tyX5 k) := by decide +kernel
def RX6 : String := "StencilHouse$Shop"
def TX6 : u_T := fun k => match k with
  | 0 => ("StencilHouse$Shop", "columns", "I", false)
  | 1 => ("StencilHouse$Shop", "rows", "I", false)
  | 2 => ("StencilHouse$Shop", "slip", "I", false)
  | 3 => ("StencilHouse$Shop", "sheetCount", "I", false)
  | 4 => ("StencilHouse$Shop", "cut", "[I", true)
  | 5 => ("StencilHouse$Shop", "wear", "[I", true)
  | 6 => ("StencilHouse$Shop", "open", "[I", true)
  | 7 => ("StencilHouse$Shop", "all", "I", false)
  | 8 => ("StencilHouse$Shop", "left", "I", false)
  | 9 => ("StencilHouse$Shop", "right", "I", false)
  | _ => ("StencilHouse$Shop", "rim", "I", false)
def tyX6 : Nat → FieldType := fun k => match k with
  | 0 => .int
  | 1 => .int
  | 2 => .int
  | 3 => .int
  | 4 => .array .int
  | 5 => .array .int
  | 6 => .array .int
  | 7 => .int
  | 8 => .int
  | 9 => .int
  | _ => .int
theorem nmX6 : ∀ a, a < 11 → ∀ b, b < 11 → a ≠ b → (TX6 a).2.1 ≠ (TX6 b).2.1 := by decide +kernel
theorem tyokX6 : ∀ k, k < 11 → parseFieldDescriptor (TX6 k).2.2.1 = some (tyX6 k) := by decide +kernel
def RX7 : String := "StencilHouse$Tokens"
def TX7 : u_T := fun k => match k with
  | 0 => ("StencilHouse$Tokens", "tape", "[I", false)
  | 1 => ("StencilHouse$Tokens", "length", "I", false)
  | 2 => ("StencilHouse$Tokens", "behind", "I", false)
  | 3 => ("StencilHouse$Tokens", "kind", "I", false)
  | 4 => ("StencilHouse$Tokens", "place", "I", false)
  | _ => ("StencilHouse$Tokens", "value", "I", false)
def tyX7 : Nat → FieldType := fun k => match k with
  | 0 => .array .int
  | 1 => .int
  | 2 => .int
  | 3 => .int
  | 4 => .int
  | _ => .int
theorem nmX7 : ∀ a, a < 6 → ∀ b, b < 6 → a ≠ b → (TX7 a).2.1 ≠ (TX7 b).2.1 := by decide +kernel
theorem tyokX7 : ∀ k, k < 6 → parseFieldDescriptor (TX7 k).2.2.1 = some (tyX7 k) := by decide +kernel
def RX8 : String := "StencilHouse$Told"
def TX8 : u_T := fun k => match k with
  | 0 => ("StencilHouse$Told", "tape", "[I", true)
  | 1 => ("StencilHouse$Told", "tapeLength", "I", false)
  | 2 => ("StencilHouse$Told", "fault", "I", false)
  | 3 => ("StencilHouse$Told", "faultPlace", "I", false)
  | 4 => ("StencilHouse$Told", "counts", "[I", true)
  | 5 => ("StencilHouse$Told", "shopList", "[LStencilHouse$Shop;", true)
  | 6 => ("StencilHouse$Told", "dayList", "[LStencilHouse$Day;", true)
  | 7 => ("StencilHouse$Told", "pictureList", "[LStencilHouse$Picture;", true)
  | _ => ("StencilHouse$Told", "marksList", "[LStencilHouse$Marks;", true)
def tyX8 : Nat → FieldType := fun k => match k with
  | 0 => .array .int
  | 1 => .int
  | 2 => .int
  | 3 => .int
  | 4 => .array .int
  | 5 => .array (.object "StencilHouse$Shop")
  | 6 => .array (.object "StencilHouse$Day")
  | 7 => .array (.object "StencilHouse$Picture")
  | _ => .array (.object "StencilHouse$Marks")
theorem nmX8 : ∀ a, a < 9 → ∀ b, b < 9 → a ≠ b → (TX8 a).2.1 ≠ (TX8 b).2.1 := by decide +kernel
theorem tyokX8 : ∀ k, k < 9 → parseFieldDescriptor (TX8 k).2.2.1 = some (tyX8 k) := by decide +kernel
def RX9 : String := "StencilHouse$Wall"
def TX9 : u_T := fun k => match k with
  | 0 => ("StencilHouse$Wall", "shop", "LStencilHouse$Shop;", false)
  | 1 => ("StencilHouse$Wall", "cellsOf", "[I", true)
  | 2 => ("StencilHouse$Wall", "cut", "[I", true)
  | 3 => ("StencilHouse$Wall", "sprayed", "[I", true)
  | 4 => ("StencilHouse$Wall", "across", "[I", true)
  | 5 => ("StencilHouse$Wall", "down", "[I", true)
  | 6 => ("StencilHouse$Wall", "deedsDone", "I", false)
  | 7 => ("StencilHouse$Wall", "sprayCount", "I", false)
  | 8 => ("StencilHouse$Wall", "seed", "I", false)
  | 9 => ("StencilHouse$Wall", "firstOver", "I", false)
  | 10 => ("StencilHouse$Wall", "over", "I", false)
  | _ => ("StencilHouse$Wall", "washed", "I", false)
def tyX9 : Nat → FieldType := fun k => match k with
  | 0 => .object "StencilHouse$Shop"
  | 1 => .array .int
  | 2 => .array .int
  | 3 => .array .int
  | 4 => .array .int
  | 5 => .array .int
  | 6 => .int
  | 7 => .int
  | 8 => .int
  | 9 => .int
  | 10 => .int
  | _ => .int
theorem nmX9 : ∀ a, a < 12 → ∀ b, b < 12 → a ≠ b → (TX9 a).2.1 ≠ (TX9 b).2.1 := by decide +kernel
theorem tyokX9 : ∀ k, k < 12 → parseFieldDescriptor (TX9 k).2.2.1 = some (tyX9 k) := by decide +kernel
def RX10 : String := "StencilHouse"
def TX10 : u_T := fun k => match k with
  | 0 => ("StencilHouse", "told", "LStencilHouse$Told;", true)
  | 1 => ("StencilHouse", "images", "[LStencilHouse$Told;", true)
  | 2 => ("StencilHouse", "reader", "LStencilHouse$Reader;", true)
  | 3 => ("StencilHouse", "wall", "LStencilHouse$Wall;", true)
  | _ => ("StencilHouse", "orders", "LStencilHouse$Orders;", true)
def tyX10 : Nat → FieldType := fun k => match k with
  | 0 => .object "StencilHouse$Told"
  | 1 => .array (.object "StencilHouse$Told")
  | 2 => .object "StencilHouse$Reader"
  | 3 => .object "StencilHouse$Wall"
  | _ => .object "StencilHouse$Orders"
theorem nmX10 : ∀ a, a < 5 → ∀ b, b < 5 → a ≠ b → (TX10 a).2.1 ≠ (TX10 b).2.1 := by decide +kernel
theorem tyokX10 : ∀ k, k < 5 → parseFieldDescriptor (TX10 k).2.2.1 = some (tyX10 k) := by decide +kernel
def RX11 : String := "StencilHouseModel"
def TX11 : u_T := fun k => match k with
  | 0 => ("StencilHouseModel", "code", "I", false)
  | 1 => ("StencilHouseModel", "tape", "[B", true)
  | 2 => ("StencilHouseModel", "size", "[I", true)
  | 3 => ("StencilHouseModel", "fault", "[I", true)
  | 4 => ("StencilHouseModel", "faultPlace", "[I", true)
  | 5 => ("StencilHouseModel", "many", "[I", true)
  | 6 => ("StencilHouseModel", "shops", "[I", true)
  | 7 => ("StencilHouseModel", "days", "[I", true)
  | 8 => ("StencilHouseModel", "pictures", "[I", true)
  | 9 => ("StencilHouseModel", "marks", "[I", true)
  | 10 => ("StencilHouseModel", "reached", "I", false)
  | 11 => ("StencilHouseModel", "length", "I", false)
  | 12 => ("StencilHouseModel", "begins", "I", false)
  | 13 => ("StencilHouseModel", "sort", "I", false)
  | 14 => ("StencilHouseModel", "value", "I", false)
  | 15 => ("StencilHouseModel", "word", "J", false)
  | 16 => ("StencilHouseModel", "wrongAt", "I", false)
  | 17 => ("StencilHouseModel", "laterFault", "I", false)
  | 18 => ("StencilHouseModel", "laterPlace", "I", false)
  | 19 => ("StencilHouseModel", "told", "[I", true)
  | 20 => ("StencilHouseModel", "read", "[I", true)
  | 21 => ("StencilHouseModel", "farOne", "I", false)
  | 22 => ("StencilHouseModel", "good", "Z", false)
  | 23 => ("StencilHouseModel", "shop", "I", false)
  | 24 => ("StencilHouseModel", "wide", "I", false)
  | 25 => ("StencilHouseModel", "high", "I", false)
  | 26 => ("StencilHouseModel", "cells", "I", false)
  | 27 => ("StencilHouseModel", "sheets", "I", false)
  | 28 => ("StencilHouseModel", "sprays", "I", false)
  | 29 => ("StencilHouseModel", "cut", "[I", true)
  | 30 => ("StencilHouseModel", "open", "[I", true)
  | 31 => ("StencilHouseModel", "right", "[I", true)
  | 32 => ("StencilHouseModel", "down", "[I", true)
  | 33 => ("StencilHouseModel", "sprayed", "[I", true)
  | 34 => ("StencilHouseModel", "wall", "[I", true)
  | 35 => ("StencilHouseModel", "day", "I", false)
  | 36 => ("StencilHouseModel", "over", "I", false)
  | 37 => ("StencilHouseModel", "washed", "I", false)
  | 38 => ("StencilHouseModel", "picture", "I", false)
  | 39 => ("StencilHouseModel", "row", "[I", true)
  | 40 => ("StencilHouseModel", "rowColour", "[I", true)
  | 41 => ("StencilHouseModel", "bestRow", "[I", true)
  | 42 => ("StencilHouseModel", "ends", "[I", true)
  | 43 => ("StencilHouseModel", "which", "I", false)
  | 44 => ("StencilHouseModel", "mark", "I", false)
  | 45 => ("StencilHouseModel", "found", "I", false)
  | 46 => ("StencilHouseModel", "asked", "I", false)
  | 47 => ("StencilHouseModel", "last", "I", false)
  | 48 => ("StencilHouseModel", "tops", "[I", true)
  | 49 => ("StencilHouseModel", "seed", "I", false)
  | _ => ("StencilHouseModel", "saved", "[Z", true)
def tyX11 : Nat → FieldType := fun k => match k with
  | 0 => .int
  | 1 => .array .byte
  | 2 => .array .int
  | 3 => .array .int
  | 4 => .array .int
  | 5 => .array .int
  | 6 => .array .int
  | 7 => .array .int
  | 8 => .array .int
  | 9 => .array .int
  | 10 => .int
  | 11 => .int
  | 12 => .int
  | 13 => .int
  | 14 => .int
  | 15 => .long
  | 16 => .int
  | 17 => .int
  | 18 => .int
  | 19 => .array .int
  | 20 => .array .int
  | 21 => .int
  | 22 => .boolean
  | 23 => .int
  | 24 => .int
  | 25 => .int
  | 26 => .int
  | 27 => .int
  | 28 => .int
  | 29 => .array .int
  | 30 => .array .int
  | 31 => .array .int
  | 32 => .array .int
  | 33 => .array .int
  | 34 => .array .int
  | 35 => .int
  | 36 => .int
  | 37 => .int
  | 38 => .int
  | 39 => .array .int
  | 40 => .array .int
  | 41 => .array .int
  | 42 => .array .int
  | 43 => .int
  | 44 => .int
  | 45 => .int
  | 46 => .int
  | 47 => .int
  | 48 => .array .int
  | 49 => .int
  | _ => .array .boolean
theorem nmX11 : ∀ a, a < 51 → ∀ b, b < 51 → a ≠ b → (TX11 a).2.1 ≠ (TX11 b).2.1 := by decide +kernel
theorem tyokX11 : ∀ k, k < 51 → parseFieldDescriptor (TX11 k).2.2.1 = some (tyX11 k) := by decide +kernel
def classes : List vw_C := [(RX0, TX0, 2), (RX2, TX2, 4), (RX3, TX3, 7), (RX4, TX4, 1), (RX5, TX5, 11), (RX6, TX6, 11), (RX7, TX7, 6), (RX8, TX8, 9), (RX9, TX9, 12), (RX10, TX10, 5), (RX11, TX11, 51)]
def clty : List (Nat → FieldType) := [tyX0, tyX2, tyX3, tyX4, tyX5, tyX6, tyX7, tyX8, tyX9, tyX10, tyX11]
end
section
/-! THE ABSTRACT MACHINE. A value: an int, a long, a reference to the object of a kind and a number, null (true) or nothing known (false). The memory: whole numbers, other values, what is alive, each by kind, number, place. -/
abbrev AV : Type := Int32 ⊕ Int64 ⊕ (Nat × Nat) ⊕ Bool
abbrev aI (x : Int32) : AV := .inl x
abbrev aL (x : Int64) : AV := .inr (.inl x)
abbrev aR (c i : Nat) : AV := .inr (.inr (.inl (c, i)))
abbrev aN : AV := .inr (.inr (.inr true))
abbrev aU : AV := .inr (.inr (.inr false))
abbrev MI : Type := Nat → Nat → Nat → Int32
abbrev MR : Type := Nat → Nat → Nat → AV
abbrev LV : Type := Nat → Nat → Bool
abbrev MM : Type := MI × MR × LV
abbrev PL : Type := List (Nat × Nat)
abbrev PO : Type := AV → MM → Prop
abbrev XT : Type := Nat → PL → Nat → Nat → List AV → List AV → MM → PO → Prop
def u3 {α : Type} (f : Nat → Nat → Nat → α) (c i k : Nat) (v : α) : Nat → Nat → Nat → α := fun c' i' k' => if c' = c ∧ i' = i ∧ k' = k then v else f c' i' k'
def u2 {α : Type} (f : Nat → Nat → Nat → α) (c i : Nat) (g : Nat → α) : Nat → Nat → Nat → α := fun c' i' k' => if c' = c ∧ i' = i then g k' else f c' i' k'
def u1 {α : Type} (f : Nat → Nat → α) (c i : Nat) (v : α) : Nat → Nat → α := fun c' i' => if c' = c ∧ i' = i then v else f c' i'
/-- the kinds of objects: 0 Day, 1 Marks, 2 Orders, 3 Picture, 4 Reader, 5 Shop, 6 Tokens, 7 Told, 8 Wall, 9 the house, 10 the model; 11 the script, 12 .. 15 its own static arrays, 16 a text, 17 its bytes; arrays from 20 on -/
def aks : List (FieldType × Nat) := [(.int, 600), (.int, 4), (.object "StencilHouse$Shop", 2), (.object "StencilHouse$Day", 2), (.object "StencilHouse$Picture", 2), (.object "StencilHouse$Marks", 2), (.int, 6), (.int, 6), (.int, 6), (.int, 160), (.int, 25), (.int, 8), (.int, 8), (.int, 8), (.int, 30), (.int, 5), (.int, 0), (.int, 10), (.int, 6), (.int, 6), (.int, 6), (.int, 6), (.int, 6), (.int, 6), (.int, 6), (.int, 10), (.int, 175), (.object "StencilHouse$Told", 3), (.int, 0), (.int, 0), (.byte, 2400), (.int, 4), (.int, 4), (.int, 4), (.int, 16), (.int, 320), (.int, 1288), (.int, 208), (.int, 264), (.int, 161), (.int, 5), (.int, 6), (.int, 6), (.int, 6), (.int, 6), (.int, 6), (.int, 25), (.int, 6), (.int, 6), (.int, 6), (.int, 117649), (.int, 175), (.boolean, 3)]
def ak (c : Nat) : Option (FieldType × Nat) := match Nat.ble 20 c with
  | true => aks[c - 20]?
  | false => none
def stk (c : Nat) : Bool := Nat.ble 11 c && Nat.ble c 19
def sta (c : Nat) : Option (List Int32) := match c with
  | 12 => some [0, 4, 10, 11, 13]
  | 13 => some [2, 1, -1, 2, 2, 1, 1, 3, 3, 1, -1, 3, 2]
  | 14 => some [1, 1, 0, 0, 0, 0, 0, 0, 0, 0, 1, 0, 0, 1, 0, 0, 0, 0, 0, 0, 0, 0, 0, 0, 0, 0, 0, 1, 0, 0, 0, 0, 0, 0, 0, 0, 0, 0, 0]
  | 15 => some [5, 5, 0, 10, 0, 0, 31, 0, 0, 5, 9, 0, 5, 9, 0, 5, 0, 0, 5, 0, 0, 5, 4, 4, 5, 4, 4, 9, 0, 0, 9, 0, 0, 4, 4, 5, 4, 4, 0]
  | _ => none
def stx : List (List Int32) := [[115, 105, 122, 101], [115, 108, 105, 112], [115, 104, 101, 101, 116], [119, 101, 97, 114], [115, 112, 114, 97, 121], [102, 108, 105, 112], [116, 117, 114, 110], [115, 108, 105, 100, 101], [112, 97, 116, 99, 104], [119, 97, 115, 104], [114, 111, 119], [116, 111, 112], [98, 97, 114, 101]]
/-- links of a class: fields (kind, place, whether a whole number); calls (how, which, arguments beside the receiver, locals, answer, objects made); constants; made classes; array classes; static fields -/
abbrev LK : Type := List (Nat × Nat × Nat × Bool) × List (Nat × Nat × Nat × Nat × Nat × Nat × Nat) × List (Nat × AV) × List (Nat × Nat) × List (Nat × FieldType) × List (Nat × AV)
def cI (n : Int) : Int32 := match n with
  | .ofNat n => Int32.ofNat n
  | .negSucc n => - Int32.ofNat (n + 1)
def tg (pc : Nat) (off : Int) : Nat := match off with
  | .ofNat n => pc + n
  | .negSucc n => pc - (n + 1)
def pI (S : List AV) (f : Int32 → List AV → Prop) : Prop := match S with
  | .inl x :: S => f x S
  | _ => False
def pL (S : List AV) (f : Int64 → List AV → Prop) : Prop := match S with
  | .inr (.inl x) :: S => f x S
  | _ => False
def pR (S : List AV) (f : Nat → Nat → List AV → Prop) : Prop := match S with
  | .inr (.inr (.inl q)) :: S => f q.1 q.2 S
  | _ => False
/-- a reference or null -/
def pA (S : List AV) (f : AV → List AV → Prop) : Prop := match S with
  | .inr (.inr (.inl q)) :: S => f (aR q.1 q.2) S
  | .inr (.inr (.inr true)) :: S => f aN S
  | _ => False
def pN (S : List AV) (fr fn : List AV → Prop) : Prop := match S with
  | .inr (.inr (.inl _)) :: S => fr S
  | .inr (.inr (.inr true)) :: S => fn S
  | _ => False
def pV (S : List AV) (f : AV → List AV → Prop) : Prop := match S with
  | v :: S => f v S
  | _ => False
/-- a list's row of a key -/
def pK {α : Type} (l : List (Nat × α)) (k : Nat) (f : α → Prop) : Prop := match l.lookup k with
  | some v => f v
  | none => False
/-- a class's kind -/
def pB (b : Bool) (A : Prop) : Prop := match b with
  | true => A
  | false => False
def pP (P : PL) (f : Nat → Nat → PL → Prop) : Prop := match P with
  | q :: P => f q.1 q.2 P
  | [] => False
def pO {α : Type} (o : Option α) (f : α → Prop) : Prop := match o with
  | some v => f v
  | none => False
/-- an answer of one word that is a whole number -/
def isIT2 (t : FieldType) : Bool := match t with
  | .boolean | .byte | .char => true
  | _ => false
def p1 (v : AV) (f : AV → Prop) : Prop := match v with
  | .inl x => f (aI x)
  | .inr (.inr (.inl q)) => f (aR q.1 q.2)
  | .inr (.inr (.inr true)) => f aN
  | _ => False
def gL (L : List AV) (k : Nat) : AV := L.getD k aU
/-- a value of one word comes into a local -/
def sL (L : List AV) (k : Nat) (v : AV) (f : List AV → Prop) : Prop := match Nat.blt k L.length with
  | true => (match k with
    | 0 => f (L.set 0 v)
    | j + 1 => (match gL L j with
      | .inr (.inl _) => False
      | _ => f (L.set (j + 1) v)))
  | false => False
def sL2 (L : List AV) (k : Nat) (x : Int64) (f : List AV → Prop) : Prop := match Nat.blt (k + 1) L.length with
  | true => (match k with
    | 0 => f ((L.set 0 (aL x)).set 1 aU)
    | j + 1 => (match gL L j with
      | .inr (.inl _) => False
      | _ => f ((L.set (j + 1) (aL x)).set (j + 2) aU)))
  | false => False
def brc (c : Jvm.ClassFile.Cond) (x y : Int32) (a b : Prop) : Prop := match c with
  | .eq => (x = y → a) ∧ (¬ x = y → b)
  | .ne => (¬ x = y → a) ∧ (x = y → b)
  | .lt => (x < y → a) ∧ (¬ x < y → b)
  | .ge => (y ≤ x → a) ∧ (¬ y ≤ x → b)
  | .gt => (y < x → a) ∧ (¬ y < x → b)
  | .le => (x ≤ y → a) ∧ (¬ x ≤ y → b)
def onI (f : Int32 → MM → Prop) : PO := fun v M => match v with
  | .inl x => f x M
  | _ => False
def onA (c : Nat) (fn : MM → Prop) (f : Nat → MM → Prop) : PO := fun v M => match v with
  | .inr (.inr (.inl q)) => q.1 = c ∧ f q.2 M
  | .inr (.inr (.inr true)) => fn M
  | _ => False
/-- behind a call, by the kind of its answer: none, a whole number, a reference to an object of a kind or null -/
def onR (r : Nat) (fv : MM → Prop) (f : AV → MM → Prop) : PO := match r with
  | 0 => fun _ M => fv M
  | 1 => onI fun x M => f (aI x) M
  | r + 2 => onA r (fun M => f aN M) (fun j M => f (aR r j) M)
/-- one more call -/
def pD (d : Nat) (f : Nat → Prop) : Prop := match d with
  | 0 => False
  | d + 1 => f d
def isInt (t : FieldType) : Bool := match t with
  | .int => true
  | _ => false
/-- the locals at a method's entry -/
def ent : List AV → Nat → List AV
  | [], n => List.replicate n aU
  | .inr (.inl x) :: A, n => .inr (.inl x) :: aU :: ent A (n - 2)
  | v :: A, n => v :: ent A (n - 1)
def swT (x : Int32) (pc : Nat) (J : Nat → Prop) : Int → List Int → Prop
  | _, [] => True
  | lo, o :: os => (x = cI lo → J (tg pc o)) ∧ swT x pc J (lo + 1) os
def swL (x : Int32) (pc : Nat) (J : Nat → Prop) (dflt : Int) : List (Int × Int) → Prop
  | [] => J (tg pc dflt)
  | (v, o) :: os => (x = cI v → J (tg pc o)) ∧ (¬ x = cI v → swL x pc J dflt os)
def dv (t : FieldType) : AV := match t with
  | .long => aL 0
  | _ => aN
def isIT (t : FieldType) : Bool := match t with
  | .int | .boolean | .byte => true
  | _ => false
/-- the types of the objects' places -/
def fts : List (List FieldType) := [[.int, .array .int],
  [.int, .array .int, .array .int, .array .int],
  [.array .int, .array .int, .array .int, .array .int, .array .int, .int, .int],
  [.array .int],
  [.object "StencilHouse$Shop", .object "StencilHouse$Day", .object "StencilHouse$Picture", .object "StencilHouse$Marks", .int, .int, .object "StencilHouse$Tokens", .array .int, .array .int, .int, .int],
  [.int, .int, .int, .int, .array .int, .array .int, .array .int, .int, .int, .int, .int],
  [.array .int, .int, .int, .int, .int, .int],
  [.array .int, .int, .int, .int, .array .int, .array (.object "StencilHouse$Shop"), .array (.object "StencilHouse$Day"), .array (.object "StencilHouse$Picture"), .array (.object "StencilHouse$Marks")],
  [.object "StencilHouse$Shop", .array .int, .array .int, .array .int, .array .int, .array .int, .int, .int, .int, .int, .int, .int],
  [.object "StencilHouse$Told", .array (.object "StencilHouse$Told"), .object "StencilHouse$Reader", .object "StencilHouse$Wall", .object "StencilHouse$Orders"],
  [.int, .array .byte, .array .int, .array .int, .array .int, .array .int, .array .int, .array .int, .array .int, .array .int, .int, .int, .int, .int, .int, .long, .int, .int, .int, .array .int, .array .int, .int, .boolean, .int, .int, .int, .int, .int, .int, .array .int, .array .int, .array .int, .array .int, .array .int, .array .int, .int, .int, .int, .int, .array .int, .array .int, .array .int, .array .int, .int, .int, .int, .int, .int, .array .int, .int, .array .boolean]]
/-- the type of a place -/
def ftk (c k : Nat) : FieldType := match Nat.ble 20 c with
  | true => (match aks[c - 20]? with
    | some q => q.1
    | none => .int)
  | false => (fts.getD c []).getD k .int
/-- an object that was made: its places are empty, it is alive -/
def mk (M : MM) (c i : Nat) : MM := (u2 M.1 c i (fun _ => 0), u2 M.2.1 c i (fun k => dv (ftk c k)), u1 M.2.2 c i true)
/-- whether a place is final -/
def finB (c j : Nat) : Bool := ((classes.getD c ("", fun _ => ("", "", "", false), 0)).2.1 j).2.2.2
def stepI (gl : Nat) (gx : Nat → Int32) (X : XT) (d : Nat) (R : LK) (rt : Option FieldType) (hw : Nat) (oc : String) (Q : PO) (K J : Nat → PL → List AV → List AV → MM → Prop) (i : Instr) (pc : Nat) (P : PL) (L S : List AV) (M : MM) : Prop :=
  match i with
  | .aload_n k => pA [gL L k.val] fun v _ => K (pc + 1) P L (v :: S) M
  | .aload k => pA [gL L k] fun v _ => K (pc + 2) P L (v :: S) M
  | .iload_n k => pI [gL L k.val] fun x _ => K (pc + 1) P L (aI x :: S) M
  | .iload k => pI [gL L k] fun x _ => K (pc + 2) P L (aI x :: S) M
  | .lload_n k => pL [gL L k.val] fun x _ => K (pc + 1) P L (aL x :: S) M
  | .lload k => pL [gL L k] fun x _ => K (pc + 2) P L (aL x :: S) M
  | .astore_n k => pA S fun v S => sL L k.val v fun L => K (pc + 1) P L S M
  | .astore k => pA S fun v S => sL L k v fun L => K (pc + 2) P L S M
  | .istore_n k => pI S fun x S => sL L k.val (aI x) fun L => K (pc + 1) P L S M
  | .istore k => pI S fun x S => sL L k (aI x) fun L => K (pc + 2) P L S M
  | .lstore k => pL S fun x S => sL2 L k x fun L => K (pc + 2) P L S M
  | .iinc k n => pI [gL L k] fun x _ => sL L k (aI (x + cI n)) fun L => K (pc + 3) P L S M
  | .iconst n => K (pc + 1) P L (aI (cI n) :: S) M
  | .bipush n => K (pc + 2) P L (aI (cI n) :: S) M
  | .sipush n => K (pc + 3) P L (aI (cI n) :: S) M
  | .lconst n => K (pc + 1) P L (aL (Int64.ofNat n.val) :: S) M
  | .aconst_null => K (pc + 1) P L (aN :: S) M
  | .ldc k => pK R.2.2.1 k fun v => p1 v fun v => K (pc + 2) P L (v :: S) M
  | .ldc_w k => pK R.2.2.1 k fun v => pI [v] fun x _ => K (pc + 3) P L (aI x :: S) M
  | .ldc2_w k => pK R.2.2.1 k fun v => pL [v] fun x _ => K (pc + 3) P L (aL x :: S) M
  | .iadd => pI S fun y S => pI S fun x S => K (pc + 1) P L (aI (x + y) :: S) M
  | .isub => pI S fun y S => pI S fun x S => K (pc + 1) P L (aI (x - y) :: S) M
  | .imul => pI S fun y S => pI S fun x S => K (pc + 1) P L (aI (x * y) :: S) M
  | .idiv => pI S fun y S => pI S fun x S => ¬ y = 0 ∧ K (pc + 1) P L (aI (x / y) :: S) M
  | .irem => pI S fun y S => pI S fun x S => ¬ y = 0 ∧ K (pc + 1) P L (aI (x - x / y * y) :: S) M
  | .iand => pI S fun y S => pI S fun x S => K (pc + 1) P L (aI (x &&& y) :: S) M
  | .ior => pI S fun y S => pI S fun x S => K (pc + 1) P L (aI (x ||| y) :: S) M
  | .ixor => pI S fun y S => pI S fun x S => K (pc + 1) P L (aI (x ^^^ y) :: S) M
  | .ishl => pI S fun y S => pI S fun x S => K (pc + 1) P L (aI (x <<< (y &&& 31)) :: S) M
  | .ishr => pI S fun y S => pI S fun x S => K (pc + 1) P L (aI (x >>> (y &&& 31)) :: S) M
  | .iushr => pI S fun y S => pI S fun x S => K (pc + 1) P L (aI ((x.toUInt32 >>> (y.toUInt32 &&& Int32.toUInt32 31)).toInt32) :: S) M
  | .ineg => pI S fun x S => K (pc + 1) P L (aI (- x) :: S) M
  | .i2l => pI S fun x S => K (pc + 1) P L (aL x.toInt64 :: S) M
  | .i2b => pI S fun x S => K (pc + 1) P L (aI x.toInt8.toInt32 :: S) M
  | .i2c => pI S fun x S => K (pc + 1) P L (aI (x.toUInt32 % 65536).toInt32 :: S) M
  | .lshl => pI S fun y S => pL S fun x S => K (pc + 1) P L (aL (x <<< (y.toInt64 &&& 63)) :: S) M
  | .lor => pL S fun y S => pL S fun x S => K (pc + 1) P L (aL (x ||| y) :: S) M
  | .lcmp => pL S fun y S => pL S fun x S => K (pc + 1) P L (aI (lg_cmp x y) :: S) M
  | .dup => pV S fun v S => p1 v fun v => K (pc + 1) P L (v :: v :: S) M
  | .dup2 => pV S fun w S => pV S fun v S => p1 w fun w => p1 v fun v => K (pc + 1) P L (w :: v :: w :: v :: S) M
  | .pop => pV S fun v S => p1 v fun _ => K (pc + 1) P L S M
  | .goto o => J (tg pc o) P L S M
  | .if_icmp c o => pI S fun y S => pI S fun x S => brc c x y (J (tg pc o) P L S M) (K (pc + 3) P L S M)
  | .ifCond c o => pI S fun x S => brc c x 0 (J (tg pc o) P L S M) (K (pc + 3) P L S M)
  | .ifnull o => pN S (fun S => K (pc + 3) P L S M) (fun S => J (tg pc o) P L S M)
  | .ifnonnull o => pN S (fun S => J (tg pc o) P L S M) (fun S => K (pc + 3) P L S M)
  | .tableswitch o lo hi os => pI S fun x S => (x < cI lo ∨ cI hi < x → J (tg pc o) P L S M) ∧ swT x pc (fun t => J t P L S M) lo os.toList
  | .lookupswitch o ps => pI S fun x S => swL x pc (fun t => J t P L S M) o ps.toList
  | .getfield k => pR S fun c i S => pK R.1 k fun e => pB (Nat.beq c e.1) (match Nat.beq e.1 16 with
    | true => K (pc + 3) P L ((match e.2.2 with
      | true => aI 0
      | false => aR 17 i) :: S) M
    | false => K (pc + 3) P L ((match e.2.2 with
      | true => aI (M.1 c i e.2.1)
      | false => M.2.1 c i e.2.1) :: S) M)
  | .putfield k => pV S fun v S => pR S fun c i S => pK R.1 k fun e => pB (Nat.beq c e.1) <| pB (match finB c e.2.1 with
    | true => Nat.beq hw 2 && decide (oc = (classes.getD c ("", fun _ => ("", "", "", false), 0)).1)
    | false => Nat.blt c 11) (match e.2.2 with
    | true => pI [v] fun x _ => (match ftk c e.2.1 with
      | .int => K (pc + 3) P L S (u3 M.1 c i e.2.1 x, M.2)
      | t => (narrow t (.int x) = .int x ∧ fits t (.int x) = true) ∧ K (pc + 3) P L S (u3 M.1 c i e.2.1 x, M.2))
    | false => (match ftk c e.2.1 with
      | .long => pL [v] fun x _ => K (pc + 3) P L S (M.1, u3 M.2.1 c i e.2.1 (aL x), M.2.2)
      | _ => pA [v] fun v _ => K (pc + 3) P L S (M.1, u3 M.2.1 c i e.2.1 v, M.2.2)))
  | .getstatic k => pK R.2.2.2.2.2 k fun v => p1 v fun v => K (pc + 3) P L (v :: S) M
  | .iaload => pI S fun j S => pR S fun c i S => (match ak c with
    | some q => pB (isInt q.1) (vp_in j q.2 ∧ K (pc + 1) P L (aI (M.1 c i j.toNatClampNeg) :: S) M)
    | none => (match sta c with
      | some l => vp_in j l.length ∧ K (pc + 1) P L (aI (l.getD j.toNatClampNeg 0) :: S) M
      | none => pB (Nat.beq c 11) (vp_in j gl ∧ K (pc + 1) P L (aI (gx j.toNatClampNeg) :: S) M)))
  | .baload => pI S fun j S => pR S fun c i S => (match ak c with
    | some q => pB (isIT q.1 && !isInt q.1) (vp_in j q.2 ∧ K (pc + 1) P L (aI (M.1 c i j.toNatClampNeg) :: S) M)
    | none => pB (Nat.beq c 17) (vp_in j (stx.getD i []).length ∧ K (pc + 1) P L (aI ((stx.getD i []).getD j.toNatClampNeg 0) :: S) M))
  | .aaload => pI S fun j S => pR S fun c i S => pO (ak c) fun q => (match q.1 with
    | .object _ => vp_in j q.2 ∧ K (pc + 1) P L (M.2.1 c i j.toNatClampNeg :: S) M
    | _ => False)
  | .iastore => pI S fun x S => pI S fun j S => pR S fun c i S => pO (ak c) fun q => pB (isInt q.1) (vp_in j q.2 ∧ K (pc + 1) P L S (u3 M.1 c i j.toNatClampNeg x, M.2))
  | .bastore => pI S fun x S => pI S fun j S => pR S fun c i S => pO (ak c) fun q => pB (isIT q.1 && !isInt q.1) (vp_in j q.2 ∧ K (pc + 1) P L S (u3 M.1 c i j.toNatClampNeg (vp_nar q.1 x), M.2))
  | .aastore => pR S fun c' i' S => pI S fun j S => pR S fun c i S => pO (ak c) fun q => (match q.1 with
    | .object C => ((classes.getD c' ("", fun _ => ("", "", "", false), 0)).1 = C ∧ c' < 11) ∧ vp_in j q.2 ∧ K (pc + 1) P L S (M.1, u3 M.2.1 c i j.toNatClampNeg (aR c' i'), M.2.2)
    | _ => False)
  | .arraylength => pR S fun c i S => (match ak c with
    | some q => K (pc + 1) P L (aI (Int32.ofNat q.2) :: S) M
    | none => (match Nat.beq c 11 with
      | true => K (pc + 1) P L (aI (Int32.ofNat gl) :: S) M
      | false => pB (Nat.beq c 17) (K (pc + 1) P L (aI (Int32.ofNat (stx.getD i []).length) :: S) M)))
  | .new k => pP P fun c i P => pK R.2.2.2.1 k fun c' => pB (Nat.beq c c') (M.2.2 c i = false ∧ K (pc + 3) P L (aR c i :: S) (mk M c i))
  | .newarray t => pI S fun x S => pP P fun c i P => pO (ak c) fun q => (newarray.typeOf t = q.1 ∧ x = Int32.ofNat q.2) ∧ M.2.2 c i = false ∧ K (pc + 2) P L (aR c i :: S) (mk M c i)
  | .anewarray k => pI S fun x S => pP P fun c i P => pO (ak c) fun q => (R.2.2.2.2.1.lookup k = some q.1 ∧ x = Int32.ofNat q.2) ∧ M.2.2 c i = false ∧ K (pc + 3) P L (aR c i :: S) (mk M c i)
  | .ireturn => pI S fun x S => pB S.isEmpty (match rt with
    | some .int => Q (aI x) M
    | some t => (match isIT2 t with
      | true => narrow t (.int x) = .int x ∧ Q (aI x) M
      | false => False)
    | _ => False)
  | .areturn => pA S fun v S => pB S.isEmpty (match rt with
    | some (.object _) => Q v M
    | _ => False)
  | .return_ => pB S.isEmpty (match rt with
    | none => Q aU M
    | _ => False)
  | .invokevirtual k => pK R.2.1 k fun e => pR (S.drop e.2.2.1) fun c i T => pB (Nat.beq (c + 10) e.1) (pD d fun d => (T.length ≤ 4 ∧ (S.take e.2.2.1).length = e.2.2.1 ∧ (ent (aR c i :: (S.take e.2.2.1).reverse) e.2.2.2.1).length = e.2.2.2.1) ∧ X d (P.take e.2.2.2.2.2) e.2.1 0 (ent (aR c i :: (S.take e.2.2.1).reverse) e.2.2.2.1) [] M (onR e.2.2.2.2.1 (fun M => K (pc + 3) (P.drop e.2.2.2.2.2) L T M) fun v M => K (pc + 3) (P.drop e.2.2.2.2.2) L (v :: T) M))
  | .invokestatic k => pK R.2.1 k fun e => (match e.1 with
    | 1 => pD d fun d => ((S.drop e.2.2.1).length ≤ 4 ∧ (S.take e.2.2.1).length = e.2.2.1 ∧ (ent (S.take e.2.2.1).reverse e.2.2.2.1).length = e.2.2.2.1) ∧ X d (P.take e.2.2.2.2.2) e.2.1 0 (ent (S.take e.2.2.1).reverse e.2.2.2.1) [] M (onR e.2.2.2.2.1 (fun M => K (pc + 3) (P.drop e.2.2.2.2.2) L (S.drop e.2.2.1) M) fun v M => K (pc + 3) (P.drop e.2.2.2.2.2) L (v :: S.drop e.2.2.1) M)
    | 5 => pD d fun _ => pI S fun n S => pI S fun dp S => pR S fun c' i' S => pI S fun sp S => pR S fun c i S => pO (ak c) fun q => pO (ak c') fun q' => pB (isInt q.1 && isInt q'.1) ((S.length ≤ 4 ∧ ¬ sp < 0 ∧ ¬ dp < 0 ∧ ¬ n < 0 ∧ sp.toNatClampNeg + n.toNatClampNeg ≤ q.2 ∧ dp.toNatClampNeg + n.toNatClampNeg ≤ q'.2) ∧ K (pc + 3) P L S (u2 M.1 c' i' (va_cpy (M.1 c i) (M.1 c' i') sp.toNatClampNeg dp.toNatClampNeg n.toNatClampNeg), M.2))
    | 6 => pD d fun d => pD d fun _ => pI S fun n S => pI S fun x S => (S.length ≤ 4 ∧ ¬ x < 0 ∧ x < n) ∧ K (pc + 3) P L S M
    | 7 => pD d fun _ => pI S fun y S => pI S fun x S => S.length ≤ 4 ∧ K (pc + 3) P L (aI (if x < y then y else x) :: S) M
    | 8 => pD d fun _ => pI S fun y S => pI S fun x S => S.length ≤ 4 ∧ K (pc + 3) P L (aI (if y < x then y else x) :: S) M
    | _ => False)
  | .invokespecial k => pK R.2.1 k fun e => (match e.1 with
    | 2 => pR (S.drop e.2.2.1) fun c i T => pD d fun d => (T.length ≤ 4 ∧ (S.take e.2.2.1).length = e.2.2.1 ∧ (ent (aR c i :: (S.take e.2.2.1).reverse) e.2.2.2.1).length = e.2.2.2.1) ∧ X d (P.take e.2.2.2.2.2) e.2.1 0 (ent (aR c i :: (S.take e.2.2.1).reverse) e.2.2.2.1) [] M (fun _ M => K (pc + 3) (P.drop e.2.2.2.2.2) L T M)
    | 3 => pR (S.drop e.2.2.1) fun c i T => pD d fun d => (T.length ≤ 4 ∧ (S.take e.2.2.1).length = e.2.2.1 ∧ (ent (aR c i :: (S.take e.2.2.1).reverse) e.2.2.2.1).length = e.2.2.2.1) ∧ X d (P.take e.2.2.2.2.2) e.2.1 0 (ent (aR c i :: (S.take e.2.2.1).reverse) e.2.2.2.1) [] M (fun _ M => K (pc + 3) (P.drop e.2.2.2.2.2) L T M)
    | 4 => pD d fun _ => pR S fun _ _ S => S.length ≤ 4 ∧ K (pc + 3) P L S M
    | _ => False)
  | _ => False
/-- a run of pieces of code: it goes on from a place where a piece begins, and leaves to X at any other -/
def runB (gl : Nat) (gx : Nat → Int32) (X : XT) (d : Nat) (R : LK) (rt : Option FieldType) (hw : Nat) (oc : String) (Q : PO) (y : Nat) (T : List (Nat × List Instr)) : Nat → List Instr → Nat → PL → List AV → List AV → MM → Prop
  | 0, _, pc, P, L, S, M => X d P y pc L S M Q
  | f + 1, [], pc, P, L, S, M => (match T.lookup pc with
    | some is => runB gl gx X d R rt hw oc Q y T f is pc P L S M
    | none => X d P y pc L S M Q)
  | f + 1, i :: is, pc, P, L, S, M => stepI gl gx X d R rt hw oc Q (fun pc P L S M => runB gl gx X d R rt hw oc Q y T f is pc P L S M) (fun pc P L S M => runB gl gx X d R rt hw oc Q y T f [] pc P L S M) i pc P L S M
end
section
/-! THE TABLES of the abstract machine (by a program of ours out of the claim's own tables) -/
/-- links of StencilHouse$Day -/
def lk_0 : LK := ([(9, 0, 0, true), (15, 0, 1, false)], [(3, 4, 0, 0, 0, 0, 0), (19, 5, 0, 0, 0, 0, 0)], [], [], [], [])
/-- links of StencilHouse$Figures -/
def lk_1 : LK := ([(37, 5, 3, true), (41, 5, 6, false), (67, 5, 2, true), (73, 5, 1, true), (76, 5, 0, true), (87, 5, 4, false), (100, 5, 7, true)], [(9, 1, 5, 4, 7, 1, 0), (15, 15, 98, 1, 3, 1, 0), (21, 15, 94, 0, 1, 1, 0), (25, 15, 95, 1, 4, 1, 0), (28, 1, 313, 1, 1, 1, 0), (33, 1, 8, 2, 4, 1, 0), (45, 1, 11, 7, 12, 1, 0), (49, 1, 9, 2, 2, 1, 0), (53, 7, 0, 0, 0, 0, 0), (59, 1, 14, 3, 6, 1, 0), (63, 15, 101, 3, 6, 1, 0), (70, 15, 99, 2, 6, 1, 0), (79, 1, 20, 4, 4, 1, 0), (83, 15, 92, 2, 3, 1, 0), (90, 15, 102, 1, 6, 1, 0), (93, 15, 103, 1, 5, 1, 0), (96, 1, 26, 3, 4, 1, 0), (103, 15, 93, 2, 3, 1, 0), (106, 1, 30, 2, 4, 1, 0), (109, 1, 32, 1, 6, 1, 0), (113, 15, 90, 1, 2, 1, 0), (117, 1, 34, 2, 3, 1, 0), (120, 13, 66, 2, 6, 1, 0)], [], [], [], [])
/-- links of StencilHouse$Marks -/
def lk_2 : LK := ([(9, 1, 0, true), (15, 1, 1, false), (19, 1, 2, false), (22, 1, 3, false)], [(3, 4, 0, 0, 0, 0, 0), (25, 5, 0, 0, 0, 0, 0)], [], [], [], [])
/-- links of StencilHouse$Orders -/
def lk_3 : LK := ([(9, 2, 0, false), (15, 2, 1, false), (18, 2, 2, false), (21, 2, 3, false), (24, 2, 4, false), (27, 2, 5, true), (31, 2, 6, true), (57, 5, 3, true), (85, 5, 6, false), (92, 5, 7, true), (120, 1, 0, true), (125, 1, 1, false), (128, 1, 2, false), (135, 5, 0, true), (141, 1, 3, false), (147, 5, 1, true)], [(3, 4, 0, 0, 0, 0, 0), (34, 8, 0, 0, 0, 0, 0), (40, 12, 43, 2, 5, 0, 0), (44, 12, 44, 2, 4, 1, 0), (47, 13, 67, 1, 4, 1, 0), (53, 13, 66, 2, 6, 1, 0), (62, 12, 46, 2, 6, 1, 0), (66, 12, 41, 2, 3, 0, 0), (69, 12, 48, 1, 6, 1, 0), (72, 12, 47, 0, 2, 1, 0), (76, 5, 0, 0, 0, 0, 0), (82, 12, 42, 0, 4, 1, 0), (88, 12, 49, 1, 3, 1, 0), (95, 12, 51, 1, 6, 1, 0), (99, 12, 58, 0, 2, 0, 0), (102, 12, 56, 2, 5, 1, 0), (106, 12, 55, 0, 3, 1, 0), (110, 12, 54, 0, 1, 1, 0), (113, 12, 59, 1, 5, 0, 0), (117, 12, 60, 1, 8, 1, 0), (131, 15, 92, 2, 3, 1, 0), (138, 12, 57, 2, 4, 1, 0), (144, 15, 93, 2, 3, 1, 0), (150, 7, 0, 0, 0, 0, 0)], [], [], [], [])
/-- links of StencilHouse$Picture -/
def lk_4 : LK := ([(9, 3, 0, false), (21, 5, 1, true), (27, 5, 0, true)], [(3, 4, 0, 0, 0, 0, 0), (15, 5, 0, 0, 0, 0, 0), (30, 13, 64, 2, 3, 1, 0), (34, 15, 92, 2, 3, 1, 0), (38, 13, 65, 1, 4, 1, 0)], [], [], [], [])
/-- links of StencilHouse$Reader -/
def lk_5 : LK := ([(12, 4, 0, false), (21, 4, 1, false), (28, 4, 2, false), (35, 4, 3, false), (39, 4, 4, true), (43, 4, 5, true), (49, 4, 6, false), (53, 4, 7, false), (57, 4, 8, false), (60, 4, 9, true), (63, 4, 10, true), (73, 6, 3, true), (80, 6, 4, true), (94, 0, 0, true), (98, 1, 0, true), (161, 5, 3, true), (164, 6, 5, true), (173, 5, 0, true), (176, 5, 1, true), (179, 5, 2, true), (197, 5, 5, false), (199, 3, 0, false), (205, 5, 4, false)], [(3, 4, 0, 0, 0, 0, 0), (11, 3, 85, 0, 1, 0, 3), (20, 3, 0, 0, 1, 0, 1), (27, 3, 61, 0, 1, 0, 1), (34, 3, 37, 0, 1, 0, 3), (48, 3, 105, 0, 1, 0, 1), (66, 14, 72, 0, 2, 0, 0), (69, 16, 106, 2, 3, 0, 0), (76, 14, 73, 1, 6, 1, 0), (83, 15, 88, 0, 2, 0, 0), (86, 14, 83, 1, 4, 0, 0), (90, 15, 89, 0, 2, 0, 0), (93, 15, 86, 0, 2, 0, 0), (97, 13, 62, 0, 2, 0, 0), (101, 14, 74, 1, 3, 1, 0), (105, 14, 76, 1, 2, 1, 0), (108, 14, 78, 2, 3, 0, 0), (112, 16, 107, 0, 1, 0, 0), (118, 14, 77, 2, 4, 0, 0), (121, 14, 79, 2, 3, 0, 0), (127, 1, 75, 1, 1, 18, 0), (131, 16, 110, 1, 3, 1, 0), (181, 14, 80, 1, 3, 0, 0), (184, 14, 81, 2, 3, 0, 0), (187, 14, 82, 1, 3, 0, 0), (190, 11, 38, 3, 4, 0, 0), (194, 10, 1, 4, 6, 0, 0), (202, 14, 84, 3, 5, 0, 0)], [(135, aR 16 0), (137, aR 16 1), (139, aR 16 2), (141, aR 16 3), (143, aR 16 4), (145, aR 16 5), (147, aR 16 6), (149, aR 16 7), (151, aR 16 8), (153, aR 16 9), (155, aR 16 10), (157, aR 16 11), (159, aR 16 12)], [(9, 5), (18, 0), (25, 3), (32, 1), (46, 6)], [(9, .object "StencilHouse$Shop"), (18, .object "StencilHouse$Day"), (25, .object "StencilHouse$Picture"), (32, .object "StencilHouse$Marks")], [(115, aR 13 0), (124, aR 12 0), (167, aR 14 0), (170, aR 15 0)])
/-- links of StencilHouse$Shop -/
def lk_6 : LK := ([(9, 5, 0, true), (15, 5, 1, true), (18, 5, 2, true), (21, 5, 3, true), (24, 5, 4, false), (28, 5, 5, false), (31, 5, 6, false), (34, 5, 7, true), (37, 5, 8, true), (40, 5, 9, true), (43, 5, 10, true)], [(3, 4, 0, 0, 0, 0, 0), (46, 5, 0, 0, 0, 0, 0), (52, 15, 100, 1, 2, 1, 0), (56, 15, 97, 1, 2, 1, 0), (59, 15, 99, 2, 6, 1, 0), (63, 15, 96, 1, 2, 1, 0), (66, 15, 98, 1, 3, 1, 0), (69, 15, 90, 1, 2, 1, 0)], [], [], [], [])
/-- links of StencilHouse$Tokens -/
def lk_7 : LK := ([(7, 6, 0, false), (13, 6, 1, true), (17, 6, 2, true), (20, 6, 3, true), (23, 6, 4, true), (26, 6, 5, true)], [(1, 4, 0, 0, 0, 0, 0), (29, 8, 0, 0, 0, 0, 0), (35, 16, 107, 0, 1, 0, 0), (38, 1, 111, 1, 1, 1, 0), (42, 1, 112, 1, 1, 1, 0), (45, 16, 108, 0, 1, 0, 0), (48, 1, 113, 1, 1, 1, 0), (51, 16, 109, 0, 1, 0, 0), (54, 26, 314, 0, 1, 1, 0), (59, 26, 317, 1, 2, 1, 0)], [], [], [], [])
/-- links of StencilHouse$Told -/
def lk_8 : LK := ([(9, 7, 0, false), (15, 7, 1, true), (19, 7, 2, true), (22, 7, 3, true), (25, 7, 4, false), (30, 7, 5, false), (36, 7, 6, false), (42, 7, 7, false), (48, 7, 8, false), (79, 4, 0, false), (85, 4, 1, false), (89, 4, 2, false), (93, 4, 3, false)], [(3, 4, 0, 0, 0, 0, 0), (52, 3, 85, 0, 1, 0, 3), (53, 3, 0, 0, 1, 0, 1), (54, 3, 61, 0, 1, 0, 1), (55, 3, 37, 0, 1, 0, 3), (56, 5, 0, 0, 0, 0, 0), (62, 15, 87, 1, 2, 0, 0), (66, 10, 3, 1, 2, 0, 0), (69, 13, 63, 1, 2, 0, 0), (72, 11, 39, 1, 2, 0, 0), (75, 17, 117, 2, 3, 1, 0)], [], [(28, 5), (34, 0), (40, 3), (46, 1)], [(28, .object "StencilHouse$Shop"), (34, .object "StencilHouse$Day"), (40, .object "StencilHouse$Picture"), (46, .object "StencilHouse$Marks")], [])
/-- links of StencilHouse$Wall -/
def lk_9 : LK := ([(12, 8, 0, false), (18, 8, 1, false), (22, 8, 2, false), (25, 8, 3, false), (28, 8, 4, false), (31, 8, 5, false), (34, 8, 6, true), (38, 8, 7, true), (41, 8, 8, true), (44, 8, 9, true), (47, 8, 10, true), (50, 8, 11, true), (53, 5, 4, false), (54, 0, 0, true), (74, 5, 3, true), (111, 5, 5, false), (123, 5, 0, true)], [(3, 4, 0, 0, 0, 0, 0), (11, 3, 85, 0, 1, 0, 3), (59, 10, 2, 2, 3, 1, 0), (63, 18, 131, 4, 5, 1, 0), (67, 18, 128, 0, 2, 0, 0), (70, 18, 130, 1, 2, 1, 0), (77, 18, 129, 2, 5, 0, 0), (82, 18, 132, 1, 2, 1, 0), (86, 15, 90, 1, 2, 1, 0), (89, 18, 133, 2, 5, 1, 0), (93, 15, 102, 1, 6, 1, 0), (96, 15, 103, 1, 5, 1, 0), (99, 18, 135, 3, 4, 1, 0), (103, 18, 136, 3, 5, 1, 0), (106, 1, 313, 1, 1, 1, 0), (114, 18, 137, 1, 2, 1, 0), (117, 18, 134, 2, 4, 0, 0), (120, 15, 92, 2, 3, 1, 0), (126, 15, 100, 1, 2, 1, 0), (129, 15, 101, 3, 6, 1, 0), (133, 18, 138, 0, 3, 1, 0), (137, 18, 142, 1, 3, 1, 0), (140, 15, 91, 1, 2, 1, 0)], [(81, aI (1103515245))], [(9, 5)], [(9, .object "StencilHouse$Shop")], [])
/-- links of StencilHouse -/
def lk_10 : LK := ([(10, 9, 0, false), (16, 9, 1, false), (23, 9, 2, false), (30, 9, 3, false), (37, 9, 4, false), (41, 7, 1, true), (49, 7, 2, true), (52, 7, 3, true), (59, 7, 0, false), (67, 4, 4, true), (68, 4, 5, true), (77, 5, 0, true), (82, 5, 1, true), (85, 5, 2, true), (88, 5, 3, true), (99, 0, 0, true), (123, 5, 4, false), (174, 5, 6, false), (189, 1, 0, true), (194, 1, 3, false), (197, 1, 1, false), (200, 1, 2, false), (238, 5, 7, true), (293, 8, 9, true), (299, 8, 10, true), (302, 8, 11, true), (311, 7, 4, false)], [(1, 4, 0, 0, 0, 0, 0), (9, 2, 114, 0, 2, 0, 30), (22, 3, 70, 0, 1, 0, 16), (29, 3, 124, 0, 1, 0, 9), (36, 3, 40, 0, 1, 0, 5), (45, 17, 116, 1, 3, 0, 0), (55, 17, 118, 2, 3, 1, 0), (63, 14, 71, 3, 5, 0, 0), (69, 17, 119, 3, 5, 1, 0), (73, 17, 120, 1, 2, 7, 0), (91, 15, 104, 1, 3, 1, 0), (95, 17, 121, 1, 2, 2, 0), (104, 10, 2, 2, 3, 1, 0), (108, 18, 125, 1, 3, 0, 0), (112, 18, 126, 2, 4, 1, 0), (116, 18, 141, 1, 3, 1, 0), (119, 15, 90, 1, 2, 1, 0), (126, 1, 4, 2, 4, 1, 0), (132, 1, 313, 1, 1, 1, 0), (137, 17, 122, 1, 2, 5, 0), (141, 12, 45, 2, 4, 1, 0), (145, 12, 52, 1, 2, 1, 0), (148, 1, 6, 1, 5, 1, 0), (152, 1, 7, 1, 4, 1, 0), (155, 1, 10, 2, 5, 1, 0), (158, 1, 9, 2, 2, 1, 0), (161, 15, 91, 1, 2, 1, 0), (164, 1, 12, 3, 5, 1, 0), (168, 1, 13, 2, 4, 1, 0), (171, 1, 15, 2, 6, 1, 0), (177, 1, 16, 3, 7, 1, 0), (180, 13, 64, 2, 3, 1, 0), (185, 17, 123, 1, 2, 3, 0), (203, 12, 53, 3, 8, 1, 0), (207, 18, 127, 2, 4, 0, 0), (211, 1, 17, 2, 5, 1, 0), (214, 1, 18, 2, 6, 1, 0), (217, 1, 19, 2, 5, 1, 0), (220, 1, 21, 2, 5, 1, 0), (223, 1, 22, 2, 6, 1, 0), (226, 1, 23, 1, 3, 1, 0), (229, 1, 24, 1, 3, 1, 0), (232, 1, 25, 1, 4, 1, 0), (235, 1, 27, 1, 3, 1, 0), (241, 15, 94, 0, 1, 1, 0), (245, 15, 95, 1, 4, 1, 0), (248, 1, 28, 1, 3, 1, 0), (251, 1, 29, 1, 4, 1, 0), (254, 1, 31, 1, 4, 1, 0), (257, 1, 30, 2, 4, 1, 0), (260, 1, 32, 1, 6, 1, 0), (263, 1, 33, 1, 2, 1, 0), (266, 1, 35, 1, 3, 1, 0), (269, 1, 34, 2, 3, 1, 0), (272, 12, 50, 1, 6, 1, 0), (275, 13, 68, 0, 3, 1, 0), (278, 13, 69, 0, 5, 1, 0), (281, 13, 66, 2, 6, 1, 0), (284, 13, 65, 1, 4, 1, 0), (287, 15, 98, 1, 3, 1, 0), (290, 1, 36, 2, 4, 1, 0), (296, 18, 139, 0, 4, 1, 0), (305, 18, 138, 0, 3, 1, 0), (308, 18, 140, 0, 3, 1, 0), (314, 17, 115, 1, 3, 0, 0)], [], [(7, 7), (20, 4), (27, 8), (34, 2)], [(7, .object "StencilHouse$Told")], [])
/-- links of StencilHouseModel -/
def lk_11 : LK := ([(7, 10, 1, false), (13, 10, 2, false), (17, 10, 3, false), (20, 10, 4, false), (23, 10, 5, false), (26, 10, 6, false), (29, 10, 7, false), (32, 10, 8, false), (35, 10, 9, false), (38, 10, 19, false), (41, 10, 20, false), (44, 10, 29, false), (47, 10, 30, false), (50, 10, 31, false), (53, 10, 32, false), (56, 10, 33, false), (59, 10, 34, false), (62, 10, 39, false), (65, 10, 40, false), (68, 10, 41, false), (72, 10, 42, false), (75, 10, 48, false), (78, 10, 50, false), (82, 10, 0, true), (102, 10, 10, true), (105, 10, 11, true), (112, 10, 12, true), (115, 10, 15, false), (119, 10, 13, true), (122, 10, 14, true), (125, 10, 16, true), (128, 10, 17, true), (131, 10, 18, true), (142, 10, 22, true), (176, 10, 21, true), (243, 10, 23, true), (250, 10, 24, true), (253, 10, 25, true), (256, 10, 26, true), (259, 10, 27, true), (268, 10, 28, true), (289, 10, 35, true), (292, 10, 36, true), (295, 10, 37, true), (361, 10, 38, true), (395, 10, 43, true), (413, 10, 44, true), (431, 10, 45, true), (434, 10, 46, true), (437, 10, 47, true), (464, 10, 49, true)], [(1, 4, 0, 0, 0, 0, 0), (86, 1, 177, 2, 2, 1, 0), (90, 1, 181, 4, 5, 0, 0), (94, 1, 176, 3, 3, 1, 0), (98, 20, 185, 1, 3, 0, 0), (108, 20, 187, 0, 1, 1, 0), (134, 20, 189, 0, 1, 1, 0), (138, 20, 190, 2, 3, 0, 0), (146, 20, 188, 0, 3, 0, 0), (149, 1, 179, 2, 2, 1, 0), (153, 20, 192, 3, 4, 0, 0), (157, 20, 193, 3, 5, 0, 0), (163, 20, 194, 1, 3, 1, 0), (173, 20, 191, 3, 4, 1, 0), (179, 1, 178, 2, 2, 1, 0), (194, 20, 196, 1, 3, 1, 0), (198, 20, 197, 1, 4, 0, 0), (207, 20, 195, 2, 4, 1, 0), (211, 20, 198, 2, 6, 1, 0), (214, 20, 199, 2, 5, 1, 0), (217, 20, 200, 2, 4, 1, 0), (220, 20, 201, 3, 5, 1, 0), (224, 20, 202, 1, 6, 1, 0), (227, 20, 203, 0, 3, 1, 0), (230, 20, 205, 3, 5, 0, 0), (234, 20, 183, 2, 3, 1, 0), (237, 20, 204, 1, 3, 1, 0), (240, 20, 206, 2, 3, 0, 0), (246, 20, 209, 1, 2, 1, 0), (262, 20, 212, 0, 3, 0, 0), (265, 20, 211, 0, 2, 0, 0), (271, 20, 218, 1, 2, 1, 0), (274, 20, 215, 1, 2, 1, 0), (277, 20, 216, 1, 4, 1, 0), (280, 20, 217, 1, 5, 1, 0), (283, 20, 210, 1, 2, 1, 0), (286, 20, 213, 1, 2, 1, 0), (298, 20, 223, 1, 2, 1, 0), (301, 20, 221, 0, 1, 1, 0), (304, 20, 222, 2, 3, 1, 0), (307, 20, 219, 3, 7, 1, 0), (311, 20, 225, 1, 2, 1, 0), (314, 20, 226, 2, 4, 0, 0), (317, 20, 229, 2, 3, 1, 0), (320, 20, 232, 1, 4, 1, 0), (323, 20, 227, 2, 3, 1, 0), (326, 20, 228, 2, 6, 1, 0), (330, 20, 230, 3, 4, 1, 0), (333, 20, 231, 3, 5, 1, 0), (336, 20, 233, 4, 5, 1, 0), (340, 20, 234, 1, 2, 1, 0), (343, 20, 236, 2, 3, 1, 0), (346, 20, 235, 1, 3, 1, 0), (349, 20, 214, 1, 2, 1, 0), (352, 20, 238, 0, 3, 1, 0), (355, 20, 239, 1, 3, 1, 0), (358, 1, 180, 1, 3, 1, 0), (364, 20, 243, 2, 3, 1, 0), (367, 20, 244, 1, 2, 1, 0), (370, 20, 245, 1, 5, 1, 0), (373, 20, 246, 2, 6, 1, 0), (376, 20, 247, 1, 7, 1, 0), (379, 20, 248, 2, 5, 0, 0), (383, 20, 242, 1, 2, 1, 0), (386, 20, 249, 0, 5, 1, 0), (389, 20, 251, 1, 4, 1, 0), (392, 20, 253, 1, 4, 1, 0), (398, 1, 255, 1, 3, 1, 0), (401, 20, 256, 2, 10, 1, 0), (404, 20, 257, 2, 6, 1, 0), (407, 20, 259, 3, 4, 1, 0), (410, 1, 260, 2, 5, 1, 0), (416, 20, 266, 1, 2, 1, 0), (419, 20, 265, 0, 1, 1, 0), (422, 20, 264, 2, 3, 1, 0), (425, 20, 269, 2, 4, 0, 0), (428, 20, 271, 1, 3, 1, 0), (440, 20, 268, 0, 2, 0, 0), (443, 20, 272, 0, 4, 1, 0), (446, 20, 273, 0, 3, 1, 0), (449, 20, 270, 0, 3, 1, 0), (452, 20, 275, 1, 4, 1, 0), (455, 20, 274, 1, 5, 0, 0), (458, 20, 277, 0, 3, 1, 0), (461, 20, 276, 0, 3, 1, 0), (468, 20, 279, 1, 2, 1, 0), (471, 20, 280, 0, 6, 0, 0), (474, 20, 282, 2, 5, 1, 0), (477, 20, 283, 2, 7, 1, 0), (480, 20, 284, 1, 4, 1, 0), (483, 20, 285, 2, 7, 1, 0), (486, 20, 292, 1, 4, 1, 0), (490, 20, 294, 2, 3, 1, 0), (493, 20, 296, 1, 4, 1, 0), (496, 20, 287, 1, 4, 1, 0), (500, 20, 288, 0, 6, 1, 0), (503, 20, 289, 0, 3, 1, 0), (506, 20, 290, 0, 3, 1, 0), (509, 20, 291, 0, 3, 1, 0), (512, 20, 293, 0, 3, 1, 0), (515, 20, 295, 1, 6, 1, 0), (518, 20, 297, 0, 3, 1, 0), (521, 20, 301, 0, 4, 1, 0), (524, 20, 303, 1, 4, 1, 0), (527, 20, 307, 0, 3, 1, 0), (530, 20, 308, 0, 3, 1, 0), (533, 20, 182, 2, 4, 0, 0)], [(71, aI (117649)), (161, aL (495672714612)), (167, aL (1936292453)), (169, aL (1936484720)), (171, aL (2003132786)), (182, aL (495807783289)), (184, aL (1718380912)), (186, aL (1953854062)), (188, aL (495740085349)), (190, aL (482671354728)), (192, aL (2002875240)), (201, aL (7499639)), (203, aL (7630704)), (205, aL (1650553445)), (467, aI (1103515245)), (489, aI (1000000))], [], [], [])
/-- links of java/lang/Integer -/
def lk_12 : LK := ([], [], [(265, aI (1431655765)), (266, aI (858993459)), (267, aI (252645135))], [], [], [])
/-- links of java/lang/String -/
def lk_13 : LK := ([(9, 16, 0, false), (15, 16, 1, true)], [(335, 26, 315, 0, 1, 1, 0), (492, 26, 316, 0, 1, 1, 0), (495, 1, 318, 2, 2, 1, 0)], [], [], [], [(38, aI 1)])
/-- links of java/lang/StringLatin1 -/
def lk_14 : LK := ([], [(9, 6, 0, 0, 0, 0, 0)], [], [], [], [])
/-- links of StencilHouseLaw -/
def lk_15 : LK := ([], [(9, 2, 143, 0, 1, 0, 65), (12, 2, 175, 0, 1, 0, 23), (13, 19, 144, 5, 6, 1, 0), (17, 20, 184, 5, 6, 1, 0), (18, 19, 145, 1, 2, 1, 0), (22, 20, 186, 1, 2, 1, 0), (23, 19, 146, 2, 4, 1, 0), (27, 20, 207, 2, 4, 1, 0), (28, 19, 147, 1, 2, 1, 0), (31, 20, 208, 1, 2, 1, 0), (32, 19, 148, 2, 4, 1, 0), (35, 20, 220, 2, 4, 1, 0), (36, 19, 149, 3, 5, 1, 0), (40, 20, 224, 3, 4, 1, 0), (41, 19, 150, 2, 5, 1, 0), (44, 20, 237, 2, 3, 1, 0), (45, 19, 151, 4, 7, 1, 0), (49, 20, 240, 4, 5, 1, 0), (50, 19, 152, 3, 6, 1, 0), (54, 20, 241, 3, 11, 1, 0), (55, 19, 153, 3, 7, 1, 0), (58, 20, 250, 3, 5, 1, 0), (59, 19, 154, 2, 5, 1, 0), (63, 20, 252, 2, 6, 1, 0), (64, 19, 155, 2, 5, 1, 0), (67, 20, 254, 2, 5, 1, 0), (68, 19, 156, 3, 5, 1, 0), (71, 20, 258, 3, 7, 1, 0), (72, 19, 157, 4, 9, 1, 0), (76, 20, 261, 4, 10, 1, 0), (77, 19, 158, 3, 5, 1, 0), (80, 20, 262, 3, 7, 1, 0), (81, 19, 159, 3, 5, 1, 0), (84, 20, 263, 3, 4, 1, 0), (85, 19, 160, 3, 5, 1, 0), (88, 20, 267, 3, 4, 1, 0), (89, 19, 161, 3, 6, 1, 0), (92, 20, 278, 3, 4, 1, 0), (93, 19, 162, 4, 6, 1, 0), (96, 20, 281, 4, 6, 1, 0), (97, 19, 163, 3, 6, 1, 0), (100, 20, 286, 3, 4, 1, 0), (101, 19, 164, 2, 4, 1, 0), (104, 20, 298, 2, 3, 1, 0), (105, 19, 165, 3, 5, 1, 0), (108, 20, 299, 3, 4, 1, 0), (109, 19, 166, 2, 4, 1, 0), (112, 20, 300, 2, 3, 1, 0), (113, 19, 167, 2, 5, 1, 0), (116, 20, 302, 2, 7, 1, 0), (117, 19, 168, 2, 4, 1, 0), (120, 20, 304, 2, 7, 1, 0), (121, 19, 169, 3, 7, 1, 0), (124, 20, 305, 3, 6, 1, 0), (125, 19, 170, 2, 5, 1, 0), (128, 20, 306, 2, 5, 1, 0), (129, 19, 171, 3, 6, 1, 0), (132, 20, 309, 3, 7, 1, 0), (133, 19, 172, 1, 2, 1, 0), (136, 20, 310, 1, 2, 1, 0), (137, 19, 173, 1, 3, 1, 31), (141, 20, 311, 1, 2, 1, 0), (142, 19, 174, 1, 3, 1, 0), (145, 20, 312, 1, 2, 1, 0)], [], [(7, 9), (10, 10)], [], [])
/-- methods: name, code, locals, answer, links -/
abbrev MT : Type := MethodName × ByteArray × Nat × Option FieldType × Nat × LK
def mtl_0 : List MT := [
  (⟨"StencilHouse$Day", "<init>", "()V"⟩, prog_2_method_1_code, 1, none, 2, lk_0),
  (⟨"StencilHouse$Day", "add", "(IIII)V"⟩, prog_2_method_2_code, 6, none, 1, lk_0),
  (⟨"StencilHouse$Day", "part", "(II)I"⟩, prog_2_method_3_code, 3, (Option.some .int), 1, lk_0),
  (⟨"StencilHouse$Day", "copyFrom", "(LStencilHouse$Day;)V"⟩, prog_2_method_4_code, 2, none, 1, lk_0),
  (⟨"StencilHouse$Figures", "fewestPatches", "(LStencilHouse$Shop;I)I"⟩, prog_3_method_2_code, 4, (Option.some .int), 0, lk_1),
  (⟨"StencilHouse$Figures", "leastPatches", "(LStencilHouse$Shop;III)I"⟩, prog_3_method_3_code, 7, (Option.some .int), 0, lk_1),
  (⟨"StencilHouse$Figures", "fewestCovering", "(LStencilHouse$Shop;)I"⟩, prog_3_method_4_code, 5, (Option.some .int), 0, lk_1),
  (⟨"StencilHouse$Figures", "mostApart", "(LStencilHouse$Shop;)I"⟩, prog_3_method_5_code, 4, (Option.some .int), 0, lk_1),
  (⟨"StencilHouse$Figures", "liesApart", "(LStencilHouse$Shop;I)Z"⟩, prog_3_method_6_code, 4, (Option.some .boolean), 0, lk_1),
  (⟨"StencilHouse$Figures", "duelWorth", "(LStencilHouse$Shop;I)I"⟩, prog_3_method_7_code, 2, (Option.some .int), 0, lk_1),
  (⟨"StencilHouse$Figures", "duelFirst", "(LStencilHouse$Shop;I)I"⟩, prog_3_method_8_code, 5, (Option.some .int), 0, lk_1),
  (⟨"StencilHouse$Figures", "bestWorth", "(LStencilHouse$Shop;IIIIII)I"⟩, prog_3_method_9_code, 12, (Option.some .int), 0, lk_1),
  (⟨"StencilHouse$Figures", "chanceOver", "(LStencilHouse$Shop;II)I"⟩, prog_3_method_10_code, 5, (Option.some .int), 0, lk_1),
  (⟨"StencilHouse$Figures", "chanceUnder", "(LStencilHouse$Shop;I)I"⟩, prog_3_method_11_code, 4, (Option.some .int), 0, lk_1),
  (⟨"StencilHouse$Figures", "openTenths", "(LStencilHouse$Shop;II)I"⟩, prog_3_method_12_code, 6, (Option.some .int), 0, lk_1),
  (⟨"StencilHouse$Figures", "greatestDivisor", "(II)I"⟩, prog_3_method_13_code, 6, (Option.some .int), 0, lk_1),
  (⟨"StencilHouse$Figures", "slidesWithin", "(LStencilHouse$Shop;II)I"⟩, prog_3_method_14_code, 7, (Option.some .int), 0, lk_1),
  (⟨"StencilHouse$Figures", "holeCount", "(LStencilHouse$Shop;I)I"⟩, prog_3_method_15_code, 5, (Option.some .int), 0, lk_1),
  (⟨"StencilHouse$Figures", "largestHole", "(LStencilHouse$Shop;I)I"⟩, prog_3_method_16_code, 6, (Option.some .int), 0, lk_1),
  (⟨"StencilHouse$Figures", "edge", "(LStencilHouse$Shop;I)I"⟩, prog_3_method_17_code, 5, (Option.some .int), 0, lk_1)]
def mtl_1 : List MT := [
  (⟨"StencilHouse$Figures", "isOpenAt", "(LStencilHouse$Shop;III)Z"⟩, prog_3_method_18_code, 4, (Option.some .boolean), 0, lk_1),
  (⟨"StencilHouse$Figures", "strokeCount", "(LStencilHouse$Shop;I)I"⟩, prog_3_method_19_code, 5, (Option.some .int), 0, lk_1),
  (⟨"StencilHouse$Figures", "longestStroke", "(LStencilHouse$Shop;I)I"⟩, prog_3_method_20_code, 6, (Option.some .int), 0, lk_1),
  (⟨"StencilHouse$Figures", "mirrored", "(LStencilHouse$Shop;)I"⟩, prog_3_method_21_code, 3, (Option.some .int), 0, lk_1),
  (⟨"StencilHouse$Figures", "turnedAlike", "(LStencilHouse$Shop;)I"⟩, prog_3_method_22_code, 3, (Option.some .int), 0, lk_1),
  (⟨"StencilHouse$Figures", "twins", "(LStencilHouse$Shop;)I"⟩, prog_3_method_23_code, 4, (Option.some .int), 0, lk_1),
  (⟨"StencilHouse$Figures", "areTwins", "(LStencilHouse$Shop;II)Z"⟩, prog_3_method_24_code, 4, (Option.some .boolean), 0, lk_1),
  (⟨"StencilHouse$Figures", "openToAll", "(LStencilHouse$Shop;)I"⟩, prog_3_method_25_code, 3, (Option.some .int), 0, lk_1),
  (⟨"StencilHouse$Figures", "fallingSheets", "(LStencilHouse$Shop;)I"⟩, prog_3_method_26_code, 3, (Option.some .int), 0, lk_1),
  (⟨"StencilHouse$Figures", "needed", "(LStencilHouse$Shop;)I"⟩, prog_3_method_27_code, 4, (Option.some .int), 0, lk_1),
  (⟨"StencilHouse$Figures", "openCount", "(LStencilHouse$Shop;I)I"⟩, prog_3_method_28_code, 4, (Option.some .int), 0, lk_1),
  (⟨"StencilHouse$Figures", "stackCell", "(LStencilHouse$Shop;)I"⟩, prog_3_method_29_code, 4, (Option.some .int), 0, lk_1),
  (⟨"StencilHouse$Figures", "nearestTwo", "(LStencilHouse$Shop;)I"⟩, prog_3_method_30_code, 6, (Option.some .int), 0, lk_1),
  (⟨"StencilHouse$Figures", "nearestUnlike", "(LStencilHouse$Shop;)I"⟩, prog_3_method_31_code, 2, (Option.some .int), 0, lk_1),
  (⟨"StencilHouse$Figures", "onTop", "(LStencilHouse$Shop;I)I"⟩, prog_3_method_32_code, 3, (Option.some .int), 0, lk_1),
  (⟨"StencilHouse$Figures", "hiddenSheets", "(LStencilHouse$Shop;)I"⟩, prog_3_method_33_code, 3, (Option.some .int), 0, lk_1),
  (⟨"StencilHouse$Figures", "offCount", "(LStencilHouse$Shop;LStencilHouse$Picture;)I"⟩, prog_3_method_34_code, 4, (Option.some .int), 0, lk_1),
  (⟨"StencilHouse$Marks", "<init>", "()V"⟩, prog_4_method_1_code, 1, none, 2, lk_2),
  (⟨"StencilHouse$Marks", "add", "(III)V"⟩, prog_4_method_2_code, 4, none, 1, lk_2),
  (⟨"StencilHouse$Marks", "copyFrom", "(LStencilHouse$Marks;)V"⟩, prog_4_method_3_code, 2, none, 1, lk_2)]
def mtl_2 : List MT := [
  (⟨"StencilHouse$Orders", "<init>", "()V"⟩, prog_5_method_1_code, 1, none, 2, lk_3),
  (⟨"StencilHouse$Orders", "begin", "(II)V"⟩, prog_5_method_2_code, 3, none, 1, lk_3),
  (⟨"StencilHouse$Orders", "advance", "()Z"⟩, prog_5_method_3_code, 4, (Option.some .boolean), 1, lk_3),
  (⟨"StencilHouse$Orders", "fill", "(II)V"⟩, prog_5_method_4_code, 5, none, 1, lk_3),
  (⟨"StencilHouse$Orders", "leastUnused", "(II)I"⟩, prog_5_method_5_code, 4, (Option.some .int), 1, lk_3),
  (⟨"StencilHouse$Orders", "fewestSprays", "(LStencilHouse$Shop;LStencilHouse$Picture;)I"⟩, prog_5_method_6_code, 4, (Option.some .int), 1, lk_3),
  (⟨"StencilHouse$Orders", "findSprays", "(LStencilHouse$Shop;I)Z"⟩, prog_5_method_7_code, 6, (Option.some .boolean), 1, lk_3),
  (⟨"StencilHouse$Orders", "isLessThanFound", "()Z"⟩, prog_5_method_8_code, 2, (Option.some .boolean), 1, lk_3),
  (⟨"StencilHouse$Orders", "makesWanted", "(LStencilHouse$Shop;)Z"⟩, prog_5_method_9_code, 6, (Option.some .boolean), 1, lk_3),
  (⟨"StencilHouse$Orders", "colourOfAll", "(I)I"⟩, prog_5_method_10_code, 3, (Option.some .int), 1, lk_3),
  (⟨"StencilHouse$Orders", "mostShown", "(LStencilHouse$Shop;)I"⟩, prog_5_method_11_code, 6, (Option.some .int), 1, lk_3),
  (⟨"StencilHouse$Orders", "shownCount", "(LStencilHouse$Shop;)I"⟩, prog_5_method_12_code, 6, (Option.some .int), 1, lk_3),
  (⟨"StencilHouse$Orders", "foundAt", "(I)I"⟩, prog_5_method_13_code, 2, (Option.some .int), 1, lk_3),
  (⟨"StencilHouse$Orders", "tellFitting", "(LStencilHouse$Shop;LStencilHouse$Marks;I)I"⟩, prog_5_method_14_code, 8, (Option.some .int), 1, lk_3),
  (⟨"StencilHouse$Orders", "lastItem", "()I"⟩, prog_5_method_15_code, 1, (Option.some .int), 1, lk_3),
  (⟨"StencilHouse$Orders", "asNumber", "()I"⟩, prog_5_method_16_code, 3, (Option.some .int), 1, lk_3),
  (⟨"StencilHouse$Orders", "fitsAll", "(LStencilHouse$Shop;LStencilHouse$Marks;)Z"⟩, prog_5_method_17_code, 5, (Option.some .boolean), 1, lk_3),
  (⟨"StencilHouse$Orders", "topAt", "(LStencilHouse$Shop;I)I"⟩, prog_5_method_18_code, 4, (Option.some .int), 1, lk_3),
  (⟨"StencilHouse$Orders", "clearTops", "()V"⟩, prog_5_method_19_code, 2, none, 1, lk_3),
  (⟨"StencilHouse$Orders", "countTops", "(LStencilHouse$Shop;)V"⟩, prog_5_method_20_code, 5, none, 1, lk_3)]
def mtl_3 : List MT := [
  (⟨"StencilHouse$Orders", "cellToAsk", "(LStencilHouse$Shop;)I"⟩, prog_5_method_21_code, 8, (Option.some .int), 1, lk_3),
  (⟨"StencilHouse$Picture", "<init>", "()V"⟩, prog_6_method_1_code, 1, none, 2, lk_4),
  (⟨"StencilHouse$Picture", "clear", "()V"⟩, prog_6_method_2_code, 2, none, 1, lk_4),
  (⟨"StencilHouse$Picture", "copyFrom", "(LStencilHouse$Picture;)V"⟩, prog_6_method_3_code, 2, none, 1, lk_4),
  (⟨"StencilHouse$Picture", "colourAt", "(II)I"⟩, prog_6_method_4_code, 3, (Option.some .int), 1, lk_4),
  (⟨"StencilHouse$Picture", "placesOf", "(I)I"⟩, prog_6_method_5_code, 4, (Option.some .int), 1, lk_4),
  (⟨"StencilHouse$Picture", "cellsOf", "(LStencilHouse$Shop;I)I"⟩, prog_6_method_6_code, 6, (Option.some .int), 1, lk_4),
  (⟨"StencilHouse$Picture", "isWithin", "(LStencilHouse$Shop;)Z"⟩, prog_6_method_7_code, 4, (Option.some .boolean), 1, lk_4),
  (⟨"StencilHouse$Picture", "colourCount", "()I"⟩, prog_6_method_8_code, 3, (Option.some .int), 1, lk_4),
  (⟨"StencilHouse$Picture", "commonest", "()I"⟩, prog_6_method_9_code, 5, (Option.some .int), 1, lk_4),
  (⟨"StencilHouse$Reader", "<init>", "()V"⟩, prog_7_method_1_code, 1, none, 2, lk_5),
  (⟨"StencilHouse$Reader", "read", "([III)V"⟩, prog_7_method_2_code, 5, none, 1, lk_5),
  (⟨"StencilHouse$Reader", "clear", "()V"⟩, prog_7_method_3_code, 2, none, 1, lk_5),
  (⟨"StencilHouse$Reader", "readLine", "(I)Z"⟩, prog_7_method_4_code, 6, (Option.some .boolean), 1, lk_5),
  (⟨"StencilHouse$Reader", "wordOfSort", "(I)I"⟩, prog_7_method_5_code, 3, (Option.some .int), 1, lk_5),
  (⟨"StencilHouse$Reader", "spelling", "(I)Ljava/lang/String;"⟩, prog_7_method_6_code, 1, (Option.some (.object "java/lang/String")), 0, lk_5),
  (⟨"StencilHouse$Reader", "hasRoomFor", "(I)Z"⟩, prog_7_method_7_code, 2, (Option.some .boolean), 1, lk_5),
  (⟨"StencilHouse$Reader", "takeNumber", "(II)V"⟩, prog_7_method_8_code, 4, none, 1, lk_5),
  (⟨"StencilHouse$Reader", "note", "(II)V"⟩, prog_7_method_9_code, 3, none, 1, lk_5),
  (⟨"StencilHouse$Reader", "store", "(II)V"⟩, prog_7_method_10_code, 3, none, 1, lk_5)]
def mtl_4 : List MT := [
  (⟨"StencilHouse$Reader", "storeSheet", "(I)V"⟩, prog_7_method_11_code, 3, none, 1, lk_5),
  (⟨"StencilHouse$Reader", "storeWear", "(II)V"⟩, prog_7_method_12_code, 3, none, 1, lk_5),
  (⟨"StencilHouse$Reader", "storeRow", "(I)V"⟩, prog_7_method_13_code, 3, none, 1, lk_5),
  (⟨"StencilHouse$Reader", "checkShop", "(I)V"⟩, prog_7_method_14_code, 4, none, 1, lk_5),
  (⟨"StencilHouse$Reader", "cutRow", "(III)V"⟩, prog_7_method_15_code, 5, none, 1, lk_5),
  (⟨"StencilHouse$Shop", "<init>", "()V"⟩, prog_8_method_1_code, 1, none, 2, lk_6),
  (⟨"StencilHouse$Shop", "clear", "()V"⟩, prog_8_method_2_code, 2, none, 1, lk_6),
  (⟨"StencilHouse$Shop", "copyFrom", "(LStencilHouse$Shop;)V"⟩, prog_8_method_3_code, 2, none, 1, lk_6),
  (⟨"StencilHouse$Shop", "measure", "()V"⟩, prog_8_method_4_code, 2, none, 1, lk_6),
  (⟨"StencilHouse$Shop", "openSheets", "()V"⟩, prog_8_method_5_code, 2, none, 1, lk_6),
  (⟨"StencilHouse$Shop", "hasSheet", "(I)Z"⟩, prog_8_method_6_code, 2, (Option.some .boolean), 1, lk_6),
  (⟨"StencilHouse$Shop", "hasCell", "(I)Z"⟩, prog_8_method_7_code, 2, (Option.some .boolean), 1, lk_6),
  (⟨"StencilHouse$Shop", "hasPlace", "(II)Z"⟩, prog_8_method_8_code, 3, (Option.some .boolean), 1, lk_6),
  (⟨"StencilHouse$Shop", "isOpen", "(II)Z"⟩, prog_8_method_9_code, 3, (Option.some .boolean), 1, lk_6),
  (⟨"StencilHouse$Shop", "everySheet", "()I"⟩, prog_8_method_10_code, 1, (Option.some .int), 1, lk_6),
  (⟨"StencilHouse$Shop", "union", "(I)I"⟩, prog_8_method_11_code, 4, (Option.some .int), 1, lk_6),
  (⟨"StencilHouse$Shop", "beside", "(I)I"⟩, prog_8_method_12_code, 2, (Option.some .int), 1, lk_6),
  (⟨"StencilHouse$Shop", "toRight", "(I)I"⟩, prog_8_method_13_code, 2, (Option.some .int), 1, lk_6),
  (⟨"StencilHouse$Shop", "falling", "(I)I"⟩, prog_8_method_14_code, 3, (Option.some .int), 1, lk_6),
  (⟨"StencilHouse$Shop", "grown", "(II)I"⟩, prog_8_method_15_code, 6, (Option.some .int), 1, lk_6)]
def mtl_5 : List MT := [
  (⟨"StencilHouse$Shop", "opened", "(I)I"⟩, prog_8_method_16_code, 2, (Option.some .int), 1, lk_6),
  (⟨"StencilHouse$Shop", "slid", "(III)I"⟩, prog_8_method_17_code, 6, (Option.some .int), 1, lk_6),
  (⟨"StencilHouse$Shop", "flipped", "(I)I"⟩, prog_8_method_18_code, 6, (Option.some .int), 1, lk_6),
  (⟨"StencilHouse$Shop", "turned", "(I)I"⟩, prog_8_method_19_code, 5, (Option.some .int), 1, lk_6),
  (⟨"StencilHouse$Shop", "tellSheet", "(I)I"⟩, prog_8_method_20_code, 3, (Option.some .int), 1, lk_6),
  (⟨"StencilHouse$Tokens", "<init>", "()V"⟩, prog_9_method_1_code, 1, none, 2, lk_7),
  (⟨"StencilHouse$Tokens", "begin", "([II)V"⟩, prog_9_method_2_code, 3, none, 1, lk_7),
  (⟨"StencilHouse$Tokens", "next", "()V"⟩, prog_9_method_3_code, 1, none, 1, lk_7),
  (⟨"StencilHouse$Tokens", "nextWord", "()V"⟩, prog_9_method_4_code, 1, none, 1, lk_7),
  (⟨"StencilHouse$Tokens", "nextNumber", "()V"⟩, prog_9_method_5_code, 1, none, 1, lk_7),
  (⟨"StencilHouse$Tokens", "isWord", "(Ljava/lang/String;)Z"⟩, prog_9_method_6_code, 3, (Option.some .boolean), 1, lk_7),
  (⟨"StencilHouse$Tokens", "isBlank", "(I)Z"⟩, prog_9_method_7_code, 1, (Option.some .boolean), 0, lk_7),
  (⟨"StencilHouse$Tokens", "isLetter", "(I)Z"⟩, prog_9_method_8_code, 1, (Option.some .boolean), 0, lk_7),
  (⟨"StencilHouse$Tokens", "isDigit", "(I)Z"⟩, prog_9_method_9_code, 1, (Option.some .boolean), 0, lk_7),
  (⟨"StencilHouse$Told", "<init>", "()V"⟩, prog_10_method_1_code, 2, none, 2, lk_8),
  (⟨"StencilHouse$Told", "copyFrom", "(LStencilHouse$Told;)V"⟩, prog_10_method_2_code, 3, none, 1, lk_8),
  (⟨"StencilHouse$Told", "append", "(I)V"⟩, prog_10_method_3_code, 3, none, 1, lk_8),
  (⟨"StencilHouse$Told", "has", "(II)Z"⟩, prog_10_method_4_code, 3, (Option.some .boolean), 1, lk_8),
  (⟨"StencilHouse$Told", "hasPlaceFor", "(II)Z"⟩, prog_10_method_5_code, 3, (Option.some .boolean), 1, lk_8),
  (⟨"StencilHouse$Told", "take", "(LStencilHouse$Reader;II)I"⟩, prog_10_method_6_code, 5, (Option.some .int), 1, lk_8)]
def mtl_6 : List MT := [
  (⟨"StencilHouse$Told", "shopAt", "(I)LStencilHouse$Shop;"⟩, prog_10_method_7_code, 2, (Option.some (.object "StencilHouse$Shop")), 1, lk_8),
  (⟨"StencilHouse$Told", "dayAt", "(I)LStencilHouse$Day;"⟩, prog_10_method_8_code, 2, (Option.some (.object "StencilHouse$Day")), 1, lk_8),
  (⟨"StencilHouse$Told", "pictureAt", "(I)LStencilHouse$Picture;"⟩, prog_10_method_9_code, 2, (Option.some (.object "StencilHouse$Picture")), 1, lk_8),
  (⟨"StencilHouse$Told", "marksAt", "(I)LStencilHouse$Marks;"⟩, prog_10_method_10_code, 2, (Option.some (.object "StencilHouse$Marks")), 1, lk_8),
  (⟨"StencilHouse$Wall", "<init>", "()V"⟩, prog_11_method_1_code, 1, none, 2, lk_9),
  (⟨"StencilHouse$Wall", "begin", "(LStencilHouse$Shop;)V"⟩, prog_11_method_2_code, 3, none, 1, lk_9),
  (⟨"StencilHouse$Wall", "run", "(LStencilHouse$Day;I)I"⟩, prog_11_method_3_code, 4, (Option.some .int), 1, lk_9),
  (⟨"StencilHouse$Wall", "runDrawn", "(II)V"⟩, prog_11_method_4_code, 4, none, 1, lk_9),
  (⟨"StencilHouse$Wall", "actDrawn", "()V"⟩, prog_11_method_5_code, 2, none, 1, lk_9),
  (⟨"StencilHouse$Wall", "actDrawnWith", "(II)V"⟩, prog_11_method_6_code, 5, none, 1, lk_9),
  (⟨"StencilHouse$Wall", "draw", "(I)I"⟩, prog_11_method_7_code, 2, (Option.some .int), 1, lk_9),
  (⟨"StencilHouse$Wall", "act", "(IIII)Z"⟩, prog_11_method_8_code, 5, (Option.some .boolean), 1, lk_9),
  (⟨"StencilHouse$Wall", "washOff", "(I)Z"⟩, prog_11_method_9_code, 2, (Option.some .boolean), 1, lk_9),
  (⟨"StencilHouse$Wall", "sprayOn", "(II)Z"⟩, prog_11_method_10_code, 5, (Option.some .boolean), 1, lk_9),
  (⟨"StencilHouse$Wall", "overlay", "(II)V"⟩, prog_11_method_11_code, 4, none, 1, lk_9),
  (⟨"StencilHouse$Wall", "slideTo", "(III)Z"⟩, prog_11_method_12_code, 4, (Option.some .boolean), 1, lk_9),
  (⟨"StencilHouse$Wall", "patchAt", "(III)Z"⟩, prog_11_method_13_code, 5, (Option.some .boolean), 1, lk_9),
  (⟨"StencilHouse$Wall", "openNow", "(I)I"⟩, prog_11_method_14_code, 2, (Option.some .int), 1, lk_9),
  (⟨"StencilHouse$Wall", "painted", "()I"⟩, prog_11_method_15_code, 3, (Option.some .int), 1, lk_9),
  (⟨"StencilHouse$Wall", "busiest", "()I"⟩, prog_11_method_16_code, 4, (Option.some .int), 1, lk_9)]
def mtl_7 : List MT := [
  (⟨"StencilHouse$Wall", "tornSheets", "()I"⟩, prog_11_method_17_code, 3, (Option.some .int), 1, lk_9),
  (⟨"StencilHouse$Wall", "tell", "(I)I"⟩, prog_11_method_18_code, 3, (Option.some .int), 1, lk_9),
  (⟨"StencilHouse$Wall", "colourOf", "(I)I"⟩, prog_11_method_19_code, 3, (Option.some .int), 1, lk_9),
  (⟨"StencilHouse", "<init>", "()V"⟩, prog_1_method_1_code, 1, none, 2, lk_10),
  (⟨"StencilHouse", "feed", "(IIIII)I"⟩, prog_1_method_2_code, 6, (Option.some .int), 1, lk_10),
  (⟨"StencilHouse", "end", "(I)I"⟩, prog_1_method_3_code, 2, (Option.some .int), 1, lk_10),
  (⟨"StencilHouse", "text", "(II)I"⟩, prog_1_method_4_code, 4, (Option.some .int), 1, lk_10),
  (⟨"StencilHouse", "fault", "(I)I"⟩, prog_1_method_5_code, 2, (Option.some .int), 1, lk_10),
  (⟨"StencilHouse", "shop", "(II)I"⟩, prog_1_method_6_code, 4, (Option.some .int), 1, lk_10),
  (⟨"StencilHouse", "deed", "(III)I"⟩, prog_1_method_7_code, 5, (Option.some .int), 1, lk_10),
  (⟨"StencilHouse", "stop", "(II)I"⟩, prog_1_method_8_code, 5, (Option.some .int), 1, lk_10),
  (⟨"StencilHouse", "state", "(IIII)I"⟩, prog_1_method_9_code, 7, (Option.some .int), 1, lk_10),
  (⟨"StencilHouse", "bridges", "(IIZ)I"⟩, prog_1_method_10_code, 6, (Option.some .int), 1, lk_10),
  (⟨"StencilHouse", "make", "(III)I"⟩, prog_1_method_11_code, 7, (Option.some .int), 1, lk_10),
  (⟨"StencilHouse", "cover", "(IZ)I"⟩, prog_1_method_12_code, 5, (Option.some .int), 1, lk_10),
  (⟨"StencilHouse", "atOnce", "(IZ)I"⟩, prog_1_method_13_code, 5, (Option.some .int), 1, lk_10),
  (⟨"StencilHouse", "duel", "(IIZ)I"⟩, prog_1_method_14_code, 5, (Option.some .int), 1, lk_10),
  (⟨"StencilHouse", "chance", "(IIIZ)I"⟩, prog_1_method_15_code, 9, (Option.some .int), 1, lk_10),
  (⟨"StencilHouse", "within", "(III)I"⟩, prog_1_method_16_code, 5, (Option.some .int), 1, lk_10),
  (⟨"StencilHouse", "picture", "(III)I"⟩, prog_1_method_17_code, 5, (Option.some .int), 1, lk_10)]
def mtl_8 : List MT := [
  (⟨"StencilHouse", "mark", "(III)I"⟩, prog_1_method_18_code, 5, (Option.some .int), 1, lk_10),
  (⟨"StencilHouse", "fits", "(III)I"⟩, prog_1_method_19_code, 6, (Option.some .int), 1, lk_10),
  (⟨"StencilHouse", "drawn", "(IIII)I"⟩, prog_1_method_20_code, 6, (Option.some .int), 1, lk_10),
  (⟨"StencilHouse", "holes", "(III)I"⟩, prog_1_method_21_code, 6, (Option.some .int), 1, lk_10),
  (⟨"StencilHouse", "sheets", "(II)I"⟩, prog_1_method_22_code, 4, (Option.some .int), 1, lk_10),
  (⟨"StencilHouse", "unlike", "(III)I"⟩, prog_1_method_23_code, 5, (Option.some .int), 1, lk_10),
  (⟨"StencilHouse", "seen", "(II)I"⟩, prog_1_method_24_code, 4, (Option.some .int), 1, lk_10),
  (⟨"StencilHouse", "show", "(II)I"⟩, prog_1_method_25_code, 5, (Option.some .int), 1, lk_10),
  (⟨"StencilHouse", "colours", "(II)I"⟩, prog_1_method_26_code, 4, (Option.some .int), 1, lk_10),
  (⟨"StencilHouse", "plain", "(III)I"⟩, prog_1_method_27_code, 7, (Option.some .int), 1, lk_10),
  (⟨"StencilHouse", "off", "(II)I"⟩, prog_1_method_28_code, 5, (Option.some .int), 1, lk_10),
  (⟨"StencilHouse", "after", "(III)I"⟩, prog_1_method_29_code, 6, (Option.some .int), 1, lk_10),
  (⟨"StencilHouse", "count", "(I)I"⟩, prog_1_method_30_code, 2, (Option.some .int), 1, lk_10),
  (⟨"StencilHouse", "image", "(I)Z"⟩, prog_1_method_31_code, 3, (Option.some .boolean), 1, lk_10),
  (⟨"StencilHouse", "again", "(I)Z"⟩, prog_1_method_32_code, 3, (Option.some .boolean), 1, lk_10),
  (⟨"StencilHouseModel", "<init>", "()V"⟩, prog_13_method_1_code, 1, none, 2, lk_11),
  (⟨"StencilHouseModel", "in", "(III)Z"⟩, prog_13_method_3_code, 3, (Option.some .boolean), 0, lk_11),
  (⟨"StencilHouseModel", "has", "(II)Z"⟩, prog_13_method_4_code, 2, (Option.some .boolean), 0, lk_11),
  (⟨"StencilHouseModel", "greater", "(II)I"⟩, prog_13_method_5_code, 2, (Option.some .int), 0, lk_11),
  (⟨"StencilHouseModel", "lesser", "(II)I"⟩, prog_13_method_6_code, 2, (Option.some .int), 0, lk_11)]
def mtl_9 : List MT := [
  (⟨"StencilHouseModel", "ones", "(I)I"⟩, prog_13_method_7_code, 3, (Option.some .int), 0, lk_11),
  (⟨"StencilHouseModel", "copyRow", "([IIII)V"⟩, prog_13_method_8_code, 5, none, 0, lk_11),
  (⟨"StencilHouseModel", "copyAll", "(II)V"⟩, prog_13_method_9_code, 4, none, 1, lk_11),
  (⟨"StencilHouseModel", "is", "(II)Z"⟩, prog_13_method_10_code, 3, (Option.some .boolean), 1, lk_11),
  (⟨"StencilHouseModel", "feed", "(IIIII)I"⟩, prog_13_method_11_code, 6, (Option.some .int), 1, lk_11),
  (⟨"StencilHouseModel", "four", "(I)V"⟩, prog_13_method_12_code, 3, none, 1, lk_11),
  (⟨"StencilHouseModel", "end", "(I)I"⟩, prog_13_method_13_code, 2, (Option.some .int), 1, lk_11),
  (⟨"StencilHouseModel", "see", "()I"⟩, prog_13_method_14_code, 1, (Option.some .int), 1, lk_11),
  (⟨"StencilHouseModel", "token", "()V"⟩, prog_13_method_15_code, 3, none, 1, lk_11),
  (⟨"StencilHouseModel", "fails", "()Z"⟩, prog_13_method_16_code, 1, (Option.some .boolean), 1, lk_11),
  (⟨"StencilHouseModel", "addsFault", "(II)V"⟩, prog_13_method_17_code, 3, none, 1, lk_11),
  (⟨"StencilHouseModel", "take", "(III)Z"⟩, prog_13_method_18_code, 4, (Option.some .boolean), 1, lk_11),
  (⟨"StencilHouseModel", "full", "(III)V"⟩, prog_13_method_19_code, 4, none, 1, lk_11),
  (⟨"StencilHouseModel", "list", "(IIZ)V"⟩, prog_13_method_20_code, 5, none, 1, lk_11),
  (⟨"StencilHouseModel", "sheetLine", "(I)Z"⟩, prog_13_method_21_code, 3, (Option.some .boolean), 1, lk_11),
  (⟨"StencilHouseModel", "shopLine", "(JI)Z"⟩, prog_13_method_22_code, 4, (Option.some .boolean), 1, lk_11),
  (⟨"StencilHouseModel", "deedBy", "(J)I"⟩, prog_13_method_23_code, 3, (Option.some .int), 1, lk_11),
  (⟨"StencilHouseModel", "keepRow", "(I)V"⟩, prog_13_method_24_code, 4, none, 1, lk_11),
  (⟨"StencilHouseModel", "dayLine", "(JI)Z"⟩, prog_13_method_25_code, 6, (Option.some .boolean), 1, lk_11),
  (⟨"StencilHouseModel", "pictureLine", "(JI)Z"⟩, prog_13_method_26_code, 5, (Option.some .boolean), 1, lk_11)]
def mtl_10 : List MT := [
  (⟨"StencilHouseModel", "markLine", "(JI)Z"⟩, prog_13_method_27_code, 4, (Option.some .boolean), 1, lk_11),
  (⟨"StencilHouseModel", "lineOf", "(IJI)Z"⟩, prog_13_method_28_code, 5, (Option.some .boolean), 1, lk_11),
  (⟨"StencilHouseModel", "allLines", "(I)Z"⟩, prog_13_method_29_code, 6, (Option.some .boolean), 1, lk_11),
  (⟨"StencilHouseModel", "cutsTooFar", "()Z"⟩, prog_13_method_30_code, 3, (Option.some .boolean), 1, lk_11),
  (⟨"StencilHouseModel", "readText", "(I)Z"⟩, prog_13_method_31_code, 3, (Option.some .boolean), 1, lk_11),
  (⟨"StencilHouseModel", "store", "([III)V"⟩, prog_13_method_32_code, 5, none, 1, lk_11),
  (⟨"StencilHouseModel", "storeOf", "(II)V"⟩, prog_13_method_33_code, 3, none, 1, lk_11),
  (⟨"StencilHouseModel", "text", "(II)I"⟩, prog_13_method_34_code, 4, (Option.some .int), 1, lk_11),
  (⟨"StencilHouseModel", "fault", "(I)I"⟩, prog_13_method_35_code, 2, (Option.some .int), 1, lk_11),
  (⟨"StencilHouseModel", "of", "(I)I"⟩, prog_13_method_36_code, 2, (Option.some .int), 1, lk_11),
  (⟨"StencilHouseModel", "hand", "(I)Z"⟩, prog_13_method_37_code, 2, (Option.some .boolean), 1, lk_11),
  (⟨"StencilHouseModel", "clean", "()V"⟩, prog_13_method_38_code, 2, none, 1, lk_11),
  (⟨"StencilHouseModel", "asTold", "()V"⟩, prog_13_method_39_code, 3, none, 1, lk_11),
  (⟨"StencilHouseModel", "isSheet", "(I)Z"⟩, prog_13_method_40_code, 2, (Option.some .boolean), 1, lk_11),
  (⟨"StencilHouseModel", "isCell", "(I)Z"⟩, prog_13_method_41_code, 2, (Option.some .boolean), 1, lk_11),
  (⟨"StencilHouseModel", "isRim", "(I)Z"⟩, prog_13_method_42_code, 2, (Option.some .boolean), 1, lk_11),
  (⟨"StencilHouseModel", "besides", "(I)I"⟩, prog_13_method_43_code, 4, (Option.some .int), 1, lk_11),
  (⟨"StencilHouseModel", "fallsBy", "(I)I"⟩, prog_13_method_44_code, 5, (Option.some .int), 1, lk_11),
  (⟨"StencilHouseModel", "openBy", "(I)I"⟩, prog_13_method_45_code, 2, (Option.some .int), 1, lk_11),
  (⟨"StencilHouseModel", "slid", "(III)I"⟩, prog_13_method_46_code, 7, (Option.some .int), 1, lk_11)]
def mtl_11 : List MT := [
  (⟨"StencilHouseModel", "shop", "(II)I"⟩, prog_13_method_47_code, 4, (Option.some .int), 1, lk_11),
  (⟨"StencilHouseModel", "deeds", "()I"⟩, prog_13_method_48_code, 1, (Option.some .int), 1, lk_11),
  (⟨"StencilHouseModel", "deedOf", "(II)I"⟩, prog_13_method_49_code, 3, (Option.some .int), 1, lk_11),
  (⟨"StencilHouseModel", "hasDay", "(I)Z"⟩, prog_13_method_50_code, 2, (Option.some .boolean), 1, lk_11),
  (⟨"StencilHouseModel", "deed", "(III)I"⟩, prog_13_method_51_code, 4, (Option.some .int), 1, lk_11),
  (⟨"StencilHouseModel", "openNow", "(I)I"⟩, prog_13_method_52_code, 2, (Option.some .int), 1, lk_11),
  (⟨"StencilHouseModel", "paint", "(II)V"⟩, prog_13_method_53_code, 4, none, 1, lk_11),
  (⟨"StencilHouseModel", "spray", "(II)Z"⟩, prog_13_method_54_code, 3, (Option.some .boolean), 1, lk_11),
  (⟨"StencilHouseModel", "turnedBy", "(IZ)I"⟩, prog_13_method_55_code, 6, (Option.some .int), 1, lk_11),
  (⟨"StencilHouseModel", "cuts", "(II)Z"⟩, prog_13_method_56_code, 3, (Option.some .boolean), 1, lk_11),
  (⟨"StencilHouseModel", "slides", "(III)Z"⟩, prog_13_method_57_code, 4, (Option.some .boolean), 1, lk_11),
  (⟨"StencilHouseModel", "patches", "(III)Z"⟩, prog_13_method_58_code, 5, (Option.some .boolean), 1, lk_11),
  (⟨"StencilHouseModel", "washes", "(I)Z"⟩, prog_13_method_59_code, 4, (Option.some .boolean), 1, lk_11),
  (⟨"StencilHouseModel", "does", "(IIII)Z"⟩, prog_13_method_60_code, 5, (Option.some .boolean), 1, lk_11),
  (⟨"StencilHouseModel", "doesDeed", "(I)Z"⟩, prog_13_method_61_code, 2, (Option.some .boolean), 1, lk_11),
  (⟨"StencilHouseModel", "play", "(I)I"⟩, prog_13_method_62_code, 3, (Option.some .int), 1, lk_11),
  (⟨"StencilHouseModel", "layAll", "(II)Z"⟩, prog_13_method_63_code, 3, (Option.some .boolean), 1, lk_11),
  (⟨"StencilHouseModel", "stop", "(II)I"⟩, prog_13_method_64_code, 3, (Option.some .int), 1, lk_11),
  (⟨"StencilHouseModel", "coloured", "()I"⟩, prog_13_method_65_code, 3, (Option.some .int), 1, lk_11),
  (⟨"StencilHouseModel", "ofState", "(I)I"⟩, prog_13_method_66_code, 3, (Option.some .int), 1, lk_11)]
def mtl_12 : List MT := [
  (⟨"StencilHouseModel", "state", "(IIII)I"⟩, prog_13_method_67_code, 5, (Option.some .int), 1, lk_11),
  (⟨"StencilHouseModel", "bridges", "(IIZ)I"⟩, prog_13_method_68_code, 11, (Option.some .int), 1, lk_11),
  (⟨"StencilHouseModel", "hasPicture", "(I)Z"⟩, prog_13_method_69_code, 2, (Option.some .boolean), 1, lk_11),
  (⟨"StencilHouseModel", "colourAt", "(II)I"⟩, prog_13_method_70_code, 3, (Option.some .int), 1, lk_11),
  (⟨"StencilHouseModel", "colourOf", "(I)I"⟩, prog_13_method_71_code, 2, (Option.some .int), 1, lk_11),
  (⟨"StencilHouseModel", "goesBeyond", "(I)Z"⟩, prog_13_method_72_code, 5, (Option.some .boolean), 1, lk_11),
  (⟨"StencilHouseModel", "layRow", "(II)Z"⟩, prog_13_method_73_code, 6, (Option.some .boolean), 1, lk_11),
  (⟨"StencilHouseModel", "makes", "(I)Z"⟩, prog_13_method_74_code, 7, (Option.some .boolean), 1, lk_11),
  (⟨"StencilHouseModel", "keepFirst", "(IZ)V"⟩, prog_13_method_75_code, 5, none, 1, lk_11),
  (⟨"StencilHouseModel", "fewestSprays", "()I"⟩, prog_13_method_76_code, 5, (Option.some .int), 1, lk_11),
  (⟨"StencilHouseModel", "make", "(III)I"⟩, prog_13_method_77_code, 5, (Option.some .int), 1, lk_11),
  (⟨"StencilHouseModel", "openAll", "(I)I"⟩, prog_13_method_78_code, 4, (Option.some .int), 1, lk_11),
  (⟨"StencilHouseModel", "cover", "(IZ)I"⟩, prog_13_method_79_code, 6, (Option.some .int), 1, lk_11),
  (⟨"StencilHouseModel", "areApart", "(I)Z"⟩, prog_13_method_80_code, 4, (Option.some .boolean), 1, lk_11),
  (⟨"StencilHouseModel", "atOnce", "(IZ)I"⟩, prog_13_method_81_code, 5, (Option.some .int), 1, lk_11),
  (⟨"StencilHouseModel", "sevens", "(I)I"⟩, prog_13_method_82_code, 3, (Option.some .int), 0, lk_11),
  (⟨"StencilHouseModel", "endOf", "(II)I"⟩, prog_13_method_83_code, 10, (Option.some .int), 1, lk_11),
  (⟨"StencilHouseModel", "fold", "(IZ)I"⟩, prog_13_method_84_code, 6, (Option.some .int), 1, lk_11),
  (⟨"StencilHouseModel", "duel", "(IIZ)I"⟩, prog_13_method_85_code, 7, (Option.some .int), 1, lk_11),
  (⟨"StencilHouseModel", "isOpen", "(III)Z"⟩, prog_13_method_86_code, 4, (Option.some .boolean), 1, lk_11)]
def mtl_13 : List MT := [
  (⟨"StencilHouseModel", "common", "(II)I"⟩, prog_13_method_87_code, 5, (Option.some .int), 0, lk_11),
  (⟨"StencilHouseModel", "chance", "(IIIZ)I"⟩, prog_13_method_88_code, 10, (Option.some .int), 1, lk_11),
  (⟨"StencilHouseModel", "within", "(III)I"⟩, prog_13_method_89_code, 7, (Option.some .int), 1, lk_11),
  (⟨"StencilHouseModel", "picture", "(III)I"⟩, prog_13_method_90_code, 4, (Option.some .int), 1, lk_11),
  (⟨"StencilHouseModel", "markOf", "(II)I"⟩, prog_13_method_91_code, 3, (Option.some .int), 1, lk_11),
  (⟨"StencilHouseModel", "allMarks", "()I"⟩, prog_13_method_92_code, 1, (Option.some .int), 1, lk_11),
  (⟨"StencilHouseModel", "hasMarks", "(I)Z"⟩, prog_13_method_93_code, 2, (Option.some .boolean), 1, lk_11),
  (⟨"StencilHouseModel", "mark", "(III)I"⟩, prog_13_method_94_code, 4, (Option.some .int), 1, lk_11),
  (⟨"StencilHouseModel", "firstOrder", "()V"⟩, prog_13_method_95_code, 2, none, 1, lk_11),
  (⟨"StencilHouseModel", "swap", "(II)V"⟩, prog_13_method_96_code, 4, none, 1, lk_11),
  (⟨"StencilHouseModel", "nextOrder", "()Z"⟩, prog_13_method_97_code, 3, (Option.some .boolean), 1, lk_11),
  (⟨"StencilHouseModel", "topOf", "(I)I"⟩, prog_13_method_98_code, 3, (Option.some .int), 1, lk_11),
  (⟨"StencilHouseModel", "isSo", "()Z"⟩, prog_13_method_99_code, 4, (Option.some .boolean), 1, lk_11),
  (⟨"StencilHouseModel", "orderCode", "()I"⟩, prog_13_method_100_code, 3, (Option.some .int), 1, lk_11),
  (⟨"StencilHouseModel", "findOrders", "(I)V"⟩, prog_13_method_101_code, 5, none, 1, lk_11),
  (⟨"StencilHouseModel", "alike", "(I)I"⟩, prog_13_method_102_code, 4, (Option.some .int), 1, lk_11),
  (⟨"StencilHouseModel", "askWhere", "()I"⟩, prog_13_method_103_code, 3, (Option.some .int), 1, lk_11),
  (⟨"StencilHouseModel", "sure", "()I"⟩, prog_13_method_104_code, 3, (Option.some .int), 1, lk_11),
  (⟨"StencilHouseModel", "fits", "(III)I"⟩, prog_13_method_105_code, 4, (Option.some .int), 1, lk_11),
  (⟨"StencilHouseModel", "draw", "(I)I"⟩, prog_13_method_106_code, 2, (Option.some .int), 1, lk_11)]
def mtl_14 : List MT := [
  (⟨"StencilHouseModel", "drawDeed", "()V"⟩, prog_13_method_107_code, 6, none, 1, lk_11),
  (⟨"StencilHouseModel", "drawn", "(IIII)I"⟩, prog_13_method_108_code, 6, (Option.some .int), 1, lk_11),
  (⟨"StencilHouseModel", "joined", "(II)I"⟩, prog_13_method_109_code, 5, (Option.some .int), 1, lk_11),
  (⟨"StencilHouseModel", "holesOf", "(IZ)I"⟩, prog_13_method_110_code, 7, (Option.some .int), 1, lk_11),
  (⟨"StencilHouseModel", "edge", "(I)I"⟩, prog_13_method_111_code, 4, (Option.some .int), 1, lk_11),
  (⟨"StencilHouseModel", "strokes", "(IZ)I"⟩, prog_13_method_112_code, 7, (Option.some .int), 1, lk_11),
  (⟨"StencilHouseModel", "holes", "(III)I"⟩, prog_13_method_113_code, 4, (Option.some .int), 1, lk_11),
  (⟨"StencilHouseModel", "likeThemselves", "(Z)I"⟩, prog_13_method_114_code, 4, (Option.some .int), 1, lk_11),
  (⟨"StencilHouseModel", "twins", "()I"⟩, prog_13_method_115_code, 6, (Option.some .int), 1, lk_11),
  (⟨"StencilHouseModel", "openToAll", "()I"⟩, prog_13_method_116_code, 3, (Option.some .int), 1, lk_11),
  (⟨"StencilHouseModel", "falling", "()I"⟩, prog_13_method_117_code, 3, (Option.some .int), 1, lk_11),
  (⟨"StencilHouseModel", "needed", "()I"⟩, prog_13_method_118_code, 3, (Option.some .int), 1, lk_11),
  (⟨"StencilHouseModel", "stackAt", "(I)I"⟩, prog_13_method_119_code, 4, (Option.some .int), 1, lk_11),
  (⟨"StencilHouseModel", "stack", "()I"⟩, prog_13_method_120_code, 3, (Option.some .int), 1, lk_11),
  (⟨"StencilHouseModel", "unlikeOf", "(II)I"⟩, prog_13_method_121_code, 3, (Option.some .int), 1, lk_11),
  (⟨"StencilHouseModel", "nearly", "(Z)I"⟩, prog_13_method_122_code, 6, (Option.some .int), 1, lk_11),
  (⟨"StencilHouseModel", "seenOf", "(I)I"⟩, prog_13_method_123_code, 4, (Option.some .int), 1, lk_11),
  (⟨"StencilHouseModel", "hidden", "()I"⟩, prog_13_method_124_code, 3, (Option.some .int), 1, lk_11),
  (⟨"StencilHouseModel", "sheets", "(II)I"⟩, prog_13_method_125_code, 3, (Option.some .int), 1, lk_11),
  (⟨"StencilHouseModel", "unlike", "(III)I"⟩, prog_13_method_126_code, 4, (Option.some .int), 1, lk_11)]
def mtl_15 : List MT := [
  (⟨"StencilHouseModel", "seen", "(II)I"⟩, prog_13_method_127_code, 3, (Option.some .int), 1, lk_11),
  (⟨"StencilHouseModel", "onTop", "()I"⟩, prog_13_method_128_code, 4, (Option.some .int), 1, lk_11),
  (⟨"StencilHouseModel", "show", "(II)I"⟩, prog_13_method_129_code, 7, (Option.some .int), 1, lk_11),
  (⟨"StencilHouseModel", "places", "(I)I"⟩, prog_13_method_130_code, 4, (Option.some .int), 1, lk_11),
  (⟨"StencilHouseModel", "colours", "(II)I"⟩, prog_13_method_131_code, 7, (Option.some .int), 1, lk_11),
  (⟨"StencilHouseModel", "plain", "(III)I"⟩, prog_13_method_132_code, 6, (Option.some .int), 1, lk_11),
  (⟨"StencilHouseModel", "off", "(II)I"⟩, prog_13_method_133_code, 5, (Option.some .int), 1, lk_11),
  (⟨"StencilHouseModel", "busy", "()I"⟩, prog_13_method_134_code, 3, (Option.some .int), 1, lk_11),
  (⟨"StencilHouseModel", "torn", "()I"⟩, prog_13_method_135_code, 3, (Option.some .int), 1, lk_11),
  (⟨"StencilHouseModel", "after", "(III)I"⟩, prog_13_method_136_code, 7, (Option.some .int), 1, lk_11),
  (⟨"StencilHouseModel", "count", "(I)I"⟩, prog_13_method_137_code, 2, (Option.some .int), 1, lk_11),
  (⟨"StencilHouseModel", "image", "(I)Z"⟩, prog_13_method_138_code, 2, (Option.some .boolean), 1, lk_11),
  (⟨"StencilHouseModel", "again", "(I)Z"⟩, prog_13_method_139_code, 2, (Option.some .boolean), 1, lk_11),
  (⟨"java/lang/Integer", "bitCount", "(I)I"⟩, prog_14_method_49_code, 1, (Option.some .int), 0, lk_12),
  (⟨"java/lang/String", "length", "()I"⟩, prog_16_method_54_code, 1, (Option.some .int), 1, lk_13),
  (⟨"java/lang/String", "coder", "()B"⟩, prog_16_method_152_code, 1, (Option.some .byte), 1, lk_13),
  (⟨"java/lang/String", "isLatin1", "()Z"⟩, prog_16_method_154_code, 1, (Option.some .boolean), 1, lk_13),
  (⟨"java/lang/String", "charAt", "(I)C"⟩, prog_16_method_56_code, 2, (Option.some .char), 1, lk_13),
  (⟨"java/lang/StringLatin1", "charAt", "([BI)C"⟩, prog_17_method_2_code, 2, (Option.some .char), 0, lk_14)]
def mtl_law : List MT := [(x, code, 4, some .boolean, 3, lk_15)]
def mtl : List MT := mtl_0 ++ (mtl_1 ++ (mtl_2 ++ (mtl_3 ++ (mtl_4 ++ (mtl_5 ++ (mtl_6 ++ (mtl_7 ++ (mtl_8 ++ (mtl_9 ++ (mtl_10 ++ (mtl_11 ++ (mtl_12 ++ (mtl_13 ++ (mtl_14 ++ (mtl_15 ++ mtl_law)))))))))))))))
def mt (y : Nat) : Option MT := mtl[y]?
end
section
/-! FACTS of the tables: every word that a link or a method stands on is among the claim's words, by its place -/
def tabs (k : Nat) : List Cond := match k with
  | 0 => tables_1_1
  | 1 => tables_1_2
  | 2 => tables_1_3
  | 3 => tables_1_4
  | 4 => tables_1_5
  | 5 => tables_1_6
  | 6 => tables_1_7
  | 7 => tables_1_8
  | 8 => k2_sels lw_privs_1
  | 9 => k2_sels lw_privs_2
  | 10 => k2_sels lw_privs_3
  | 11 => k2_sels lw_privs_4
  | 12 => k2_sels lw_privs_5
  | 13 => k2_sels lw_privs_6
  | 14 => k2_sels lw_privs_7
  | 15 => k2_sels lw_privs_8
  | 16 => k2_sels lw_privs_9
  | _ => []
theorem tabs_p {L : List (MethodName × Nat)} {w : Cond} (h : w ∈ k2_sels L) (hs : ∀ q ∈ L, q ∈ lw_privs) : w ∈ k2_sels lw_privs := by
  obtain ⟨q, hq, rfl⟩ := List.mem_map.mp h
  exact List.mem_map.mpr ⟨q, hs q hq, rfl⟩
theorem tabs_mem {w : Cond} : ∀ (k : Nat), w ∈ tabs k → w ∈ lw_tbl
  | 0, h => List.mem_append_right _ (show w ∈ tables_1 from by unfold tables_1; exact List.mem_append_left _ h)
  | 1, h => List.mem_append_right _ (show w ∈ tables_1 from by unfold tables_1; exact List.mem_append_right _ (List.mem_append_left _ h))
  | 2, h => List.mem_append_right _ (show w ∈ tables_1 from by unfold tables_1; exact List.mem_append_right _ (List.mem_append_right _ (List.mem_append_left _ h)))
  | 3, h => List.mem_append_right _ (show w ∈ tables_1 from by unfold tables_1; exact List.mem_append_right _ (List.mem_append_right _ (List.mem_append_right _ (List.mem_append_left _ h))))
  | 4, h => List.mem_append_right _ (show w ∈ tables_1 from by unfold tables_1; exact List.mem_append_right _ (List.mem_append_right _ (List.mem_append_right _ (List.mem_append_right _ (List.mem_append_left _ h)))))
  | 5, h => List.mem_append_right _ (show w ∈ tables_1 from by unfold tables_1; exact List.mem_append_right _ (List.mem_append_right _ (List.mem_append_right _ (List.mem_append_right _ (List.mem_append_right _ (List.mem_append_left _ h))))))
  | 6, h => List.mem_append_right _ (show w ∈ tables_1 from by unfold tables_1; exact List.mem_append_right _ (List.mem_append_right _ (List.mem_append_right _ (List.mem_append_right _ (List.mem_append_right _ (List.mem_append_right _ (List.mem_append_left _ h)))))))
  | 7, h => List.mem_append_right _ (show w ∈ tables_1 from by unfold tables_1; exact List.mem_append_right _ (List.mem_append_right _ (List.mem_append_right _ (List.mem_append_right _ (List.mem_append_right _ (List.mem_append_right _ (List.mem_append_right _ h)))))))
  | 8, h => List.mem_append_left _ (tabs_p (L := lw_privs_1) h (fun q hq => by unfold lw_privs; simp only [List.mem_append]; exact Or.inl hq))
  | 9, h => List.mem_append_left _ (tabs_p (L := lw_privs_2) h (fun q hq => by unfold lw_privs; simp only [List.mem_append]; exact Or.inr (Or.inl hq)))
  | 10, h => List.mem_append_left _ (tabs_p (L := lw_privs_3) h (fun q hq => by unfold lw_privs; simp only [List.mem_append]; exact Or.inr (Or.inr (Or.inl hq))))
  | 11, h => List.mem_append_left _ (tabs_p (L := lw_privs_4) h (fun q hq => by unfold lw_privs; simp only [List.mem_append]; exact Or.inr (Or.inr (Or.inr (Or.inl hq)))))
  | 12, h => List.mem_append_left _ (tabs_p (L := lw_privs_5) h (fun q hq => by unfold lw_privs; simp only [List.mem_append]; exact Or.inr (Or.inr (Or.inr (Or.inr (Or.inl hq))))))
  | 13, h => List.mem_append_left _ (tabs_p (L := lw_privs_6) h (fun q hq => by unfold lw_privs; simp only [List.mem_append]; exact Or.inr (Or.inr (Or.inr (Or.inr (Or.inr (Or.inl hq)))))))
  | 14, h => List.mem_append_left _ (tabs_p (L := lw_privs_7) h (fun q hq => by unfold lw_privs; simp only [List.mem_append]; exact Or.inr (Or.inr (Or.inr (Or.inr (Or.inr (Or.inr (Or.inl hq))))))))
  | 15, h => List.mem_append_left _ (tabs_p (L := lw_privs_8) h (fun q hq => by unfold lw_privs; simp only [List.mem_append]; exact Or.inr (Or.inr (Or.inr (Or.inr (Or.inr (Or.inr (Or.inr (Or.inl hq)))))))))
  | 16, h => List.mem_append_left _ (tabs_p (L := lw_privs_9) h (fun q hq => by unfold lw_privs; simp only [List.mem_append]; exact Or.inr (Or.inr (Or.inr (Or.inr (Or.inr (Or.inr (Or.inr (Or.inr (hq))))))))))
  | k + 17, h => by cases h
def nthC : List Cond → Nat → Option Cond
  | [], _ => none
  | w :: _, 0 => some w
  | _ :: ws, n + 1 => nthC ws n
theorem nthC_mem {w : Cond} : ∀ (l : List Cond) (n : Nat), nthC l n = some w → w ∈ l
  | [], _, h => by cases h
  | a :: l, 0, h => by cases h; exact List.mem_cons_self
  | a :: l, n + 1, h => List.mem_cons_of_mem _ (nthC_mem l n h)
theorem inT_r {w : Cond} (k p : Nat) (h : nthC (tabs k) p = some w) : w ∈ lw_tbl := tabs_mem k (nthC_mem _ _ h)
def inT (w : Cond) (p : Nat × Nat) : Bool := decide (nthC (tabs p.1) p.2 = some w)
theorem inT_mem {w : Cond} {p : Nat × Nat} (h : inT w p = true) : w ∈ lw_tbl := inT_r p.1 p.2 (of_decide_eq_true h)
def inTs : List Cond → List (Nat × Nat) → Bool
  | [], _ => true
  | w :: ws, p :: ps => inT w p && inTs ws ps
  | _, _ => false
theorem inTs_mem {ws : List Cond} : ∀ {ps : List (Nat × Nat)}, inTs ws ps = true → ∀ w ∈ ws, w ∈ lw_tbl := by
  induction ws with
  | nil => intro ps _ w hw; cases hw
  | cons a ws ih =>
    intro ps h w hw
    cases ps with
    | nil => simp [inTs] at h
    | cons p ps =>
      simp only [inTs, Bool.and_eq_true] at h
      rcases List.mem_cons.mp hw with rfl | h1
      · exact inT_mem h.1
      · exact ih h.2 w h1
/-- the words that outlast a call -/
def lw_g : List Cond := lw_tbl.filter goodWord
theorem lw_g_of {w : Cond} (h : w ∈ lw_tbl) (hg : goodWord w = true) : w ∈ lw_g := List.mem_filter.mpr ⟨h, hg⟩
theorem lw_g_good : GoodIn lw_g lw_g := fun w h => ⟨h, good_of_word (List.mem_filter.mp h).2⟩
def mneed (r : MT) : List Cond := .initialized r.1.cls :: (match r.2.2.2.2.1 with
  | 0 => [.static r.1]
  | 1 => [.instanceMethod r.1, .selects r.1.cls r.1 r.1]
  | _ => [.instanceMethod r.1])
def mok (r : MT) (ps : List (Nat × Nat)) : Bool := inTs (mneed r) ps && (mneed r).all goodWord && Jvm.plainName r.1.cls && decide (r.1.cls ≠ "java/lang/invoke/MethodHandle") && decide (r.1.cls ≠ "java/lang/invoke/VarHandle") && Nat.ble r.2.2.1 45 && (match r.2.2.2.2.1 with
  | 0 => decide (r.1.name ≠ "<init>")
  | 1 => decide (r.1.name ≠ "<init>")
  | _ => decide (r.1.name = "<init>") && decide (r.2.2.2.1 = none))
def moks : List MT → List (List (Nat × Nat)) → Bool
  | r :: rs, p :: ps => mok r p && moks rs ps
  | [], [] => true
  | _, _ => false
/-- what is known of a method of the table that may be called -/
def MokP (r : MT) : Prop := (∀ w ∈ mneed r, w ∈ lw_g) ∧ Jvm.plainName r.1.cls = true ∧ (r.1.cls ≠ "java/lang/invoke/MethodHandle" ∧ r.1.cls ≠ "java/lang/invoke/VarHandle") ∧ r.2.2.1 ≤ 45 ∧ (r.2.2.2.2.1 = 2 → r.1.name = "<init>" ∧ r.2.2.2.1 = none)
theorem mok_P {r : MT} {p : List (Nat × Nat)} (h : mok r p = true) : MokP r := by
  simp only [mok, Bool.and_eq_true, decide_eq_true_eq] at h
  obtain ⟨⟨⟨⟨⟨⟨h1, h2⟩, h3⟩, h4⟩, h5⟩, h6⟩, h7⟩ := h
  refine ⟨fun w hw => lw_g_of (inTs_mem h1 w hw) (List.all_eq_true.mp h2 w hw), h3, ⟨h4, h5⟩, Nat.le_of_ble_eq_true h6, fun e => ?_⟩
  rw [e] at h7
  simp only [Bool.and_eq_true, decide_eq_true_eq] at h7
  exact h7
theorem moks_P : ∀ {rs : List MT} {ps : List (List (Nat × Nat))}, moks rs ps = true → ∀ r ∈ rs, MokP r := by
  intro rs
  induction rs with
  | nil => intro ps _ r hr; cases hr
  | cons a rs ih =>
    intro ps h r hr
    cases ps with
    | nil => cases h
    | cons p ps =>
      simp only [moks, Bool.and_eq_true] at h
      rcases List.mem_cons.mp hr with rfl | h1
      · exact mok_P h.1
      · exact ih h.2 r h1
def CodeIn (r : MT) : Prop := Cond.code r.1 r.2.1 r.2.2.1 r.2.2.2.1 ∈ lw_tbl
theorem mcode_0 : ∀ r ∈ mtl_0, CodeIn r := List.forall_mem_cons.mpr ⟨inT_r 0 116 rfl, List.forall_mem_cons.mpr ⟨inT_r 2 81 rfl, List.forall_mem_cons.mpr ⟨inT_r 2 176 rfl, List.forall_mem_cons.mpr ⟨inT_r 2 132 rfl, List.forall_mem_cons.mpr ⟨inT_r 3 29 rfl, List.forall_mem_cons.mpr ⟨inT_r 3 32 rfl, List.forall_mem_cons.mpr ⟨inT_r 3 104 rfl, List.forall_mem_cons.mpr ⟨inT_r 3 120 rfl, List.forall_mem_cons.mpr ⟨inT_r 3 123 rfl, List.forall_mem_cons.mpr ⟨inT_r 3 133 rfl, List.forall_mem_cons.mpr ⟨inT_r 3 130 rfl, List.forall_mem_cons.mpr ⟨inT_r 3 136 rfl, List.forall_mem_cons.mpr ⟨inT_r 3 148 rfl, List.forall_mem_cons.mpr ⟨inT_r 3 155 rfl, List.forall_mem_cons.mpr ⟨inT_r 3 151 rfl, List.forall_mem_cons.mpr ⟨inT_r 3 158 rfl, List.forall_mem_cons.mpr ⟨inT_r 3 165 rfl, List.forall_mem_cons.mpr ⟨inT_r 4 8 rfl, List.forall_mem_cons.mpr ⟨inT_r 4 12 rfl, List.forall_mem_cons.mpr ⟨inT_r 4 15 rfl, fun _ h => absurd h List.not_mem_nil⟩⟩⟩⟩⟩⟩⟩⟩⟩⟩⟩⟩⟩⟩⟩⟩⟩⟩⟩⟩
set_option maxRecDepth 100000 in
theorem mok_0 : moks mtl_0 [[(0, 4), (0, 115)], [(0, 4), (2, 79), (2, 80)], [(0, 4), (2, 174), (2, 175)], [(0, 4), (2, 130), (2, 131)], [(0, 19), (3, 28)], [(0, 19), (3, 31)], [(0, 19), (3, 103)], [(0, 19), (3, 119)], [(0, 19), (3, 122)], [(0, 19), (3, 132)], [(0, 19), (3, 129)], [(0, 19), (3, 135)], [(0, 19), (3, 147)], [(0, 19), (3, 154)], [(0, 19), (3, 150)], [(0, 19), (3, 157)], [(0, 19), (3, 164)], [(0, 19), (4, 7)], [(0, 19), (4, 11)], [(0, 19), (4, 14)]] = true := by decide +kernel
theorem mcode_1 : ∀ r ∈ mtl_1, CodeIn r := List.forall_mem_cons.mpr ⟨inT_r 4 18 rfl, List.forall_mem_cons.mpr ⟨inT_r 4 22 rfl, List.forall_mem_cons.mpr ⟨inT_r 4 25 rfl, List.forall_mem_cons.mpr ⟨inT_r 4 32 rfl, List.forall_mem_cons.mpr ⟨inT_r 4 36 rfl, List.forall_mem_cons.mpr ⟨inT_r 4 40 rfl, List.forall_mem_cons.mpr ⟨inT_r 4 43 rfl, List.forall_mem_cons.mpr ⟨inT_r 4 46 rfl, List.forall_mem_cons.mpr ⟨inT_r 4 51 rfl, List.forall_mem_cons.mpr ⟨inT_r 4 54 rfl, List.forall_mem_cons.mpr ⟨inT_r 4 60 rfl, List.forall_mem_cons.mpr ⟨inT_r 4 57 rfl, List.forall_mem_cons.mpr ⟨inT_r 4 65 rfl, List.forall_mem_cons.mpr ⟨inT_r 4 68 rfl, List.forall_mem_cons.mpr ⟨inT_r 4 76 rfl, List.forall_mem_cons.mpr ⟨inT_r 4 73 rfl, List.forall_mem_cons.mpr ⟨inT_r 4 127 rfl, List.forall_mem_cons.mpr ⟨inT_r 0 141 rfl, List.forall_mem_cons.mpr ⟨inT_r 2 77 rfl, List.forall_mem_cons.mpr ⟨inT_r 2 142 rfl, fun _ h => absurd h List.not_mem_nil⟩⟩⟩⟩⟩⟩⟩⟩⟩⟩⟩⟩⟩⟩⟩⟩⟩⟩⟩⟩
set_option maxRecDepth 100000 in
theorem mok_1 : moks mtl_1 [[(0, 19), (4, 17)], [(0, 19), (4, 21)], [(0, 19), (4, 24)], [(0, 19), (4, 31)], [(0, 19), (4, 35)], [(0, 19), (4, 39)], [(0, 19), (4, 42)], [(0, 19), (4, 45)], [(0, 19), (4, 50)], [(0, 19), (4, 53)], [(0, 19), (4, 59)], [(0, 19), (4, 56)], [(0, 19), (4, 64)], [(0, 19), (4, 67)], [(0, 19), (4, 75)], [(0, 19), (4, 72)], [(0, 19), (4, 126)], [(0, 6), (0, 140)], [(0, 6), (2, 75), (2, 76)], [(0, 6), (2, 140), (2, 141)]] = true := by decide +kernel
theorem mcode_2 : ∀ r ∈ mtl_2, CodeIn r := List.forall_mem_cons.mpr ⟨inT_r 1 93 rfl, List.forall_mem_cons.mpr ⟨inT_r 3 67 rfl, List.forall_mem_cons.mpr ⟨inT_r 3 93 rfl, List.forall_mem_cons.mpr ⟨inT_r 3 72 rfl, List.forall_mem_cons.mpr ⟨inT_r 3 76 rfl, List.forall_mem_cons.mpr ⟨inT_r 3 46 rfl, List.forall_mem_cons.mpr ⟨inT_r 3 63 rfl, List.forall_mem_cons.mpr ⟨inT_r 3 88 rfl, List.forall_mem_cons.mpr ⟨inT_r 3 80 rfl, List.forall_mem_cons.mpr ⟨inT_r 3 84 rfl, List.forall_mem_cons.mpr ⟨inT_r 4 93 rfl, List.forall_mem_cons.mpr ⟨inT_r 4 97 rfl, List.forall_mem_cons.mpr ⟨inT_r 3 97 rfl, List.forall_mem_cons.mpr ⟨inT_r 3 186 rfl, List.forall_mem_cons.mpr ⟨inT_r 3 211 rfl, List.forall_mem_cons.mpr ⟨inT_r 3 207 rfl, List.forall_mem_cons.mpr ⟨inT_r 3 194 rfl, List.forall_mem_cons.mpr ⟨inT_r 3 199 rfl, List.forall_mem_cons.mpr ⟨inT_r 3 190 rfl, List.forall_mem_cons.mpr ⟨inT_r 3 215 rfl, fun _ h => absurd h List.not_mem_nil⟩⟩⟩⟩⟩⟩⟩⟩⟩⟩⟩⟩⟩⟩⟩⟩⟩⟩⟩⟩
set_option maxRecDepth 100000 in
theorem mok_2 : moks mtl_2 [[(0, 10), (1, 92)], [(0, 10), (3, 66), (9, 8)], [(0, 10), (3, 92), (9, 14)], [(0, 10), (3, 71), (9, 9)], [(0, 10), (3, 75), (9, 10)], [(0, 10), (3, 44), (3, 45)], [(0, 10), (3, 62), (9, 7)], [(0, 10), (3, 87), (9, 13)], [(0, 10), (3, 79), (9, 11)], [(0, 10), (3, 83), (9, 12)], [(0, 10), (4, 91), (4, 92)], [(0, 10), (4, 96), (10, 9)], [(0, 10), (3, 95), (3, 96)], [(0, 10), (3, 184), (3, 185)], [(0, 10), (3, 210), (10, 3)], [(0, 10), (3, 206), (10, 2)], [(0, 10), (3, 193), (10, 0)], [(0, 10), (3, 198), (10, 1)], [(0, 10), (3, 189), (9, 15)], [(0, 10), (3, 214), (10, 4)]] = true := by decide +kernel
theorem mcode_3 : ∀ r ∈ mtl_3, CodeIn r := List.forall_mem_cons.mpr ⟨inT_r 3 219 rfl, List.forall_mem_cons.mpr ⟨inT_r 0 131 rfl, List.forall_mem_cons.mpr ⟨inT_r 1 172 rfl, List.forall_mem_cons.mpr ⟨inT_r 2 137 rfl, List.forall_mem_cons.mpr ⟨inT_r 3 54 rfl, List.forall_mem_cons.mpr ⟨inT_r 4 109 rfl, List.forall_mem_cons.mpr ⟨inT_r 3 59 rfl, List.forall_mem_cons.mpr ⟨inT_r 3 50 rfl, List.forall_mem_cons.mpr ⟨inT_r 4 105 rfl, List.forall_mem_cons.mpr ⟨inT_r 4 113 rfl, List.forall_mem_cons.mpr ⟨inT_r 0 203 rfl, List.forall_mem_cons.mpr ⟨inT_r 1 160 rfl, List.forall_mem_cons.mpr ⟨inT_r 1 164 rfl, List.forall_mem_cons.mpr ⟨inT_r 1 204 rfl, List.forall_mem_cons.mpr ⟨inT_r 1 208 rfl, List.forall_mem_cons.mpr ⟨inT_r 1 213 rfl, List.forall_mem_cons.mpr ⟨inT_r 2 42 rfl, List.forall_mem_cons.mpr ⟨inT_r 2 53 rfl, List.forall_mem_cons.mpr ⟨inT_r 2 46 rfl, List.forall_mem_cons.mpr ⟨inT_r 2 61 rfl, fun _ h => absurd h List.not_mem_nil⟩⟩⟩⟩⟩⟩⟩⟩⟩⟩⟩⟩⟩⟩⟩⟩⟩⟩⟩⟩
set_option maxRecDepth 100000 in
theorem mok_3 : moks mtl_3 [[(0, 10), (3, 218), (10, 5)], [(0, 5), (0, 130)], [(0, 5), (1, 170), (1, 171)], [(0, 5), (2, 135), (2, 136)], [(0, 5), (3, 52), (3, 53)], [(0, 5), (4, 107), (4, 108)], [(0, 5), (3, 57), (3, 58)], [(0, 5), (3, 48), (3, 49)], [(0, 5), (4, 103), (4, 104)], [(0, 5), (4, 111), (4, 112)], [(0, 7), (0, 202)], [(0, 7), (1, 158), (1, 159)], [(0, 7), (1, 163), (8, 0)], [(0, 7), (1, 203), (8, 3)], [(0, 7), (1, 207), (8, 4)], [(0, 7), (1, 212)], [(0, 7), (2, 41), (8, 5)], [(0, 7), (2, 52), (8, 7)], [(0, 7), (2, 45), (8, 6)], [(0, 7), (2, 60), (8, 8)]] = true := by decide +kernel
theorem mcode_4 : ∀ r ∈ mtl_4, CodeIn r := List.forall_mem_cons.mpr ⟨inT_r 2 65 rfl, List.forall_mem_cons.mpr ⟨inT_r 2 69 rfl, List.forall_mem_cons.mpr ⟨inT_r 2 73 rfl, List.forall_mem_cons.mpr ⟨inT_r 2 89 rfl, List.forall_mem_cons.mpr ⟨inT_r 2 93 rfl, List.forall_mem_cons.mpr ⟨inT_r 0 45 rfl, List.forall_mem_cons.mpr ⟨inT_r 1 168 rfl, List.forall_mem_cons.mpr ⟨inT_r 2 125 rfl, List.forall_mem_cons.mpr ⟨inT_r 2 85 rfl, List.forall_mem_cons.mpr ⟨inT_r 2 97 rfl, List.forall_mem_cons.mpr ⟨inT_r 2 164 rfl, List.forall_mem_cons.mpr ⟨inT_r 3 21 rfl, List.forall_mem_cons.mpr ⟨inT_r 3 1 rfl, List.forall_mem_cons.mpr ⟨inT_r 3 203 rfl, List.forall_mem_cons.mpr ⟨inT_r 3 108 rfl, List.forall_mem_cons.mpr ⟨inT_r 3 112 rfl, List.forall_mem_cons.mpr ⟨inT_r 2 113 rfl, List.forall_mem_cons.mpr ⟨inT_r 2 117 rfl, List.forall_mem_cons.mpr ⟨inT_r 2 105 rfl, List.forall_mem_cons.mpr ⟨inT_r 2 109 rfl, fun _ h => absurd h List.not_mem_nil⟩⟩⟩⟩⟩⟩⟩⟩⟩⟩⟩⟩⟩⟩⟩⟩⟩⟩⟩⟩
set_option maxRecDepth 100000 in
theorem mok_4 : moks mtl_4 [[(0, 7), (2, 64), (8, 9)], [(0, 7), (2, 68), (8, 10)], [(0, 7), (2, 72), (8, 11)], [(0, 7), (2, 88), (8, 12)], [(0, 7), (2, 92), (8, 13)], [(0, 3), (0, 44)], [(0, 3), (1, 166), (1, 167)], [(0, 3), (2, 123), (2, 124)], [(0, 3), (2, 83), (2, 84)], [(0, 3), (2, 95), (2, 96)], [(0, 3), (2, 162), (2, 163)], [(0, 3), (3, 19), (3, 20)], [(0, 3), (2, 239), (3, 0)], [(0, 3), (3, 201), (3, 202)], [(0, 3), (3, 106), (3, 107)], [(0, 3), (3, 110), (3, 111)], [(0, 3), (2, 111), (2, 112)], [(0, 3), (2, 116), (8, 14)], [(0, 3), (2, 103), (2, 104)], [(0, 3), (2, 107), (2, 108)]] = true := by decide +kernel
theorem mcode_5 : ∀ r ∈ mtl_5, CodeIn r := List.forall_mem_cons.mpr ⟨inT_r 2 101 rfl, List.forall_mem_cons.mpr ⟨inT_r 2 217 rfl, List.forall_mem_cons.mpr ⟨inT_r 2 225 rfl, List.forall_mem_cons.mpr ⟨inT_r 2 229 rfl, List.forall_mem_cons.mpr ⟨inT_r 2 160 rfl, List.forall_mem_cons.mpr ⟨inT_r 0 217 rfl, List.forall_mem_cons.mpr ⟨inT_r 1 176 rfl, List.forall_mem_cons.mpr ⟨inT_r 1 183 rfl, List.forall_mem_cons.mpr ⟨inT_r 1 193 rfl, List.forall_mem_cons.mpr ⟨inT_r 1 200 rfl, List.forall_mem_cons.mpr ⟨inT_r 1 230 rfl, List.forall_mem_cons.mpr ⟨inT_r 1 186 rfl, List.forall_mem_cons.mpr ⟨inT_r 1 189 rfl, List.forall_mem_cons.mpr ⟨inT_r 1 196 rfl, List.forall_mem_cons.mpr ⟨inT_r 0 32 rfl, List.forall_mem_cons.mpr ⟨inT_r 4 153 rfl, List.forall_mem_cons.mpr ⟨inT_r 1 140 rfl, List.forall_mem_cons.mpr ⟨inT_r 1 156 rfl, List.forall_mem_cons.mpr ⟨inT_r 1 152 rfl, List.forall_mem_cons.mpr ⟨inT_r 2 121 rfl, fun _ h => absurd h List.not_mem_nil⟩⟩⟩⟩⟩⟩⟩⟩⟩⟩⟩⟩⟩⟩⟩⟩⟩⟩⟩⟩
set_option maxRecDepth 100000 in
theorem mok_5 : moks mtl_5 [[(0, 3), (2, 99), (2, 100)], [(0, 3), (2, 215), (2, 216)], [(0, 3), (2, 223), (2, 224)], [(0, 3), (2, 227), (2, 228)], [(0, 3), (2, 158), (2, 159)], [(0, 8), (0, 216)], [(0, 8), (1, 174), (1, 175)], [(0, 8), (1, 181), (1, 182)], [(0, 8), (1, 192), (8, 1)], [(0, 8), (1, 199), (8, 2)], [(0, 8), (1, 228), (1, 229)], [(0, 8), (1, 185)], [(0, 8), (1, 188)], [(0, 8), (1, 195)], [(0, 2), (0, 31)], [(0, 2), (4, 151), (4, 152)], [(0, 2), (1, 138), (1, 139)], [(0, 2), (1, 154), (1, 155)], [(0, 2), (1, 150), (1, 151)], [(0, 2), (2, 119), (2, 120)]] = true := by decide +kernel
theorem mcode_6 : ∀ r ∈ mtl_6, CodeIn r := List.forall_mem_cons.mpr ⟨inT_r 2 156 rfl, List.forall_mem_cons.mpr ⟨inT_r 2 172 rfl, List.forall_mem_cons.mpr ⟨inT_r 3 42 rfl, List.forall_mem_cons.mpr ⟨inT_r 3 178 rfl, List.forall_mem_cons.mpr ⟨inT_r 1 45 rfl, List.forall_mem_cons.mpr ⟨inT_r 2 184 rfl, List.forall_mem_cons.mpr ⟨inT_r 2 188 rfl, List.forall_mem_cons.mpr ⟨inT_r 3 228 rfl, List.forall_mem_cons.mpr ⟨inT_r 3 232 rfl, List.forall_mem_cons.mpr ⟨inT_r 4 1 rfl, List.forall_mem_cons.mpr ⟨inT_r 3 236 rfl, List.forall_mem_cons.mpr ⟨inT_r 2 193 rfl, List.forall_mem_cons.mpr ⟨inT_r 2 197 rfl, List.forall_mem_cons.mpr ⟨inT_r 2 208 rfl, List.forall_mem_cons.mpr ⟨inT_r 2 221 rfl, List.forall_mem_cons.mpr ⟨inT_r 2 233 rfl, List.forall_mem_cons.mpr ⟨inT_r 2 237 rfl, List.forall_mem_cons.mpr ⟨inT_r 2 212 rfl, List.forall_mem_cons.mpr ⟨inT_r 3 13 rfl, List.forall_mem_cons.mpr ⟨inT_r 4 136 rfl, fun _ h => absurd h List.not_mem_nil⟩⟩⟩⟩⟩⟩⟩⟩⟩⟩⟩⟩⟩⟩⟩⟩⟩⟩⟩⟩
set_option maxRecDepth 100000 in
theorem mok_6 : moks mtl_6 [[(0, 2), (2, 154), (2, 155)], [(0, 2), (2, 170), (2, 171)], [(0, 2), (3, 40), (3, 41)], [(0, 2), (3, 176), (3, 177)], [(0, 9), (1, 44)], [(0, 9), (2, 182), (2, 183)], [(0, 9), (2, 186), (2, 187)], [(0, 9), (3, 226), (3, 227)], [(0, 9), (3, 231), (10, 6)], [(0, 9), (4, 0), (10, 8)], [(0, 9), (3, 235), (10, 7)], [(0, 9), (2, 192), (8, 15)], [(0, 9), (2, 196), (9, 0)], [(0, 9), (2, 207), (9, 1)], [(0, 9), (2, 220), (9, 3)], [(0, 9), (2, 232), (9, 4)], [(0, 9), (2, 236), (9, 5)], [(0, 9), (2, 211), (9, 2)], [(0, 9), (3, 11), (3, 12)], [(0, 9), (4, 134), (4, 135)]] = true := by decide +kernel
theorem mcode_7 : ∀ r ∈ mtl_7, CodeIn r := List.forall_mem_cons.mpr ⟨inT_r 4 141 rfl, List.forall_mem_cons.mpr ⟨inT_r 3 9 rfl, List.forall_mem_cons.mpr ⟨inT_r 3 17 rfl, List.forall_mem_cons.mpr ⟨inT_r 0 24 rfl, List.forall_mem_cons.mpr ⟨inT_r 1 136 rfl, List.forall_mem_cons.mpr ⟨inT_r 1 144 rfl, List.forall_mem_cons.mpr ⟨inT_r 1 148 rfl, List.forall_mem_cons.mpr ⟨inT_r 2 148 rfl, List.forall_mem_cons.mpr ⟨inT_r 2 152 rfl, List.forall_mem_cons.mpr ⟨inT_r 2 168 rfl, List.forall_mem_cons.mpr ⟨inT_r 2 180 rfl, List.forall_mem_cons.mpr ⟨inT_r 3 5 rfl, List.forall_mem_cons.mpr ⟨inT_r 3 25 rfl, List.forall_mem_cons.mpr ⟨inT_r 3 38 rfl, List.forall_mem_cons.mpr ⟨inT_r 3 101 rfl, List.forall_mem_cons.mpr ⟨inT_r 3 117 rfl, List.forall_mem_cons.mpr ⟨inT_r 3 127 rfl, List.forall_mem_cons.mpr ⟨inT_r 3 144 rfl, List.forall_mem_cons.mpr ⟨inT_r 3 162 rfl, List.forall_mem_cons.mpr ⟨inT_r 3 169 rfl, fun _ h => absurd h List.not_mem_nil⟩⟩⟩⟩⟩⟩⟩⟩⟩⟩⟩⟩⟩⟩⟩⟩⟩⟩⟩⟩
set_option maxRecDepth 100000 in
theorem mok_7 : moks mtl_7 [[(0, 9), (4, 139), (4, 140)], [(0, 9), (3, 7), (3, 8)], [(0, 9), (3, 16), (9, 6)], [(0, 1), (0, 23)], [(0, 1), (1, 134), (1, 135)], [(0, 1), (1, 142), (1, 143)], [(0, 1), (1, 146), (1, 147)], [(0, 1), (2, 146), (2, 147)], [(0, 1), (2, 150), (2, 151)], [(0, 1), (2, 166), (2, 167)], [(0, 1), (2, 178), (2, 179)], [(0, 1), (3, 3), (3, 4)], [(0, 1), (3, 23), (3, 24)], [(0, 1), (3, 36), (3, 37)], [(0, 1), (3, 99), (3, 100)], [(0, 1), (3, 115), (3, 116)], [(0, 1), (3, 125), (3, 126)], [(0, 1), (3, 142), (3, 143)], [(0, 1), (3, 160), (3, 161)], [(0, 1), (3, 167), (3, 168)]] = true := by decide +kernel
theorem mcode_8 : ∀ r ∈ mtl_8, CodeIn r := List.forall_mem_cons.mpr ⟨inT_r 3 174 rfl, List.forall_mem_cons.mpr ⟨inT_r 3 182 rfl, List.forall_mem_cons.mpr ⟨inT_r 3 224 rfl, List.forall_mem_cons.mpr ⟨inT_r 4 5 rfl, List.forall_mem_cons.mpr ⟨inT_r 4 29 rfl, List.forall_mem_cons.mpr ⟨inT_r 4 80 rfl, List.forall_mem_cons.mpr ⟨inT_r 4 84 rfl, List.forall_mem_cons.mpr ⟨inT_r 4 89 rfl, List.forall_mem_cons.mpr ⟨inT_r 4 101 rfl, List.forall_mem_cons.mpr ⟨inT_r 4 117 rfl, List.forall_mem_cons.mpr ⟨inT_r 4 124 rfl, List.forall_mem_cons.mpr ⟨inT_r 4 132 rfl, List.forall_mem_cons.mpr ⟨inT_r 4 145 rfl, List.forall_mem_cons.mpr ⟨inT_r 4 149 rfl, List.forall_mem_cons.mpr ⟨inT_r 4 158 rfl, List.forall_mem_cons.mpr ⟨inT_r 4 163 rfl, List.forall_mem_cons.mpr ⟨inT_r 5 95 rfl, List.forall_mem_cons.mpr ⟨inT_r 5 229 rfl, List.forall_mem_cons.mpr ⟨inT_r 5 161 rfl, List.forall_mem_cons.mpr ⟨inT_r 5 143 rfl, fun _ h => absurd h List.not_mem_nil⟩⟩⟩⟩⟩⟩⟩⟩⟩⟩⟩⟩⟩⟩⟩⟩⟩⟩⟩⟩
set_option maxRecDepth 100000 in
theorem mok_8 : moks mtl_8 [[(0, 1), (3, 172), (3, 173)], [(0, 1), (3, 180), (3, 181)], [(0, 1), (3, 222), (3, 223)], [(0, 1), (4, 3), (4, 4)], [(0, 1), (4, 27), (4, 28)], [(0, 1), (4, 78), (4, 79)], [(0, 1), (4, 82), (4, 83)], [(0, 1), (4, 87), (4, 88)], [(0, 1), (4, 99), (4, 100)], [(0, 1), (4, 115), (4, 116)], [(0, 1), (4, 122), (4, 123)], [(0, 1), (4, 130), (4, 131)], [(0, 1), (4, 143), (4, 144)], [(0, 1), (4, 147), (4, 148)], [(0, 1), (4, 156), (4, 157)], [(0, 11), (4, 162)], [(0, 11), (5, 94)], [(0, 11), (5, 228)], [(0, 11), (5, 160)], [(0, 11), (5, 142)]] = true := by decide +kernel
theorem mcode_9 : ∀ r ∈ mtl_9, CodeIn r := List.forall_mem_cons.mpr ⟨inT_r 6 104 rfl, List.forall_mem_cons.mpr ⟨inT_r 7 151 rfl, List.forall_mem_cons.mpr ⟨inT_r 7 148 rfl, List.forall_mem_cons.mpr ⟨inT_r 5 103 rfl, List.forall_mem_cons.mpr ⟨inT_r 5 84 rfl, List.forall_mem_cons.mpr ⟨inT_r 5 88 rfl, List.forall_mem_cons.mpr ⟨inT_r 5 92 rfl, List.forall_mem_cons.mpr ⟨inT_r 5 115 rfl, List.forall_mem_cons.mpr ⟨inT_r 5 111 rfl, List.forall_mem_cons.mpr ⟨inT_r 5 154 rfl, List.forall_mem_cons.mpr ⟨inT_r 5 140 rfl, List.forall_mem_cons.mpr ⟨inT_r 5 158 rfl, List.forall_mem_cons.mpr ⟨inT_r 5 136 rfl, List.forall_mem_cons.mpr ⟨inT_r 5 147 rfl, List.forall_mem_cons.mpr ⟨inT_r 5 132 rfl, List.forall_mem_cons.mpr ⟨inT_r 5 127 rfl, List.forall_mem_cons.mpr ⟨inT_r 5 169 rfl, List.forall_mem_cons.mpr ⟨inT_r 5 179 rfl, List.forall_mem_cons.mpr ⟨inT_r 5 165 rfl, List.forall_mem_cons.mpr ⟨inT_r 5 183 rfl, fun _ h => absurd h List.not_mem_nil⟩⟩⟩⟩⟩⟩⟩⟩⟩⟩⟩⟩⟩⟩⟩⟩⟩⟩⟩⟩
set_option maxRecDepth 100000 in
theorem mok_9 : moks mtl_9 [[(0, 11), (6, 103)], [(0, 11), (7, 150)], [(0, 11), (7, 147), (16, 11)], [(0, 11), (5, 102), (10, 11)], [(0, 11), (5, 82), (5, 83)], [(0, 11), (5, 87), (10, 10)], [(0, 11), (5, 90), (5, 91)], [(0, 11), (5, 114), (10, 14)], [(0, 11), (5, 110), (10, 13)], [(0, 11), (5, 153), (11, 6)], [(0, 11), (5, 139), (11, 4)], [(0, 11), (5, 157), (11, 7)], [(0, 11), (5, 135), (11, 3)], [(0, 11), (5, 146), (11, 5)], [(0, 11), (5, 131), (11, 2)], [(0, 11), (5, 126), (11, 1)], [(0, 11), (5, 168), (11, 9)], [(0, 11), (5, 178), (11, 10)], [(0, 11), (5, 164), (11, 8)], [(0, 11), (5, 182), (11, 11)]] = true := by decide +kernel
theorem mcode_10 : ∀ r ∈ mtl_10, CodeIn r := List.forall_mem_cons.mpr ⟨inT_r 5 188 rfl, List.forall_mem_cons.mpr ⟨inT_r 5 123 rfl, List.forall_mem_cons.mpr ⟨inT_r 5 119 rfl, List.forall_mem_cons.mpr ⟨inT_r 5 194 rfl, List.forall_mem_cons.mpr ⟨inT_r 5 107 rfl, List.forall_mem_cons.mpr ⟨inT_r 5 202 rfl, List.forall_mem_cons.mpr ⟨inT_r 5 198 rfl, List.forall_mem_cons.mpr ⟨inT_r 5 99 rfl, List.forall_mem_cons.mpr ⟨inT_r 5 206 rfl, List.forall_mem_cons.mpr ⟨inT_r 5 218 rfl, List.forall_mem_cons.mpr ⟨inT_r 5 214 rfl, List.forall_mem_cons.mpr ⟨inT_r 5 226 rfl, List.forall_mem_cons.mpr ⟨inT_r 5 222 rfl, List.forall_mem_cons.mpr ⟨inT_r 6 9 rfl, List.forall_mem_cons.mpr ⟨inT_r 6 93 rfl, List.forall_mem_cons.mpr ⟨inT_r 6 1 rfl, List.forall_mem_cons.mpr ⟨inT_r 6 5 rfl, List.forall_mem_cons.mpr ⟨inT_r 5 237 rfl, List.forall_mem_cons.mpr ⟨inT_r 5 233 rfl, List.forall_mem_cons.mpr ⟨inT_r 6 61 rfl, fun _ h => absurd h List.not_mem_nil⟩⟩⟩⟩⟩⟩⟩⟩⟩⟩⟩⟩⟩⟩⟩⟩⟩⟩⟩⟩
set_option maxRecDepth 100000 in
theorem mok_10 : moks mtl_10 [[(0, 11), (5, 187), (11, 12)], [(0, 11), (5, 122), (11, 0)], [(0, 11), (5, 118), (10, 15)], [(0, 11), (5, 193), (11, 13)], [(0, 11), (5, 106), (10, 12)], [(0, 11), (5, 201), (11, 15)], [(0, 11), (5, 197), (11, 14)], [(0, 11), (5, 97), (5, 98)], [(0, 11), (5, 204), (5, 205)], [(0, 11), (5, 217), (12, 1)], [(0, 11), (5, 213), (12, 0)], [(0, 11), (5, 225), (12, 3)], [(0, 11), (5, 221), (12, 2)], [(0, 11), (6, 8), (12, 8)], [(0, 11), (6, 92), (13, 10)], [(0, 11), (6, 0), (12, 6)], [(0, 11), (6, 4), (12, 7)], [(0, 11), (5, 236), (12, 5)], [(0, 11), (5, 232), (12, 4)], [(0, 11), (6, 60), (13, 3)]] = true := by decide +kernel
theorem mcode_11 : ∀ r ∈ mtl_11, CodeIn r := List.forall_mem_cons.mpr ⟨inT_r 5 210 rfl, List.forall_mem_cons.mpr ⟨inT_r 6 21 rfl, List.forall_mem_cons.mpr ⟨inT_r 6 25 rfl, List.forall_mem_cons.mpr ⟨inT_r 6 17 rfl, List.forall_mem_cons.mpr ⟨inT_r 6 13 rfl, List.forall_mem_cons.mpr ⟨inT_r 6 57 rfl, List.forall_mem_cons.mpr ⟨inT_r 6 65 rfl, List.forall_mem_cons.mpr ⟨inT_r 6 53 rfl, List.forall_mem_cons.mpr ⟨inT_r 6 69 rfl, List.forall_mem_cons.mpr ⟨inT_r 6 73 rfl, List.forall_mem_cons.mpr ⟨inT_r 6 77 rfl, List.forall_mem_cons.mpr ⟨inT_r 6 81 rfl, List.forall_mem_cons.mpr ⟨inT_r 6 49 rfl, List.forall_mem_cons.mpr ⟨inT_r 6 45 rfl, List.forall_mem_cons.mpr ⟨inT_r 6 41 rfl, List.forall_mem_cons.mpr ⟨inT_r 6 37 rfl, List.forall_mem_cons.mpr ⟨inT_r 6 33 rfl, List.forall_mem_cons.mpr ⟨inT_r 6 29 rfl, List.forall_mem_cons.mpr ⟨inT_r 6 97 rfl, List.forall_mem_cons.mpr ⟨inT_r 6 89 rfl, fun _ h => absurd h List.not_mem_nil⟩⟩⟩⟩⟩⟩⟩⟩⟩⟩⟩⟩⟩⟩⟩⟩⟩⟩⟩⟩
set_option maxRecDepth 100000 in
theorem mok_11 : moks mtl_11 [[(0, 11), (5, 208), (5, 209)], [(0, 11), (6, 20), (12, 10)], [(0, 11), (6, 24), (12, 11)], [(0, 11), (6, 16), (12, 9)], [(0, 11), (6, 11), (6, 12)], [(0, 11), (6, 56), (13, 2)], [(0, 11), (6, 64), (13, 4)], [(0, 11), (6, 52), (13, 1)], [(0, 11), (6, 68), (13, 5)], [(0, 11), (6, 72), (13, 6)], [(0, 11), (6, 76), (13, 7)], [(0, 11), (6, 80), (13, 8)], [(0, 11), (6, 48), (13, 0)], [(0, 11), (6, 44), (12, 15)], [(0, 11), (6, 40), (12, 14)], [(0, 11), (6, 36), (12, 13)], [(0, 11), (6, 32), (12, 12)], [(0, 11), (6, 27), (6, 28)], [(0, 11), (6, 96), (13, 11)], [(0, 11), (6, 88), (13, 9)]] = true := by decide +kernel
theorem mcode_12 : ∀ r ∈ mtl_12, CodeIn r := List.forall_mem_cons.mpr ⟨inT_r 6 85 rfl, List.forall_mem_cons.mpr ⟨inT_r 6 101 rfl, List.forall_mem_cons.mpr ⟨inT_r 6 112 rfl, List.forall_mem_cons.mpr ⟨inT_r 6 124 rfl, List.forall_mem_cons.mpr ⟨inT_r 6 136 rfl, List.forall_mem_cons.mpr ⟨inT_r 6 120 rfl, List.forall_mem_cons.mpr ⟨inT_r 6 128 rfl, List.forall_mem_cons.mpr ⟨inT_r 6 132 rfl, List.forall_mem_cons.mpr ⟨inT_r 6 140 rfl, List.forall_mem_cons.mpr ⟨inT_r 6 116 rfl, List.forall_mem_cons.mpr ⟨inT_r 6 108 rfl, List.forall_mem_cons.mpr ⟨inT_r 6 148 rfl, List.forall_mem_cons.mpr ⟨inT_r 6 144 rfl, List.forall_mem_cons.mpr ⟨inT_r 6 156 rfl, List.forall_mem_cons.mpr ⟨inT_r 6 152 rfl, List.forall_mem_cons.mpr ⟨inT_r 6 163 rfl, List.forall_mem_cons.mpr ⟨inT_r 6 167 rfl, List.forall_mem_cons.mpr ⟨inT_r 6 171 rfl, List.forall_mem_cons.mpr ⟨inT_r 6 160 rfl, List.forall_mem_cons.mpr ⟨inT_r 6 179 rfl, fun _ h => absurd h List.not_mem_nil⟩⟩⟩⟩⟩⟩⟩⟩⟩⟩⟩⟩⟩⟩⟩⟩⟩⟩⟩⟩
set_option maxRecDepth 100000 in
theorem mok_12 : moks mtl_12 [[(0, 11), (6, 83), (6, 84)], [(0, 11), (6, 99), (6, 100)], [(0, 11), (6, 111), (13, 12)], [(0, 11), (6, 123), (13, 15)], [(0, 11), (6, 135), (14, 2)], [(0, 11), (6, 119), (13, 14)], [(0, 11), (6, 127), (14, 0)], [(0, 11), (6, 131), (14, 1)], [(0, 11), (6, 139), (14, 3)], [(0, 11), (6, 115), (13, 13)], [(0, 11), (6, 106), (6, 107)], [(0, 11), (6, 147), (14, 4)], [(0, 11), (6, 142), (6, 143)], [(0, 11), (6, 155), (14, 5)], [(0, 11), (6, 150), (6, 151)], [(0, 11), (6, 162)], [(0, 11), (6, 166), (14, 6)], [(0, 11), (6, 170), (14, 7)], [(0, 11), (6, 158), (6, 159)], [(0, 11), (6, 178), (14, 8)]] = true := by decide +kernel
theorem mcode_13 : ∀ r ∈ mtl_13, CodeIn r := List.forall_mem_cons.mpr ⟨inT_r 6 182 rfl, List.forall_mem_cons.mpr ⟨inT_r 6 175 rfl, List.forall_mem_cons.mpr ⟨inT_r 6 186 rfl, List.forall_mem_cons.mpr ⟨inT_r 6 190 rfl, List.forall_mem_cons.mpr ⟨inT_r 6 206 rfl, List.forall_mem_cons.mpr ⟨inT_r 6 202 rfl, List.forall_mem_cons.mpr ⟨inT_r 6 198 rfl, List.forall_mem_cons.mpr ⟨inT_r 6 194 rfl, List.forall_mem_cons.mpr ⟨inT_r 6 218 rfl, List.forall_mem_cons.mpr ⟨inT_r 6 238 rfl, List.forall_mem_cons.mpr ⟨inT_r 6 234 rfl, List.forall_mem_cons.mpr ⟨inT_r 6 226 rfl, List.forall_mem_cons.mpr ⟨inT_r 6 222 rfl, List.forall_mem_cons.mpr ⟨inT_r 6 230 rfl, List.forall_mem_cons.mpr ⟨inT_r 6 214 rfl, List.forall_mem_cons.mpr ⟨inT_r 7 10 rfl, List.forall_mem_cons.mpr ⟨inT_r 7 6 rfl, List.forall_mem_cons.mpr ⟨inT_r 7 2 rfl, List.forall_mem_cons.mpr ⟨inT_r 6 210 rfl, List.forall_mem_cons.mpr ⟨inT_r 7 22 rfl, fun _ h => absurd h List.not_mem_nil⟩⟩⟩⟩⟩⟩⟩⟩⟩⟩⟩⟩⟩⟩⟩⟩⟩⟩⟩⟩
set_option maxRecDepth 100000 in
theorem mok_13 : moks mtl_13 [[(0, 11), (6, 181)], [(0, 11), (6, 173), (6, 174)], [(0, 11), (6, 184), (6, 185)], [(0, 11), (6, 188), (6, 189)], [(0, 11), (6, 205), (14, 11)], [(0, 11), (6, 201), (14, 10)], [(0, 11), (6, 197), (14, 9)], [(0, 11), (6, 192), (6, 193)], [(0, 11), (6, 217), (14, 13)], [(0, 11), (6, 237), (15, 2)], [(0, 11), (6, 233), (15, 1)], [(0, 11), (6, 225), (14, 15)], [(0, 11), (6, 221), (14, 14)], [(0, 11), (6, 229), (15, 0)], [(0, 11), (6, 213), (14, 12)], [(0, 11), (7, 9), (15, 5)], [(0, 11), (7, 5), (15, 4)], [(0, 11), (7, 1), (15, 3)], [(0, 11), (6, 208), (6, 209)], [(0, 11), (7, 21), (15, 7)]] = true := by decide +kernel
theorem mcode_14 : ∀ r ∈ mtl_14, CodeIn r := List.forall_mem_cons.mpr ⟨inT_r 7 18 rfl, List.forall_mem_cons.mpr ⟨inT_r 7 14 rfl, List.forall_mem_cons.mpr ⟨inT_r 7 35 rfl, List.forall_mem_cons.mpr ⟨inT_r 7 31 rfl, List.forall_mem_cons.mpr ⟨inT_r 7 39 rfl, List.forall_mem_cons.mpr ⟨inT_r 7 43 rfl, List.forall_mem_cons.mpr ⟨inT_r 7 27 rfl, List.forall_mem_cons.mpr ⟨inT_r 7 51 rfl, List.forall_mem_cons.mpr ⟨inT_r 7 55 rfl, List.forall_mem_cons.mpr ⟨inT_r 7 59 rfl, List.forall_mem_cons.mpr ⟨inT_r 7 63 rfl, List.forall_mem_cons.mpr ⟨inT_r 7 67 rfl, List.forall_mem_cons.mpr ⟨inT_r 7 75 rfl, List.forall_mem_cons.mpr ⟨inT_r 7 71 rfl, List.forall_mem_cons.mpr ⟨inT_r 7 84 rfl, List.forall_mem_cons.mpr ⟨inT_r 7 79 rfl, List.forall_mem_cons.mpr ⟨inT_r 7 92 rfl, List.forall_mem_cons.mpr ⟨inT_r 7 88 rfl, List.forall_mem_cons.mpr ⟨inT_r 7 47 rfl, List.forall_mem_cons.mpr ⟨inT_r 7 96 rfl, fun _ h => absurd h List.not_mem_nil⟩⟩⟩⟩⟩⟩⟩⟩⟩⟩⟩⟩⟩⟩⟩⟩⟩⟩⟩⟩
set_option maxRecDepth 100000 in
theorem mok_14 : moks mtl_14 [[(0, 11), (7, 17), (15, 6)], [(0, 11), (7, 12), (7, 13)], [(0, 11), (7, 34), (15, 9)], [(0, 11), (7, 30), (15, 8)], [(0, 11), (7, 38), (15, 10)], [(0, 11), (7, 42), (15, 11)], [(0, 11), (7, 25), (7, 26)], [(0, 11), (7, 50), (15, 12)], [(0, 11), (7, 54), (15, 13)], [(0, 11), (7, 58), (15, 14)], [(0, 11), (7, 62), (15, 15)], [(0, 11), (7, 66), (16, 0)], [(0, 11), (7, 74), (16, 2)], [(0, 11), (7, 70), (16, 1)], [(0, 11), (7, 83), (16, 4)], [(0, 11), (7, 78), (16, 3)], [(0, 11), (7, 91), (16, 6)], [(0, 11), (7, 87), (16, 5)], [(0, 11), (7, 45), (7, 46)], [(0, 11), (7, 94), (7, 95)]] = true := by decide +kernel
theorem mcode_15 : ∀ r ∈ mtl_15, CodeIn r := List.forall_mem_cons.mpr ⟨inT_r 7 100 rfl, List.forall_mem_cons.mpr ⟨inT_r 7 108 rfl, List.forall_mem_cons.mpr ⟨inT_r 7 104 rfl, List.forall_mem_cons.mpr ⟨inT_r 7 116 rfl, List.forall_mem_cons.mpr ⟨inT_r 7 112 rfl, List.forall_mem_cons.mpr ⟨inT_r 7 120 rfl, List.forall_mem_cons.mpr ⟨inT_r 7 124 rfl, List.forall_mem_cons.mpr ⟨inT_r 7 132 rfl, List.forall_mem_cons.mpr ⟨inT_r 7 136 rfl, List.forall_mem_cons.mpr ⟨inT_r 7 128 rfl, List.forall_mem_cons.mpr ⟨inT_r 7 140 rfl, List.forall_mem_cons.mpr ⟨inT_r 7 144 rfl, List.forall_mem_cons.mpr ⟨inT_r 7 155 rfl, List.forall_mem_cons.mpr ⟨inT_r 2 200 rfl, List.forall_mem_cons.mpr ⟨inT_r 1 234 rfl, List.forall_mem_cons.mpr ⟨inT_r 1 238 rfl, List.forall_mem_cons.mpr ⟨inT_r 2 8 rfl, List.forall_mem_cons.mpr ⟨inT_r 2 4 rfl, List.forall_mem_cons.mpr ⟨inT_r 2 11 rfl, fun _ h => absurd h List.not_mem_nil⟩⟩⟩⟩⟩⟩⟩⟩⟩⟩⟩⟩⟩⟩⟩⟩⟩⟩⟩
set_option maxRecDepth 100000 in
theorem mok_15 : moks mtl_15 [[(0, 11), (7, 98), (7, 99)], [(0, 11), (7, 107), (16, 7)], [(0, 11), (7, 102), (7, 103)], [(0, 11), (7, 115), (16, 8)], [(0, 11), (7, 110), (7, 111)], [(0, 11), (7, 118), (7, 119)], [(0, 11), (7, 122), (7, 123)], [(0, 11), (7, 131), (16, 9)], [(0, 11), (7, 135), (16, 10)], [(0, 11), (7, 126), (7, 127)], [(0, 11), (7, 138), (7, 139)], [(0, 11), (7, 142), (7, 143)], [(0, 11), (7, 153), (7, 154)], [(0, 18), (2, 199)], [(0, 13), (1, 232), (1, 233)], [(0, 13), (1, 236), (1, 237)], [(0, 13), (2, 6), (2, 7)], [(0, 13), (2, 2), (2, 3)], [(0, 14), (2, 10)]] = true := by decide +kernel
def stIx : List Nat := [135, 137, 139, 141, 143, 145, 147, 149, 151, 153, 155, 157, 159]
def kcls (c : Nat) : String := match Nat.beq c 16 with
  | true => "java/lang/String"
  | false => (classes.getD c ("", fun _ => ("", "", "", false), 0)).1
def rcd (t : Option FieldType) : Nat := match t with
  | none => 0
  | some (.object C) => (match decide (C = "java/lang/String") with
    | true => 18
    | false => 2 + (classes.findIdx (fun q => decide (q.1 = C))))
  | some _ => 1
def ciName : MethodName := ⟨"java/lang/String", "checkIndex", "(II)V"⟩
def fOK (own : String) (e : Nat × Nat × Nat × Bool) (p : Nat × Nat) : Bool := match Nat.beq e.2.1 16 with
  | true => (match e.2.2.1 with
    | 0 => inT (.fieldLink own e.1 "java/lang/String" "value" "[B") p && !e.2.2.2
    | _ => inT (.fieldLink own e.1 "java/lang/String" "coder" "B") p && e.2.2.2)
  | false => (match classes[e.2.1]? with
    | some q => Nat.blt e.2.2.1 q.2.2 && inT (.fieldLink own e.1 q.1 (q.2.1 e.2.2.1).2.1 (q.2.1 e.2.2.1).2.2.1) p && decide ((q.2.1 e.2.2.1).1 = q.1) && (isIT (ftk e.2.1 e.2.2.1) == e.2.2.2) && decide (parseFieldDescriptor (q.2.1 e.2.2.1).2.2.1 = some (ftk e.2.1 e.2.2.1))
    | none => false)
def cOK (own : String) (e : Nat × Nat × Nat × Nat × Nat × Nat × Nat) (p : Nat × Nat) : Bool := match e.2.1 with
  | 4 => inT (.methodLink own e.1 objectInit) p
  | 5 => inT (.methodLink own e.1 arraycopyName) p
  | 6 => inT (.methodLink own e.1 ciName) p
  | 7 => inT (.methodLink own e.1 Lib.Math.max.name) p
  | 8 => inT (.methodLink own e.1 Lib.Math.min.name) p
  | 3 => (match mt e.2.2.1 with
    | some r => inT (.methodLinkNest own e.1 r.1 "StencilHouse") p && decide ((parseMethodDescriptor r.1.desc).map (fun d => d.parameters.length) = some e.2.2.2.1) && (r.2.2.1 == e.2.2.2.2.1) && (r.2.2.2.2.1 == 2)
    | none => false)
  | w => (match mt e.2.2.1 with
    | some r => inT (.methodLink own e.1 r.1) p && decide ((parseMethodDescriptor r.1.desc).map (fun d => d.parameters.length) = some e.2.2.2.1) && (r.2.2.1 == e.2.2.2.2.1) && (rcd r.2.2.2.1 == e.2.2.2.2.2.1) && (match w with
      | 1 => r.2.2.2.2.1 == 0
      | 2 => r.2.2.2.2.1 == 2
      | w => Nat.ble 10 w && (r.2.2.2.2.1 == 1) && decide (kcls (w - 10) = r.1.cls) && (Nat.blt (w - 10) 11 || w == 26))
    | none => false)
def stTx : List String := ["size", "slip", "sheet", "wear", "spray", "flip", "turn", "slide", "patch", "wash", "row", "top", "bare"]
def stK (own : String) (k : Nat) (v : AV) : Bool := match v with
  | .inr (.inr (.inl q)) => decide (own = "StencilHouse$Reader") && Nat.beq q.1 16 && Nat.blt q.2 13 && (stIx.getD q.2 0 == k)
  | _ => false
def kOK (own : String) (e : Nat × AV) (p : Nat × Nat) : Bool := match e.2 with
  | .inl x => inT (.constant own e.1 x) p
  | .inr (.inl x) => inT (.constantLong own e.1 x) p
  | v => stK own e.1 v
def nOK (own : String) (e : Nat × Nat) (ps : List (Nat × Nat)) : Bool := match classes[e.2]? with
  | some q => inTs [.classLink own e.1 q.1, .instantiable q.1 q.2.2, .initialized q.1] ps
  | none => false
def aOK (own : String) (e : Nat × FieldType) (p : Nat × Nat) : Bool := match e.2 with
  | .object C => inT (.classLink own e.1 C) p && decide (C ∈ ["StencilHouse$Shop", "StencilHouse$Day", "StencilHouse$Picture", "StencilHouse$Marks", "StencilHouse$Told"])
  | _ => false
def stN : List String := ["FIRST_WORD_OF_SORT", "NUMBERS_OF_WORD", "LEAST", "GREATEST"]
def sOK (own : String) (e : Nat × AV) (p : Nat × Nat) : Bool := match e.2 with
  | .inl x => inT (.fieldLink own e.1 "java/lang/String" "COMPACT_STRINGS" "Z") p && decide (x = 1)
  | .inr (.inr (.inl q)) => inT (.fieldLink own e.1 "StencilHouse$Reader" (stN.getD (q.1 - 12) "") "[I") p && Nat.ble 12 q.1 && Nat.ble q.1 15 && (q.2 == 0)
  | _ => false
def all2 {α β : Type} (f : α → β → Bool) : List α → List β → Bool
  | [], _ => true
  | a :: as, b :: bs => f a b && all2 f as bs
  | _, _ => false
theorem all2_mem {α β : Type} {f : α → β → Bool} : ∀ {as : List α} {bs : List β}, all2 f as bs = true → ∀ a ∈ as, ∃ b, f a b = true := by
  intro as
  induction as with
  | nil => intro bs _ a ha; cases ha
  | cons x as ih =>
    intro bs h a ha
    cases bs with
    | nil => simp [all2] at h
    | cons b bs =>
      simp only [all2, Bool.and_eq_true] at h
      rcases List.mem_cons.mp ha with rfl | h1
      · exact ⟨b, h.1⟩
      · exact ih h.2 a h1
def LOK (own : String) (R : LK) : Prop := (∀ e ∈ R.1, ∃ p, fOK own e p = true) ∧ (∀ e ∈ R.2.1, ∃ p, cOK own e p = true) ∧ (∀ e ∈ R.2.2.1, ∃ p, kOK own e p = true) ∧ (∀ e ∈ R.2.2.2.1, ∃ p, nOK own e p = true) ∧ (∀ e ∈ R.2.2.2.2.1, ∃ p, aOK own e p = true) ∧ (∀ e ∈ R.2.2.2.2.2, ∃ p, sOK own e p = true)
theorem LOK_of {own : String} {R : LK} (a b c : List (Nat × Nat)) (d : List (List (Nat × Nat))) (e f : List (Nat × Nat)) (h1 : all2 (fOK own) R.1 a = true) (h2 : all2 (cOK own) R.2.1 b = true) (h3 : all2 (kOK own) R.2.2.1 c = true) (h4 : all2 (nOK own) R.2.2.2.1 d = true) (h5 : all2 (aOK own) R.2.2.2.2.1 e = true) (h6 : all2 (sOK own) R.2.2.2.2.2 f = true) : LOK own R :=
  ⟨all2_mem h1, all2_mem h2, all2_mem h3, all2_mem h4, all2_mem h5, all2_mem h6⟩
set_option maxRecDepth 100000 in
theorem lok_0 : LOK "StencilHouse$Day" lk_0 := LOK_of [(0, 118), (0, 122)] [(0, 117), (2, 133)] [] [] [] [] (by decide +kernel) (by decide +kernel) (by decide +kernel) (by decide +kernel) (by decide +kernel) (by decide +kernel)
set_option maxRecDepth 100000 in
theorem lok_1 : LOK "StencilHouse$Figures" lk_1 := LOK_of [(0, 66), (0, 79), (0, 63), (0, 58), (0, 52), (0, 74), (0, 85)] [(3, 30), (3, 33), (3, 105), (3, 109), (3, 113), (3, 121), (3, 134), (3, 131), (3, 137), (3, 149), (3, 152), (4, 9), (4, 16), (4, 19), (4, 33), (4, 37), (4, 41), (4, 61), (4, 58), (4, 69), (4, 70), (4, 74), (4, 128)] [] [] [] [] (by decide +kernel) (by decide +kernel) (by decide +kernel) (by decide +kernel) (by decide +kernel) (by decide +kernel)
set_option maxRecDepth 100000 in
theorem lok_2 : LOK "StencilHouse$Marks" lk_2 := LOK_of [(0, 143), (0, 147), (0, 150), (0, 153)] [(0, 142), (2, 143)] [] [] [] [] (by decide +kernel) (by decide +kernel) (by decide +kernel) (by decide +kernel) (by decide +kernel) (by decide +kernel)
set_option maxRecDepth 100000 in
theorem lok_3 : LOK "StencilHouse$Orders" lk_3 := LOK_of [(1, 95), (1, 96), (1, 97), (1, 98), (1, 99), (1, 100), (1, 101), (0, 67), (0, 80), (0, 83), (0, 145), (0, 148), (0, 151), (0, 53), (0, 154), (0, 59)] [(1, 94), (3, 68), (3, 69), (3, 73), (3, 47), (3, 56), (3, 60), (3, 64), (3, 77), (3, 85), (3, 89), (3, 90), (3, 81), (4, 94), (3, 187), (3, 191), (3, 204), (3, 208), (3, 212), (3, 216), (3, 195), (3, 196), (3, 200), (3, 220)] [] [] [] [] (by decide +kernel) (by decide +kernel) (by decide +kernel) (by decide +kernel) (by decide +kernel) (by decide +kernel)
set_option maxRecDepth 100000 in
theorem lok_4 : LOK "StencilHouse$Picture" lk_4 := LOK_of [(0, 133), (0, 55), (0, 48)] [(0, 132), (2, 138), (3, 51), (3, 55), (4, 106)] [] [] [] [] (by decide +kernel) (by decide +kernel) (by decide +kernel) (by decide +kernel) (by decide +kernel) (by decide +kernel)
set_option maxRecDepth 100000 in
theorem lok_5 : LOK "StencilHouse$Reader" lk_5 := LOK_of [(1, 1), (1, 3), (1, 5), (1, 7), (1, 9), (1, 11), (1, 13), (1, 14), (1, 15), (1, 16), (1, 17), (0, 223), (0, 225), (0, 120), (0, 144), (0, 69), (0, 227), (0, 50), (0, 57), (0, 62), (0, 77), (0, 134), (0, 73)] [(0, 204), (0, 206), (0, 208), (0, 210), (0, 212), (0, 215), (1, 161), (1, 173), (1, 201), (2, 82), (2, 86), (2, 94), (1, 165), (1, 169), (1, 205), (2, 39), (2, 43), (2, 47), (2, 50), (2, 58), (1, 211), (1, 227), (2, 62), (2, 66), (2, 70), (2, 74), (2, 78), (2, 90)] [(1, 214), (1, 215), (1, 216), (1, 217), (1, 218), (1, 219), (1, 220), (1, 221), (1, 222), (1, 223), (1, 224), (1, 225), (1, 226)] [[(0, 205), (0, 42), (0, 3)], [(0, 207), (0, 113), (0, 4)], [(0, 209), (0, 128), (0, 5)], [(0, 211), (0, 138), (0, 6)], [(0, 213), (0, 214), (0, 8)]] [(0, 205), (0, 207), (0, 209), (0, 211)] [(2, 48), (1, 209), (2, 54), (2, 56)] (by decide +kernel) (by decide +kernel) (by decide +kernel) (by decide +kernel) (by decide +kernel) (by decide +kernel)
set_option maxRecDepth 100000 in
theorem lok_6 : LOK "StencilHouse$Shop" lk_6 := LOK_of [(0, 47), (0, 54), (0, 60), (0, 64), (0, 70), (0, 75), (0, 78), (0, 82), (0, 86), (0, 87), (0, 88)] [(0, 46), (2, 126), (2, 98), (2, 114), (2, 106), (2, 110), (2, 102), (2, 161)] [] [] [] [] (by decide +kernel) (by decide +kernel) (by decide +kernel) (by decide +kernel) (by decide +kernel) (by decide +kernel)
set_option maxRecDepth 100000 in
theorem lok_7 : LOK "StencilHouse$Tokens" lk_7 := LOK_of [(0, 219), (0, 220), (0, 221), (0, 222), (0, 224), (0, 226)] [(0, 218), (1, 177), (1, 180), (1, 184), (1, 187), (1, 190), (1, 194), (1, 197), (1, 231), (2, 1)] [] [] [] [] (by decide +kernel) (by decide +kernel) (by decide +kernel) (by decide +kernel) (by decide +kernel) (by decide +kernel)
set_option maxRecDepth 100000 in
theorem lok_8 : LOK "StencilHouse$Told" lk_8 := LOK_of [(0, 165), (0, 167), (0, 169), (0, 171), (0, 173), (0, 175), (0, 176), (0, 177), (0, 178), (1, 2), (1, 4), (1, 6), (1, 8)] [(0, 33), (0, 43), (0, 114), (0, 129), (0, 139), (4, 154), (2, 122), (2, 129), (2, 134), (2, 139), (1, 153)] [] [[(0, 34), (0, 42), (0, 3)], [(0, 36), (0, 113), (0, 4)], [(0, 38), (0, 128), (0, 5)], [(0, 40), (0, 138), (0, 6)]] [(0, 34), (0, 36), (0, 38), (0, 40)] [] (by decide +kernel) (by decide +kernel) (by decide +kernel) (by decide +kernel) (by decide +kernel) (by decide +kernel)
set_option maxRecDepth 100000 in
theorem lok_9 : LOK "StencilHouse$Wall" lk_9 := LOK_of [(1, 49), (1, 50), (1, 51), (1, 52), (1, 53), (1, 54), (1, 55), (1, 56), (1, 57), (1, 58), (1, 60), (1, 62), (0, 71), (0, 119), (0, 65), (0, 76), (0, 51)] [(1, 46), (1, 48), (2, 189), (2, 190), (3, 229), (3, 233), (3, 238), (2, 194), (2, 204), (2, 205), (2, 222), (2, 226), (2, 230), (2, 234), (2, 198), (2, 209), (2, 218), (2, 238), (2, 213), (2, 214), (3, 10), (3, 14), (3, 18)] [(3, 237)] [[(1, 47), (0, 42), (0, 3)]] [(1, 47)] [] (by decide +kernel) (by decide +kernel) (by decide +kernel) (by decide +kernel) (by decide +kernel) (by decide +kernel)
set_option maxRecDepth 100000 in
theorem lok_10 : LOK "StencilHouse" lk_10 := LOK_of [(1, 117), (1, 118), (1, 119), (1, 120), (1, 121), (0, 168), (0, 170), (0, 172), (0, 166), (1, 10), (1, 12), (0, 49), (0, 56), (0, 61), (0, 68), (0, 121), (0, 72), (0, 81), (0, 146), (0, 155), (0, 149), (0, 152), (0, 84), (1, 59), (1, 61), (1, 63), (0, 174)] [(0, 25), (0, 30), (0, 201), (1, 43), (1, 91), (1, 137), (1, 149), (1, 157), (2, 118), (2, 153), (2, 157), (2, 169), (2, 173), (2, 181), (2, 185), (3, 6), (3, 26), (3, 27), (3, 34), (3, 39), (3, 43), (3, 94), (3, 102), (3, 118), (3, 128), (3, 140), (3, 145), (3, 146), (3, 153), (3, 156), (3, 163), (3, 170), (3, 175), (3, 183), (3, 225), (4, 6), (4, 10), (4, 13), (4, 20), (4, 23), (4, 30), (4, 34), (4, 38), (4, 44), (4, 47), (4, 48), (4, 49), (4, 52), (4, 55), (4, 62), (4, 63), (4, 66), (4, 71), (4, 85), (4, 90), (4, 102), (4, 110), (4, 118), (4, 119), (4, 120), (4, 125), (4, 133), (4, 137), (4, 138), (4, 150)] [] [[(0, 28), (0, 29), (0, 2)], [(0, 199), (0, 200), (0, 7)], [(1, 41), (1, 42), (0, 9)], [(1, 89), (1, 90), (0, 10)]] [(0, 28)] [] (by decide +kernel) (by decide +kernel) (by decide +kernel) (by decide +kernel) (by decide +kernel) (by decide +kernel)
set_option maxRecDepth 100000 in
theorem lok_11 : LOK "StencilHouseModel" lk_11 := LOK_of [(4, 167), (4, 168), (4, 169), (4, 170), (4, 171), (4, 172), (4, 173), (4, 174), (4, 175), (4, 185), (4, 186), (4, 195), (4, 196), (4, 197), (4, 198), (4, 199), (4, 200), (4, 205), (4, 206), (4, 207), (4, 208), (4, 214), (4, 216), (4, 166), (4, 176), (4, 177), (4, 178), (4, 181), (4, 179), (4, 180), (4, 182), (4, 183), (4, 184), (4, 188), (4, 187), (4, 189), (4, 190), (4, 191), (4, 192), (4, 193), (4, 194), (4, 201), (4, 202), (4, 203), (4, 204), (4, 209), (4, 210), (4, 211), (4, 212), (4, 213), (4, 215)] [(4, 164), (5, 227), (7, 149), (5, 93), (5, 85), (5, 112), (5, 151), (5, 137), (5, 108), (5, 141), (5, 133), (5, 144), (5, 129), (5, 155), (5, 159), (5, 166), (5, 176), (5, 124), (5, 162), (5, 180), (5, 185), (5, 120), (5, 116), (5, 191), (5, 199), (5, 100), (5, 104), (5, 195), (5, 215), (5, 219), (5, 223), (5, 230), (5, 238), (6, 2), (5, 234), (5, 211), (6, 6), (6, 14), (6, 18), (6, 22), (6, 58), (6, 54), (6, 62), (6, 70), (6, 46), (6, 50), (6, 66), (6, 74), (6, 78), (6, 42), (6, 38), (6, 30), (6, 34), (6, 90), (6, 94), (6, 86), (6, 102), (6, 121), (6, 133), (6, 117), (6, 125), (6, 129), (6, 137), (6, 109), (6, 113), (6, 145), (6, 153), (6, 161), (6, 164), (6, 168), (6, 176), (6, 180), (6, 195), (6, 199), (6, 203), (6, 235), (6, 223), (6, 215), (6, 219), (6, 227), (6, 231), (7, 7), (6, 211), (6, 239), (7, 3), (7, 19), (7, 15), (7, 32), (7, 28), (7, 36), (7, 40), (7, 72), (7, 81), (7, 89), (7, 48), (7, 52), (7, 56), (7, 60), (7, 64), (7, 68), (7, 76), (7, 85), (7, 105), (7, 113), (7, 129), (7, 133), (7, 145)] [(4, 165), (5, 128), (5, 148), (5, 149), (5, 150), (5, 170), (5, 171), (5, 172), (5, 173), (5, 174), (5, 175), (5, 184), (5, 189), (5, 190), (7, 23), (7, 80)] [] [] [] (by decide +kernel) (by decide +kernel) (by decide +kernel) (by decide +kernel) (by decide +kernel) (by decide +kernel)
set_option maxRecDepth 100000 in
theorem lok_12 : LOK "java/lang/Integer" lk_12 := LOK_of [] [] [(2, 201), (2, 202), (2, 203)] [] [] [] (by decide +kernel) (by decide +kernel) (by decide +kernel) (by decide +kernel) (by decide +kernel) (by decide +kernel)
set_option maxRecDepth 100000 in
theorem lok_13 : LOK "java/lang/String" lk_13 := LOK_of [(7, 156), (7, 157)] [(1, 235), (2, 5), (2, 9)] [] [] [] [(1, 239)] (by decide +kernel) (by decide +kernel) (by decide +kernel) (by decide +kernel) (by decide +kernel) (by decide +kernel)
set_option maxRecDepth 100000 in
theorem lok_14 : LOK "java/lang/StringLatin1" lk_14 := LOK_of [] [(2, 12)] [] [] [] [] (by decide +kernel) (by decide +kernel) (by decide +kernel) (by decide +kernel) (by decide +kernel) (by decide +kernel)
set_option maxRecDepth 100000 in
theorem lok_15 : LOK "StencilHouseLaw" lk_15 := LOK_of [] [(0, 22), (4, 161), (1, 133), (5, 81), (1, 141), (5, 89), (1, 145), (5, 96), (2, 145), (5, 203), (2, 149), (5, 207), (2, 165), (6, 10), (2, 177), (6, 26), (3, 2), (6, 82), (3, 22), (6, 98), (3, 35), (6, 105), (3, 98), (6, 141), (3, 114), (6, 149), (3, 124), (6, 157), (3, 141), (6, 172), (3, 159), (6, 183), (3, 166), (6, 187), (3, 171), (6, 191), (3, 179), (6, 207), (3, 221), (7, 11), (4, 2), (7, 24), (4, 26), (7, 44), (4, 77), (7, 93), (4, 81), (7, 97), (4, 86), (7, 101), (4, 98), (7, 109), (4, 114), (7, 117), (4, 121), (7, 121), (4, 129), (7, 125), (4, 142), (7, 137), (4, 146), (7, 141), (4, 155), (7, 152)] [] [[(0, 20), (0, 21), (0, 1)], [(4, 159), (4, 160), (0, 11)]] [] [] (by decide +kernel) (by decide +kernel) (by decide +kernel) (by decide +kernel) (by decide +kernel) (by decide +kernel)
theorem mlok_0 : ∀ r ∈ mtl_0, LOK r.1.cls r.2.2.2.2.2 := List.forall_mem_cons.mpr ⟨lok_0, List.forall_mem_cons.mpr ⟨lok_0, List.forall_mem_cons.mpr ⟨lok_0, List.forall_mem_cons.mpr ⟨lok_0, List.forall_mem_cons.mpr ⟨lok_1, List.forall_mem_cons.mpr ⟨lok_1, List.forall_mem_cons.mpr ⟨lok_1, List.forall_mem_cons.mpr ⟨lok_1, List.forall_mem_cons.mpr ⟨lok_1, List.forall_mem_cons.mpr ⟨lok_1, List.forall_mem_cons.mpr ⟨lok_1, List.forall_mem_cons.mpr ⟨lok_1, List.forall_mem_cons.mpr ⟨lok_1, List.forall_mem_cons.mpr ⟨lok_1, List.forall_mem_cons.mpr ⟨lok_1, List.forall_mem_cons.mpr ⟨lok_1, List.forall_mem_cons.mpr ⟨lok_1, List.forall_mem_cons.mpr ⟨lok_1, List.forall_mem_cons.mpr ⟨lok_1, List.forall_mem_cons.mpr ⟨lok_1, fun _ h => absurd h List.not_mem_nil⟩⟩⟩⟩⟩⟩⟩⟩⟩⟩⟩⟩⟩⟩⟩⟩⟩⟩⟩⟩
theorem mlok_1 : ∀ r ∈ mtl_1, LOK r.1.cls r.2.2.2.2.2 := List.forall_mem_cons.mpr ⟨lok_1, List.forall_mem_cons.mpr ⟨lok_1, List.forall_mem_cons.mpr ⟨lok_1, List.forall_mem_cons.mpr ⟨lok_1, List.forall_mem_cons.mpr ⟨lok_1, List.forall_mem_cons.mpr ⟨lok_1, List.forall_mem_cons.mpr ⟨lok_1, List.forall_mem_cons.mpr ⟨lok_1, List.forall_mem_cons.mpr ⟨lok_1, List.forall_mem_cons.mpr ⟨lok_1, List.forall_mem_cons.mpr ⟨lok_1, List.forall_mem_cons.mpr ⟨lok_1, List.forall_mem_cons.mpr ⟨lok_1, List.forall_mem_cons.mpr ⟨lok_1, List.forall_mem_cons.mpr ⟨lok_1, List.forall_mem_cons.mpr ⟨lok_1, List.forall_mem_cons.mpr ⟨lok_1, List.forall_mem_cons.mpr ⟨lok_2, List.forall_mem_cons.mpr ⟨lok_2, List.forall_mem_cons.mpr ⟨lok_2, fun _ h => absurd h List.not_mem_nil⟩⟩⟩⟩⟩⟩⟩⟩⟩⟩⟩⟩⟩⟩⟩⟩⟩⟩⟩⟩
theorem mlok_2 : ∀ r ∈ mtl_2, LOK r.1.cls r.2.2.2.2.2 := List.forall_mem_cons.mpr ⟨lok_3, List.forall_mem_cons.mpr ⟨lok_3, List.forall_mem_cons.mpr ⟨lok_3, List.forall_mem_cons.mpr ⟨lok_3, List.forall_mem_cons.mpr ⟨lok_3, List.forall_mem_cons.mpr ⟨lok_3, List.forall_mem_cons.mpr ⟨lok_3, List.forall_mem_cons.mpr ⟨lok_3, List.forall_mem_cons.mpr ⟨lok_3, List.forall_mem_cons.mpr ⟨lok_3, List.forall_mem_cons.mpr ⟨lok_3, List.forall_mem_cons.mpr ⟨lok_3, List.forall_mem_cons.mpr ⟨lok_3, List.forall_mem_cons.mpr ⟨lok_3, List.forall_mem_cons.mpr ⟨lok_3, List.forall_mem_cons.mpr ⟨lok_3, List.forall_mem_cons.mpr ⟨lok_3, List.forall_mem_cons.mpr ⟨lok_3, List.forall_mem_cons.mpr ⟨lok_3, List.forall_mem_cons.mpr ⟨lok_3, fun _ h => absurd h List.not_mem_nil⟩⟩⟩⟩⟩⟩⟩⟩⟩⟩⟩⟩⟩⟩⟩⟩⟩⟩⟩⟩
theorem mlok_3 : ∀ r ∈ mtl_3, LOK r.1.cls r.2.2.2.2.2 := List.forall_mem_cons.mpr ⟨lok_3, List.forall_mem_cons.mpr ⟨lok_4, List.forall_mem_cons.mpr ⟨lok_4, List.forall_mem_cons.mpr ⟨lok_4, List.forall_mem_cons.mpr ⟨lok_4, List.forall_mem_cons.mpr ⟨lok_4, List.forall_mem_cons.mpr ⟨lok_4, List.forall_mem_cons.mpr ⟨lok_4, List.forall_mem_cons.mpr ⟨lok_4, List.forall_mem_cons.mpr ⟨lok_4, List.forall_mem_cons.mpr ⟨lok_5, List.forall_mem_cons.mpr ⟨lok_5, List.forall_mem_cons.mpr ⟨lok_5, List.forall_mem_cons.mpr ⟨lok_5, List.forall_mem_cons.mpr ⟨lok_5, List.forall_mem_cons.mpr ⟨lok_5, List.forall_mem_cons.mpr ⟨lok_5, List.forall_mem_cons.mpr ⟨lok_5, List.forall_mem_cons.mpr ⟨lok_5, List.forall_mem_cons.mpr ⟨lok_5, fun _ h => absurd h List.not_mem_nil⟩⟩⟩⟩⟩⟩⟩⟩⟩⟩⟩⟩⟩⟩⟩⟩⟩⟩⟩⟩
theorem mlok_4 : ∀ r ∈ mtl_4, LOK r.1.cls r.2.2.2.2.2 := List.forall_mem_cons.mpr ⟨lok_5, List.forall_mem_cons.mpr ⟨lok_5, List.forall_mem_cons.mpr ⟨lok_5, List.forall_mem_cons.mpr ⟨lok_5, List.forall_mem_cons.mpr ⟨lok_5, List.forall_mem_cons.mpr ⟨lok_6, List.forall_mem_cons.mpr ⟨lok_6, List.forall_mem_cons.mpr ⟨lok_6, List.forall_mem_cons.mpr ⟨lok_6, List.forall_mem_cons.mpr ⟨lok_6, List.forall_mem_cons.mpr ⟨lok_6, List.forall_mem_cons.mpr ⟨lok_6, List.forall_mem_cons.mpr ⟨lok_6, List.forall_mem_cons.mpr ⟨lok_6, List.forall_mem_cons.mpr ⟨lok_6, List.forall_mem_cons.mpr ⟨lok_6, List.forall_mem_cons.mpr ⟨lok_6, List.forall_mem_cons.mpr ⟨lok_6, List.forall_mem_cons.mpr ⟨lok_6, List.forall_mem_cons.mpr ⟨lok_6, fun _ h => absurd h List.not_mem_nil⟩⟩⟩⟩⟩⟩⟩⟩⟩⟩⟩⟩⟩⟩⟩⟩⟩⟩⟩⟩
theorem mlok_5 : ∀ r ∈ mtl_5, LOK r.1.cls r.2.2.2.2.2 := List.forall_mem_cons.mpr ⟨lok_6, List.forall_mem_cons.mpr ⟨lok_6, List.forall_mem_cons.mpr ⟨lok_6, List.forall_mem_cons.mpr ⟨lok_6, List.forall_mem_cons.mpr ⟨lok_6, List.forall_mem_cons.mpr ⟨lok_7, List.forall_mem_cons.mpr ⟨lok_7, List.forall_mem_cons.mpr ⟨lok_7, List.forall_mem_cons.mpr ⟨lok_7, List.forall_mem_cons.mpr ⟨lok_7, List.forall_mem_cons.mpr ⟨lok_7, List.forall_mem_cons.mpr ⟨lok_7, List.forall_mem_cons.mpr ⟨lok_7, List.forall_mem_cons.mpr ⟨lok_7, List.forall_mem_cons.mpr ⟨lok_8, List.forall_mem_cons.mpr ⟨lok_8, List.forall_mem_cons.mpr ⟨lok_8, List.forall_mem_cons.mpr ⟨lok_8, List.forall_mem_cons.mpr ⟨lok_8, List.forall_mem_cons.mpr ⟨lok_8, fun _ h => absurd h List.not_mem_nil⟩⟩⟩⟩⟩⟩⟩⟩⟩⟩⟩⟩⟩⟩⟩⟩⟩⟩⟩⟩
theorem mlok_6 : ∀ r ∈ mtl_6, LOK r.1.cls r.2.2.2.2.2 := List.forall_mem_cons.mpr ⟨lok_8, List.forall_mem_cons.mpr ⟨lok_8, List.forall_mem_cons.mpr ⟨lok_8, List.forall_mem_cons.mpr ⟨lok_8, List.forall_mem_cons.mpr ⟨lok_9, List.forall_mem_cons.mpr ⟨lok_9, List.forall_mem_cons.mpr ⟨lok_9, List.forall_mem_cons.mpr ⟨lok_9, List.forall_mem_cons.mpr ⟨lok_9, List.forall_mem_cons.mpr ⟨lok_9, List.forall_mem_cons.mpr ⟨lok_9, List.forall_mem_cons.mpr ⟨lok_9, List.forall_mem_cons.mpr ⟨lok_9, List.forall_mem_cons.mpr ⟨lok_9, List.forall_mem_cons.mpr ⟨lok_9, List.forall_mem_cons.mpr ⟨lok_9, List.forall_mem_cons.mpr ⟨lok_9, List.forall_mem_cons.mpr ⟨lok_9, List.forall_mem_cons.mpr ⟨lok_9, List.forall_mem_cons.mpr ⟨lok_9, fun _ h => absurd h List.not_mem_nil⟩⟩⟩⟩⟩⟩⟩⟩⟩⟩⟩⟩⟩⟩⟩⟩⟩⟩⟩⟩
theorem mlok_7 : ∀ r ∈ mtl_7, LOK r.1.cls r.2.2.2.2.2 := List.forall_mem_cons.mpr ⟨lok_9, List.forall_mem_cons.mpr ⟨lok_9, List.forall_mem_cons.mpr ⟨lok_9, List.forall_mem_cons.mpr ⟨lok_10, List.forall_mem_cons.mpr ⟨lok_10, List.forall_mem_cons.mpr ⟨lok_10, List.forall_mem_cons.mpr ⟨lok_10, List.forall_mem_cons.mpr ⟨lok_10, List.forall_mem_cons.mpr ⟨lok_10, List.forall_mem_cons.mpr ⟨lok_10, List.forall_mem_cons.mpr ⟨lok_10, List.forall_mem_cons.mpr ⟨lok_10, List.forall_mem_cons.mpr ⟨lok_10, List.forall_mem_cons.mpr ⟨lok_10, List.forall_mem_cons.mpr ⟨lok_10, List.forall_mem_cons.mpr ⟨lok_10, List.forall_mem_cons.mpr ⟨lok_10, List.forall_mem_cons.mpr ⟨lok_10, List.forall_mem_cons.mpr ⟨lok_10, List.forall_mem_cons.mpr ⟨lok_10, fun _ h => absurd h List.not_mem_nil⟩⟩⟩⟩⟩⟩⟩⟩⟩⟩⟩⟩⟩⟩⟩⟩⟩⟩⟩⟩
theorem mlok_8 : ∀ r ∈ mtl_8, LOK r.1.cls r.2.2.2.2.2 := List.forall_mem_cons.mpr ⟨lok_10, List.forall_mem_cons.mpr ⟨lok_10, List.forall_mem_cons.mpr ⟨lok_10, List.forall_mem_cons.mpr ⟨lok_10, List.forall_mem_cons.mpr ⟨lok_10, List.forall_mem_cons.mpr ⟨lok_10, List.forall_mem_cons.mpr ⟨lok_10, List.forall_mem_cons.mpr ⟨lok_10, List.forall_mem_cons.mpr ⟨lok_10, List.forall_mem_cons.mpr ⟨lok_10, List.forall_mem_cons.mpr ⟨lok_10, List.forall_mem_cons.mpr ⟨lok_10, List.forall_mem_cons.mpr ⟨lok_10, List.forall_mem_cons.mpr ⟨lok_10, List.forall_mem_cons.mpr ⟨lok_10, List.forall_mem_cons.mpr ⟨lok_11, List.forall_mem_cons.mpr ⟨lok_11, List.forall_mem_cons.mpr ⟨lok_11, List.forall_mem_cons.mpr ⟨lok_11, List.forall_mem_cons.mpr ⟨lok_11, fun _ h => absurd h List.not_mem_nil⟩⟩⟩⟩⟩⟩⟩⟩⟩⟩⟩⟩⟩⟩⟩⟩⟩⟩⟩⟩
theorem mlok_9 : ∀ r ∈ mtl_9, LOK r.1.cls r.2.2.2.2.2 := List.forall_mem_cons.mpr ⟨lok_11, List.forall_mem_cons.mpr ⟨lok_11, List.forall_mem_cons.mpr ⟨lok_11, List.forall_mem_cons.mpr ⟨lok_11, List.forall_mem_cons.mpr ⟨lok_11, List.forall_mem_cons.mpr ⟨lok_11, List.forall_mem_cons.mpr ⟨lok_11, List.forall_mem_cons.mpr ⟨lok_11, List.forall_mem_cons.mpr ⟨lok_11, List.forall_mem_cons.mpr ⟨lok_11, List.forall_mem_cons.mpr ⟨lok_11, List.forall_mem_cons.mpr ⟨lok_11, List.forall_mem_cons.mpr ⟨lok_11, List.forall_mem_cons.mpr ⟨lok_11, List.forall_mem_cons.mpr ⟨lok_11, List.forall_mem_cons.mpr ⟨lok_11, List.forall_mem_cons.mpr ⟨lok_11, List.forall_mem_cons.mpr ⟨lok_11, List.forall_mem_cons.mpr ⟨lok_11, List.forall_mem_cons.mpr ⟨lok_11, fun _ h => absurd h List.not_mem_nil⟩⟩⟩⟩⟩⟩⟩⟩⟩⟩⟩⟩⟩⟩⟩⟩⟩⟩⟩⟩
theorem mlok_10 : ∀ r ∈ mtl_10, LOK r.1.cls r.2.2.2.2.2 := List.forall_mem_cons.mpr ⟨lok_11, List.forall_mem_cons.mpr ⟨lok_11, List.forall_mem_cons.mpr ⟨lok_11, List.forall_mem_cons.mpr ⟨lok_11, List.forall_mem_cons.mpr ⟨lok_11, List.forall_mem_cons.mpr ⟨lok_11, List.forall_mem_cons.mpr ⟨lok_11, List.forall_mem_cons.mpr ⟨lok_11, List.forall_mem_cons.mpr ⟨lok_11, List.forall_mem_cons.mpr ⟨lok_11, List.forall_mem_cons.mpr ⟨lok_11, List.forall_mem_cons.mpr ⟨lok_11, List.forall_mem_cons.mpr ⟨lok_11, List.forall_mem_cons.mpr ⟨lok_11, List.forall_mem_cons.mpr ⟨lok_11, List.forall_mem_cons.mpr ⟨lok_11, List.forall_mem_cons.mpr ⟨lok_11, List.forall_mem_cons.mpr ⟨lok_11, List.forall_mem_cons.mpr ⟨lok_11, List.forall_mem_cons.mpr ⟨lok_11, fun _ h => absurd h List.not_mem_nil⟩⟩⟩⟩⟩⟩⟩⟩⟩⟩⟩⟩⟩⟩⟩⟩⟩⟩⟩⟩
theorem mlok_11 : ∀ r ∈ mtl_11, LOK r.1.cls r.2.2.2.2.2 := List.forall_mem_cons.mpr ⟨lok_11, List.forall_mem_cons.mpr ⟨lok_11, List.forall_mem_cons.mpr ⟨lok_11, List.forall_mem_cons.mpr ⟨lok_11, List.forall_mem_cons.mpr ⟨lok_11, List.forall_mem_cons.mpr ⟨lok_11, List.forall_mem_cons.mpr ⟨lok_11, List.forall_mem_cons.mpr ⟨lok_11, List.forall_mem_cons.mpr ⟨lok_11, List.forall_mem_cons.mpr ⟨lok_11, List.forall_mem_cons.mpr ⟨lok_11, List.forall_mem_cons.mpr ⟨lok_11, List.forall_mem_cons.mpr ⟨lok_11, List.forall_mem_cons.mpr ⟨lok_11, List.forall_mem_cons.mpr ⟨lok_11, List.forall_mem_cons.mpr ⟨lok_11, List.forall_mem_cons.mpr ⟨lok_11, List.forall_mem_cons.mpr ⟨lok_11, List.forall_mem_cons.mpr ⟨lok_11, List.forall_mem_cons.mpr ⟨lok_11, fun _ h => absurd h List.not_mem_nil⟩⟩⟩⟩⟩⟩⟩⟩⟩⟩⟩⟩⟩⟩⟩⟩⟩⟩⟩⟩
theorem mlok_12 : ∀ r ∈ mtl_12, LOK r.1.cls r.2.2.2.2.2 := List.forall_mem_cons.mpr ⟨lok_11, List.forall_mem_cons.mpr ⟨lok_11, List.forall_mem_cons.mpr ⟨lok_11, List.forall_mem_cons.mpr ⟨lok_11, List.forall_mem_cons.mpr ⟨lok_11, List.forall_mem_cons.mpr ⟨lok_11, List.forall_mem_cons.mpr ⟨lok_11, List.forall_mem_cons.mpr ⟨lok_11, List.forall_mem_cons.mpr ⟨lok_11, List.forall_mem_cons.mpr ⟨lok_11, List.forall_mem_cons.mpr ⟨lok_11, List.forall_mem_cons.mpr ⟨lok_11, List.forall_mem_cons.mpr ⟨lok_11, List.forall_mem_cons.mpr ⟨lok_11, List.forall_mem_cons.mpr ⟨lok_11, List.forall_mem_cons.mpr ⟨lok_11, List.forall_mem_cons.mpr ⟨lok_11, List.forall_mem_cons.mpr ⟨lok_11, List.forall_mem_cons.mpr ⟨lok_11, List.forall_mem_cons.mpr ⟨lok_11, fun _ h => absurd h List.not_mem_nil⟩⟩⟩⟩⟩⟩⟩⟩⟩⟩⟩⟩⟩⟩⟩⟩⟩⟩⟩⟩
theorem mlok_13 : ∀ r ∈ mtl_13, LOK r.1.cls r.2.2.2.2.2 := List.forall_mem_cons.mpr ⟨lok_11, List.forall_mem_cons.mpr ⟨lok_11, List.forall_mem_cons.mpr ⟨lok_11, List.forall_mem_cons.mpr ⟨lok_11, List.forall_mem_cons.mpr ⟨lok_11, List.forall_mem_cons.mpr ⟨lok_11, List.forall_mem_cons.mpr ⟨lok_11, List.forall_mem_cons.mpr ⟨lok_11, List.forall_mem_cons.mpr ⟨lok_11, List.forall_mem_cons.mpr ⟨lok_11, List.forall_mem_cons.mpr ⟨lok_11, List.forall_mem_cons.mpr ⟨lok_11, List.forall_mem_cons.mpr ⟨lok_11, List.forall_mem_cons.mpr ⟨lok_11, List.forall_mem_cons.mpr ⟨lok_11, List.forall_mem_cons.mpr ⟨lok_11, List.forall_mem_cons.mpr ⟨lok_11, List.forall_mem_cons.mpr ⟨lok_11, List.forall_mem_cons.mpr ⟨lok_11, List.forall_mem_cons.mpr ⟨lok_11, fun _ h => absurd h List.not_mem_nil⟩⟩⟩⟩⟩⟩⟩⟩⟩⟩⟩⟩⟩⟩⟩⟩⟩⟩⟩⟩
theorem mlok_14 : ∀ r ∈ mtl_14, LOK r.1.cls r.2.2.2.2.2 := List.forall_mem_cons.mpr ⟨lok_11, List.forall_mem_cons.mpr ⟨lok_11, List.forall_mem_cons.mpr ⟨lok_11, List.forall_mem_cons.mpr ⟨lok_11, List.forall_mem_cons.mpr ⟨lok_11, List.forall_mem_cons.mpr ⟨lok_11, List.forall_mem_cons.mpr ⟨lok_11, List.forall_mem_cons.mpr ⟨lok_11, List.forall_mem_cons.mpr ⟨lok_11, List.forall_mem_cons.mpr ⟨lok_11, List.forall_mem_cons.mpr ⟨lok_11, List.forall_mem_cons.mpr ⟨lok_11, List.forall_mem_cons.mpr ⟨lok_11, List.forall_mem_cons.mpr ⟨lok_11, List.forall_mem_cons.mpr ⟨lok_11, List.forall_mem_cons.mpr ⟨lok_11, List.forall_mem_cons.mpr ⟨lok_11, List.forall_mem_cons.mpr ⟨lok_11, List.forall_mem_cons.mpr ⟨lok_11, List.forall_mem_cons.mpr ⟨lok_11, fun _ h => absurd h List.not_mem_nil⟩⟩⟩⟩⟩⟩⟩⟩⟩⟩⟩⟩⟩⟩⟩⟩⟩⟩⟩⟩
theorem mlok_15 : ∀ r ∈ mtl_15, LOK r.1.cls r.2.2.2.2.2 := List.forall_mem_cons.mpr ⟨lok_11, List.forall_mem_cons.mpr ⟨lok_11, List.forall_mem_cons.mpr ⟨lok_11, List.forall_mem_cons.mpr ⟨lok_11, List.forall_mem_cons.mpr ⟨lok_11, List.forall_mem_cons.mpr ⟨lok_11, List.forall_mem_cons.mpr ⟨lok_11, List.forall_mem_cons.mpr ⟨lok_11, List.forall_mem_cons.mpr ⟨lok_11, List.forall_mem_cons.mpr ⟨lok_11, List.forall_mem_cons.mpr ⟨lok_11, List.forall_mem_cons.mpr ⟨lok_11, List.forall_mem_cons.mpr ⟨lok_11, List.forall_mem_cons.mpr ⟨lok_12, List.forall_mem_cons.mpr ⟨lok_13, List.forall_mem_cons.mpr ⟨lok_13, List.forall_mem_cons.mpr ⟨lok_13, List.forall_mem_cons.mpr ⟨lok_13, List.forall_mem_cons.mpr ⟨lok_14, fun _ h => absurd h List.not_mem_nil⟩⟩⟩⟩⟩⟩⟩⟩⟩⟩⟩⟩⟩⟩⟩⟩⟩⟩⟩
set_option maxRecDepth 100000 in
theorem uw_0 : ∀ w ∈ u_ws RX0 TX0 2, w ∈ lw_tbl := inTs_mem (ps := [(0, 123), (0, 125)]) (by decide +kernel)
theorem uwg_0 : ∀ w ∈ u_ws RX0 TX0 2, w ∈ lw_g := fun w h => lw_g_of (uw_0 w h) (List.all_eq_true.mp (show (u_ws RX0 TX0 2).all goodWord = true from by decide +kernel) w h)
set_option maxRecDepth 100000 in
theorem uw_1 : ∀ w ∈ u_ws RX2 TX2 4, w ∈ lw_tbl := inTs_mem (ps := [(0, 156), (0, 158), (0, 160), (0, 162)]) (by decide +kernel)
theorem uwg_1 : ∀ w ∈ u_ws RX2 TX2 4, w ∈ lw_g := fun w h => lw_g_of (uw_1 w h) (List.all_eq_true.mp (show (u_ws RX2 TX2 4).all goodWord = true from by decide +kernel) w h)
set_option maxRecDepth 100000 in
theorem uw_2 : ∀ w ∈ u_ws RX3 TX3 7, w ∈ lw_tbl := inTs_mem (ps := [(1, 102), (1, 104), (1, 106), (1, 108), (1, 110), (1, 112), (1, 114)]) (by decide +kernel)
theorem uwg_2 : ∀ w ∈ u_ws RX3 TX3 7, w ∈ lw_g := fun w h => lw_g_of (uw_2 w h) (List.all_eq_true.mp (show (u_ws RX3 TX3 7).all goodWord = true from by decide +kernel) w h)
set_option maxRecDepth 100000 in
theorem uw_3 : ∀ w ∈ u_ws RX4 TX4 1, w ∈ lw_tbl := inTs_mem (ps := [(0, 135)]) (by decide +kernel)
theorem uwg_3 : ∀ w ∈ u_ws RX4 TX4 1, w ∈ lw_g := fun w h => lw_g_of (uw_3 w h) (List.all_eq_true.mp (show (u_ws RX4 TX4 1).all goodWord = true from by decide +kernel) w h)
set_option maxRecDepth 100000 in
theorem uw_4 : ∀ w ∈ u_ws RX5 TX5 11, w ∈ lw_tbl := inTs_mem (ps := [(1, 18), (1, 20), (1, 22), (1, 24), (1, 26), (1, 28), (1, 30), (1, 32), (1, 34), (1, 36), (1, 38)]) (by decide +kernel)
theorem uwg_4 : ∀ w ∈ u_ws RX5 TX5 11, w ∈ lw_g := fun w h => lw_g_of (uw_4 w h) (List.all_eq_true.mp (show (u_ws RX5 TX5 11).all goodWord = true from by decide +kernel) w h)
set_option maxRecDepth 100000 in
theorem uw_5 : ∀ w ∈ u_ws RX6 TX6 11, w ∈ lw_tbl := inTs_mem (ps := [(0, 89), (0, 91), (0, 93), (0, 95), (0, 97), (0, 99), (0, 101), (0, 103), (0, 105), (0, 107), (0, 109)]) (by decide +kernel)
theorem uwg_5 : ∀ w ∈ u_ws RX6 TX6 11, w ∈ lw_g := fun w h => lw_g_of (uw_5 w h) (List.all_eq_true.mp (show (u_ws RX6 TX6 11).all goodWord = true from by decide +kernel) w h)
set_option maxRecDepth 100000 in
theorem uw_6 : ∀ w ∈ u_ws RX7 TX7 6, w ∈ lw_tbl := inTs_mem (ps := [(0, 228), (0, 230), (0, 232), (0, 234), (0, 236), (0, 238)]) (by decide +kernel)
theorem uwg_6 : ∀ w ∈ u_ws RX7 TX7 6, w ∈ lw_g := fun w h => lw_g_of (uw_6 w h) (List.all_eq_true.mp (show (u_ws RX7 TX7 6).all goodWord = true from by decide +kernel) w h)
set_option maxRecDepth 100000 in
theorem uw_7 : ∀ w ∈ u_ws RX8 TX8 9, w ∈ lw_tbl := inTs_mem (ps := [(0, 179), (0, 181), (0, 183), (0, 185), (0, 187), (0, 189), (0, 191), (0, 193), (0, 195)]) (by decide +kernel)
theorem uwg_7 : ∀ w ∈ u_ws RX8 TX8 9, w ∈ lw_g := fun w h => lw_g_of (uw_7 w h) (List.all_eq_true.mp (show (u_ws RX8 TX8 9).all goodWord = true from by decide +kernel) w h)
set_option maxRecDepth 100000 in
theorem uw_8 : ∀ w ∈ u_ws RX9 TX9 12, w ∈ lw_tbl := inTs_mem (ps := [(1, 64), (1, 66), (1, 68), (1, 70), (1, 72), (1, 74), (1, 76), (1, 78), (1, 80), (1, 82), (1, 84), (1, 86)]) (by decide +kernel)
theorem uwg_8 : ∀ w ∈ u_ws RX9 TX9 12, w ∈ lw_g := fun w h => lw_g_of (uw_8 w h) (List.all_eq_true.mp (show (u_ws RX9 TX9 12).all goodWord = true from by decide +kernel) w h)
set_option maxRecDepth 100000 in
theorem uw_9 : ∀ w ∈ u_ws RX10 TX10 5, w ∈ lw_tbl := inTs_mem (ps := [(1, 122), (1, 124), (1, 126), (1, 128), (1, 130)]) (by decide +kernel)
theorem uwg_9 : ∀ w ∈ u_ws RX10 TX10 5, w ∈ lw_g := fun w h => lw_g_of (uw_9 w h) (List.all_eq_true.mp (show (u_ws RX10 TX10 5).all goodWord = true from by decide +kernel) w h)
set_option maxRecDepth 100000 in
theorem uw_10 : ∀ w ∈ u_ws RX11 TX11 51, w ∈ lw_tbl := inTs_mem (ps := [(4, 217), (4, 219), (4, 221), (4, 223), (4, 225), (4, 227), (4, 229), (4, 231), (4, 233), (4, 235), (4, 237), (4, 239), (5, 1), (5, 3), (5, 5), (5, 7), (5, 9), (5, 11), (5, 13), (5, 15), (5, 17), (5, 19), (5, 21), (5, 23), (5, 25), (5, 27), (5, 29), (5, 31), (5, 33), (5, 35), (5, 37), (5, 39), (5, 41), (5, 43), (5, 45), (5, 47), (5, 49), (5, 51), (5, 53), (5, 55), (5, 57), (5, 59), (5, 61), (5, 63), (5, 65), (5, 67), (5, 69), (5, 71), (5, 73), (5, 75), (5, 77)]) (by decide +kernel)
theorem uwg_10 : ∀ w ∈ u_ws RX11 TX11 51, w ∈ lw_g := fun w h => lw_g_of (uw_10 w h) (List.all_eq_true.mp (show (u_ws RX11 TX11 51).all goodWord = true from by decide +kernel) w h)
theorem uwg : ∀ (c : Nat) (q : vw_C), classes[c]? = some q → ∀ w ∈ u_ws q.1 q.2.1 q.2.2, w ∈ lw_g := by
  intro c q h
  match c, h with
  | 0, h => cases h; exact uwg_0
  | 1, h => cases h; exact uwg_1
  | 2, h => cases h; exact uwg_2
  | 3, h => cases h; exact uwg_3
  | 4, h => cases h; exact uwg_4
  | 5, h => cases h; exact uwg_5
  | 6, h => cases h; exact uwg_6
  | 7, h => cases h; exact uwg_7
  | 8, h => cases h; exact uwg_8
  | 9, h => cases h; exact uwg_9
  | 10, h => cases h; exact uwg_10
  | c + 11, h => cases h
theorem nmg : ∀ (c : Nat) (q : vw_C), classes[c]? = some q → ∀ a, a < q.2.2 → ∀ b, b < q.2.2 → a ≠ b → (q.2.1 a).2.1 ≠ (q.2.1 b).2.1 := by
  intro c q h
  match c, h with
  | 0, h => cases h; exact nmX0
  | 1, h => cases h; exact nmX2
  | 2, h => cases h; exact nmX3
  | 3, h => cases h; exact nmX4
  | 4, h => cases h; exact nmX5
  | 5, h => cases h; exact nmX6
  | 6, h => cases h; exact nmX7
  | 7, h => cases h; exact nmX8
  | 8, h => cases h; exact nmX9
  | 9, h => cases h; exact nmX10
  | 10, h => cases h; exact nmX11
  | c + 11, h => cases h
theorem tyg : ∀ (c : Nat) (q : vw_C), classes[c]? = some q → ∀ k, k < q.2.2 → parseFieldDescriptor (q.2.1 k).2.2.1 = some (ftk c k) := by
  intro c q h
  match c, h with
  | 0, h => cases h; exact (by decide +kernel : ∀ k, k < 2 → parseFieldDescriptor (TX0 k).2.2.1 = some (ftk 0 k))
  | 1, h => cases h; exact (by decide +kernel : ∀ k, k < 4 → parseFieldDescriptor (TX2 k).2.2.1 = some (ftk 1 k))
  | 2, h => cases h; exact (by decide +kernel : ∀ k, k < 7 → parseFieldDescriptor (TX3 k).2.2.1 = some (ftk 2 k))
  | 3, h => cases h; exact (by decide +kernel : ∀ k, k < 1 → parseFieldDescriptor (TX4 k).2.2.1 = some (ftk 3 k))
  | 4, h => cases h; exact (by decide +kernel : ∀ k, k < 11 → parseFieldDescriptor (TX5 k).2.2.1 = some (ftk 4 k))
  | 5, h => cases h; exact (by decide +kernel : ∀ k, k < 11 → parseFieldDescriptor (TX6 k).2.2.1 = some (ftk 5 k))
  | 6, h => cases h; exact (by decide +kernel : ∀ k, k < 6 → parseFieldDescriptor (TX7 k).2.2.1 = some (ftk 6 k))
  | 7, h => cases h; exact (by decide +kernel : ∀ k, k < 9 → parseFieldDescriptor (TX8 k).2.2.1 = some (ftk 7 k))
  | 8, h => cases h; exact (by decide +kernel : ∀ k, k < 12 → parseFieldDescriptor (TX9 k).2.2.1 = some (ftk 8 k))
  | 9, h => cases h; exact (by decide +kernel : ∀ k, k < 5 → parseFieldDescriptor (TX10 k).2.2.1 = some (ftk 9 k))
  | 10, h => cases h; exact (by decide +kernel : ∀ k, k < 51 → parseFieldDescriptor (TX11 k).2.2.1 = some (ftk 10 k))
  | c + 11, h => cases h
theorem mall {P : MT → Prop} (hl : ∀ r ∈ mtl_law, P r) (h0 : ∀ r ∈ mtl_0, P r) (h1 : ∀ r ∈ mtl_1, P r) (h2 : ∀ r ∈ mtl_2, P r) (h3 : ∀ r ∈ mtl_3, P r) (h4 : ∀ r ∈ mtl_4, P r) (h5 : ∀ r ∈ mtl_5, P r) (h6 : ∀ r ∈ mtl_6, P r) (h7 : ∀ r ∈ mtl_7, P r) (h8 : ∀ r ∈ mtl_8, P r) (h9 : ∀ r ∈ mtl_9, P r) (h10 : ∀ r ∈ mtl_10, P r) (h11 : ∀ r ∈ mtl_11, P r) (h12 : ∀ r ∈ mtl_12, P r) (h13 : ∀ r ∈ mtl_13, P r) (h14 : ∀ r ∈ mtl_14, P r) (h15 : ∀ r ∈ mtl_15, P r) : ∀ (y : Nat) (r : MT), mt y = some r → P r := by
  intro y r h
  have hm := List.mem_of_getElem? h
  unfold mtl at hm
  simp only [List.mem_append] at hm
  rcases hm with h | h | h | h | h | h | h | h | h | h | h | h | h | h | h | h | h
  · exact h0 r h
  · exact h1 r h
  · exact h2 r h
  · exact h3 r h
  · exact h4 r h
  · exact h5 r h
  · exact h6 r h
  · exact h7 r h
  · exact h8 r h
  · exact h9 r h
  · exact h10 r h
  · exact h11 r h
  · exact h12 r h
  · exact h13 r h
  · exact h14 r h
  · exact h15 r h
  · exact hl r h
theorem code_in : ∀ (y : Nat) (r : MT), mt y = some r → r.2.2.2.2.1 ≠ 3 → CodeIn r := mall (P := fun r => r.2.2.2.2.1 ≠ 3 → CodeIn r) (fun r h e => absurd (by rw [List.mem_singleton.mp h]) e) (fun r h _ => mcode_0 r h) (fun r h _ => mcode_1 r h) (fun r h _ => mcode_2 r h) (fun r h _ => mcode_3 r h) (fun r h _ => mcode_4 r h) (fun r h _ => mcode_5 r h) (fun r h _ => mcode_6 r h) (fun r h _ => mcode_7 r h) (fun r h _ => mcode_8 r h) (fun r h _ => mcode_9 r h) (fun r h _ => mcode_10 r h) (fun r h _ => mcode_11 r h) (fun r h _ => mcode_12 r h) (fun r h _ => mcode_13 r h) (fun r h _ => mcode_14 r h) (fun r h _ => mcode_15 r h)
theorem mok_in : ∀ (y : Nat) (r : MT), mt y = some r → r.2.2.2.2.1 ≠ 3 → MokP r := mall (P := fun r => r.2.2.2.2.1 ≠ 3 → MokP r) (fun r h e => absurd (by rw [List.mem_singleton.mp h]) e) (fun r h _ => moks_P mok_0 r h) (fun r h _ => moks_P mok_1 r h) (fun r h _ => moks_P mok_2 r h) (fun r h _ => moks_P mok_3 r h) (fun r h _ => moks_P mok_4 r h) (fun r h _ => moks_P mok_5 r h) (fun r h _ => moks_P mok_6 r h) (fun r h _ => moks_P mok_7 r h) (fun r h _ => moks_P mok_8 r h) (fun r h _ => moks_P mok_9 r h) (fun r h _ => moks_P mok_10 r h) (fun r h _ => moks_P mok_11 r h) (fun r h _ => moks_P mok_12 r h) (fun r h _ => moks_P mok_13 r h) (fun r h _ => moks_P mok_14 r h) (fun r h _ => moks_P mok_15 r h)
theorem lok_in : ∀ (y : Nat) (r : MT), mt y = some r → LOK r.1.cls r.2.2.2.2.2 := mall (P := fun r => LOK r.1.cls r.2.2.2.2.2) (fun r h => by rw [List.mem_singleton.mp h]; exact lok_15) mlok_0 mlok_1 mlok_2 mlok_3 mlok_4 mlok_5 mlok_6 mlok_7 mlok_8 mlok_9 mlok_10 mlok_11 mlok_12 mlok_13 mlok_14 mlok_15
end
section
/-! WHAT A MEMORY OF THE ABSTRACT MACHINE IS ON THE HEAP, and what a run of it says of the machine -/
theorem ofNat_ofInt (n : Nat) : Int32.ofNat n = Int32.ofInt (n : Int) := by
  apply Int32.toBitVec_inj.mp
  simp
theorem cI_eq (n : Int) : cI n = Int32.ofInt n := by
  cases n with
  | ofNat n => exact ofNat_ofInt n
  | negSucc n =>
    show - Int32.ofNat (n + 1) = _
    rw [ofNat_ofInt, Int.negSucc_eq, Int32.ofInt_neg]
    rfl
def okI (i : Instr) (pc n : Nat) : Bool := match i with
  | .bipush v => (n == 2) && decide ((Int8.ofInt v).toInt32 = cI v)
  | .sipush v => (n == 3) && decide ((Int16.ofInt v).toInt32 = cI v)
  | .aload _ | .iload _ | .lload _ | .astore _ | .istore _ | .lstore _ | .newarray _ | .ldc _ => n == 2
  | .goto o | .if_icmp _ o | .ifCond _ o | .ifnull o | .ifnonnull o => (n == 3) && decide (0 ≤ (pc : Int) + o)
  | .iinc _ _ | .getfield _ | .putfield _ | .getstatic _ | .invokevirtual _ | .invokestatic _ | .invokespecial _ | .new _ | .anewarray _ | .ldc_w _ | .ldc2_w _ => n == 3
  | .tableswitch o lo hi os => decide (0 ≤ (pc : Int) + o) && os.toList.all (fun o => decide (0 ≤ (pc : Int) + o)) && decide ((os.toList.length : Int) = hi - lo + 1) && decide ((cI lo).toInt = lo ∧ (cI hi).toInt = hi)
  | .lookupswitch o ps => decide (0 ≤ (pc : Int) + o) && ps.toList.all (fun e => decide (0 ≤ (pc : Int) + e.2) && decide ((cI e.1).toInt = e.1)) && (ps.toList.zip (ps.toList.drop 1)).all (fun (a, next) => a.1 < next.1)
  | _ => n == 1
def cv (ad : Nat → Nat → Nat) (v : AV) : Value := match v with
  | .inl x => .int x
  | .inr (.inl x) => .long x
  | .inr (.inr (.inl q)) => .ref (ad q.1 q.2)
  | .inr (.inr (.inr _)) => .null
def mv (ad : Nat → Nat → Nat) (M : MM) (c i k : Nat) : Value := match isIT (ftk c k) with
  | true => .int (M.1 c i k)
  | false => cv ad (M.2.1 c i k)
def cellR (D : va_G) (tA : Nat → ClassId) (ad : Nat → Nat → Nat) (M : MM) (H : Heap) (c i : Nat) : Prop := match Nat.ble 20 c with
  | true => ∃ q, ak c = some q ∧ H[ad c i]? = some (arrV (tA c) q.2 (fun j => mv ad M c i j))
  | false => ∃ q : vw_C, classes[c]? = some q ∧ t_OB (ad c i) (D.1 c) q.2.2 (D.2 c) H (fun k => mv ad M c i k)
def stv (c i : Nat) : Bool := stk c && (match Nat.ble 16 c with
  | true => Nat.blt i 13
  | false => Nat.beq i 0)
theorem stv_k {c i : Nat} (h : stv c i = true) : stk c = true := by
  unfold stv at h
  simp only [Bool.and_eq_true] at h
  exact h.1
theorem stv_hi {c i : Nat} (h : stv c i = true) (hc : Nat.ble 16 c = true) : i < 13 := by
  unfold stv at h
  rw [hc] at h
  simp only [Bool.and_eq_true] at h
  exact Nat.le_of_ble_eq_true h.2
theorem stv_lo {c i : Nat} (h : stv c i = true) (hc : Nat.ble 16 c = false) : i = 0 := by
  unfold stv at h
  rw [hc] at h
  simp only [Bool.and_eq_true] at h
  exact Nat.eq_of_beq_eq_true h.2
theorem stv_16 {i : Nat} (h : i < 13) : stv 16 i = true ∧ stv 17 i = true := by
  have e : Nat.blt i 13 = true := Nat.ble_eq_true_of_le h
  constructor
  · show (stk 16 && Nat.blt i 13) = true
    rw [e]; rfl
  · show (stk 17 && Nat.blt i 13) = true
    rw [e]; rfl
def okA (lv : LV) (v : AV) : Prop := match v with
  | .inr (.inr (.inl q)) => lv q.1 q.2 = true ∨ stv q.1 q.2 = true
  | _ => True
def sz1 (k : Nat) : Nat := match Nat.ble 20 k with
  | true => ((ak k).getD (.int, 0)).2
  | false => (classes.getD k ("", fun _ => ("", "", "", false), 0)).2.2
def Rep (D : va_G) (tA : Nat → ClassId) (z : Nat) (ad : Nat → Nat → Nat) (M : MM) (H : Heap) : Prop :=
  (∀ c i, M.2.2 c i = true → stk c = false ∧ z ≤ ad c i ∧ cellR D tA ad M H c i) ∧
  (∀ c i c' i', M.2.2 c i = true → M.2.2 c' i' = true → ad c i = ad c' i' → c = c' ∧ i = i') ∧
  (∀ c i k, M.2.2 c i = true → k < sz1 c → okA M.2.2 (M.2.1 c i k))
def KF (D : va_G) (tA : Nat → ClassId) (U : State) : Prop := va_K D classes [] U ∧ (∀ c q, ak c = some q → ArrOfT U (tA c) q.1 ∧ va_RA U (tA c) q.1) ∧ (∀ C ∈ ["StencilHouse$Shop", "StencilHouse$Day", "StencilHouse$Picture", "StencilHouse$Marks", "StencilHouse$Told"], va_AO C U) ∧ (∀ a i y h, Cond.methodLinkNest a i y h ∈ lw_tbl → va_Nw (.methodLinkNest a i y h) U)
abbrev aA (z : Nat) : Nat → Prop := fun q => z ≤ q
def SF (gl : Nat) (gx : Nat → Int32) (z : Nat) (ad : Nat → Nat → Nat) (U : State) (H : Heap) : Prop :=
  (va_X (ad 11 0) gl gx U H ∧ ad 11 0 < z) ∧
  (∀ c l, sta c = some l → va_Z "StencilHouse$Reader" (stN.getD (c - 12) "") "[I" (.ref (ad c 0)) (aA z) U H ∧ va_T .int (ad c 0) l.length (fun j => .int (l.getD j 0)) (aA z) U H) ∧
  vk_S 13 (stx.map List.length) stx (ad 16) (ad 17) (aA z) U H ∧
  (∀ j, j < 13 → vk_R "StencilHouse$Reader" (stIx.getD j 0) (stTx.getD j "") (ad 16 j) U) ∧
  va_Z "java/lang/String" "COMPACT_STRINGS" "Z" (.int 1) (aA z) U H ∧
  ∃ v, va_Z "jdk/internal/util/Preconditions" "SIOOBE_FORMATTER" "Ljava/util/function/BiFunction;" v (aA z) U H ∧ (v = .null ∨ ∃ a, v = .ref a)
theorem KF.moved {D : va_G} {tA : Nat → ClassId} {u U : State} (hW : u.WarmedH U.vm) (h : KF D tA u) : KF D tA U :=
  ⟨va_K.moved hW.alike h.1, fun c q hq => ⟨arrOfT_moved hW.alike (h.2.1 c q hq).1, (h.2.1 c q hq).2.moved hW.alike⟩, fun C hC => va_AO.moved hW.alike (h.2.2.1 C hC), fun a i y k hk => va_Nw.warmM hW (h.2.2.2 a i y k hk)⟩
theorem KF.same {D : va_G} {tA : Nat → ClassId} {u U : State} (hv : U.vm = u.vm) (h : KF D tA u) : KF D tA U :=
  have ha : u.vm.Alike U.vm := by rw [hv]; exact Vm.Alike.refl _
  ⟨va_K.moved ha h.1, fun c q hq => ⟨arrOfT_moved ha (h.2.1 c q hq).1, (h.2.1 c q hq).2.moved ha⟩, fun C hC => va_AO.moved ha (h.2.2.1 C hC), fun a i y k hk => va_Nw.same rfl hv.symm (h.2.2.2 a i y k hk)⟩
theorem SF.kept {gl : Nat} {gx : Nat → Int32} {z : Nat} {ad : Nat → Nat → Nat} {U : State} {H H1 : Heap} (h : SF gl gx z ad U H) (hz : z ≤ H.size) (hq : ∀ a : Nat, a < H.size → ¬ aA z a → H1[a]? = H[a]?) : SF gl gx z ad U H1 := by
  obtain ⟨⟨h1, h1'⟩, h2, h3, h4, h5, v, h6, h7⟩ := h
  exact ⟨⟨h1.kept (hq _ (Nat.lt_of_lt_of_le h1' hz) (Nat.not_le.mpr h1')), h1'⟩, fun c l hc => ⟨(h2 c l hc).1.kept hq, (h2 c l hc).2.kept hq⟩, h3.kept hq, h4, h5.kept hq, v, h6.kept hq, h7⟩
theorem SF.moved {gl : Nat} {gx : Nat → Int32} {z : Nat} {ad : Nat → Nat → Nat} {u U : State} {H : Heap} (hW : u.WarmedH U.vm) (h : SF gl gx z ad u H) : SF gl gx z ad U H := by
  obtain ⟨⟨h1, h1'⟩, h2, h3, h4, h5, v, h6, h7⟩ := h
  exact ⟨⟨h1.moved hW.alike, h1'⟩, fun c l hc => ⟨(h2 c l hc).1.moved hW.alike, (h2 c l hc).2.moved hW.alike⟩, h3.moved hW.alike, fun j hj => (h4 j hj).warm hW, h5.moved hW.alike, v, h6.moved hW.alike, h7⟩
theorem SF.same {gl : Nat} {gx : Nat → Int32} {z : Nat} {ad : Nat → Nat → Nat} {u U : State} {H : Heap} (hv : U.vm = u.vm) (h : SF gl gx z ad u H) : SF gl gx z ad U H := by
  have ha : u.vm.Alike U.vm := by rw [hv]; exact Vm.Alike.refl _
  obtain ⟨⟨h1, h1'⟩, h2, h3, h4, h5, v, h6, h7⟩ := h
  exact ⟨⟨h1.moved ha, h1'⟩, fun c l hc => ⟨(h2 c l hc).1.moved ha, (h2 c l hc).2.moved ha⟩, h3.moved ha, fun j hj => (h4 j hj).same hv, h5.moved ha, v, h6.moved ha, h7⟩
/-- the names that were, mean what they meant -/
def Ext (lv : LV) (ad ad' : Nat → Nat → Nat) : Prop := ∀ c i, lv c i = true ∨ stk c = true → ad' c i = ad c i
theorem SF.ext {gl : Nat} {gx : Nat → Int32} {z : Nat} {lv : LV} {ad ad' : Nat → Nat → Nat} {U : State} {H : Heap} (h : SF gl gx z ad U H) (he : Ext lv ad ad') : SF gl gx z ad' U H := by
  have e : ∀ c i, stk c = true → ad' c i = ad c i := fun c i hc => he c i (Or.inr hc)
  obtain ⟨⟨h1, h1'⟩, h2, h3, h4, h5, v, h6, h7⟩ := h
  have e16 : ad' 16 = ad 16 := funext fun i => e 16 i rfl
  have e17 : ad' 17 = ad 17 := funext fun i => e 17 i rfl
  refine ⟨by rw [e 11 0 rfl]; exact ⟨h1, h1'⟩, fun c l hc => ?_, by rw [e16, e17]; exact h3, by rw [e16]; exact h4, h5, v, h6, h7⟩
  have hs : stk c = true := by
    unfold sta at hc
    split at hc <;> first | rfl | cases hc
  rw [e c 0 hs]
  exact h2 c l hc
theorem cv_ext {lv : LV} {ad ad' : Nat → Nat → Nat} (he : Ext lv ad ad') {v : AV} (h : okA lv v) : cv ad' v = cv ad v := by
  match v, h with
  | .inl x, _ => rfl
  | .inr (.inl x), _ => rfl
  | .inr (.inr (.inl q)), h => exact congrArg Value.ref (he q.1 q.2 (h.imp id stv_k))
  | .inr (.inr (.inr _)), _ => rfl
theorem okA_mono {lv lv' : LV} (h : ∀ c i, lv c i = true → lv' c i = true) {v : AV} (hv : okA lv v) : okA lv' v := by
  match v, hv with
  | .inl x, _ => trivial
  | .inr (.inl x), _ => trivial
  | .inr (.inr (.inl q)), hv => exact hv.imp (h q.1 q.2) id
  | .inr (.inr (.inr _)), _ => trivial
/-- the locals whose values are known -/
def lvl (ad : Nat → Nat → Nat) : Nat → List AV → List (Nat × Value)
  | _, [] => []
  | i, .inr (.inr (.inr false)) :: L => lvl ad (i + 1) L
  | i, v :: L => (i, cv ad v) :: lvl ad (i + 1) L
theorem lvl_mem {ad : Nat → Nat → Nat} {q : Nat × Value} : ∀ {L : List AV} {i : Nat}, q ∈ lvl ad i L ↔ ∃ j v, L[j]? = some v ∧ v ≠ aU ∧ q = (i + j, cv ad v) := by
  intro L
  induction L with
  | nil => intro i; simp [lvl]
  | cons a L ih =>
    intro i
    have tail : (∃ j v, L[j]? = some v ∧ v ≠ aU ∧ q = (i + 1 + j, cv ad v)) ↔ ∃ j v, (a :: L)[j + 1]? = some v ∧ v ≠ aU ∧ q = (i + (j + 1), cv ad v) := by
      constructor
      · rintro ⟨j, v, h1, h2, h3⟩
        exact ⟨j, v, by simpa using h1, h2, by rw [h3]; congr 1; omega⟩
      · rintro ⟨j, v, h1, h2, h3⟩
        exact ⟨j, v, by simpa using h1, h2, by rw [h3]; congr 1; omega⟩
    by_cases ha : a = aU
    · subst ha
      show q ∈ lvl ad (i + 1) L ↔ _
      rw [ih, tail]
      constructor
      · rintro ⟨j, v, h⟩
        exact ⟨j + 1, v, h⟩
      · rintro ⟨j, v, h1, h2, h3⟩
        cases j with
        | zero => exact absurd (by simpa using h1.symm) h2
        | succ j => exact ⟨j, v, h1, h2, h3⟩
    · have e : lvl ad i (a :: L) = (i, cv ad a) :: lvl ad (i + 1) L := by
        match a, ha with
        | .inl x, _ => rfl
        | .inr (.inl x), _ => rfl
        | .inr (.inr (.inl x)), _ => rfl
        | .inr (.inr (.inr true)), _ => rfl
        | .inr (.inr (.inr false)), ha => exact absurd rfl ha
      rw [e, List.mem_cons, ih, tail]
      constructor
      · rintro (h | ⟨j, v, h⟩)
        · exact ⟨0, a, by simp, ha, by simpa using h⟩
        · exact ⟨j + 1, v, h⟩
      · rintro ⟨j, v, h1, h2, h3⟩
        cases j with
        | zero =>
          have : a = v := by simpa using h1
          subst this
          exact Or.inl (by simpa using h3)
        | succ j => exact Or.inr ⟨j, v, h1, h2, h3⟩
theorem lvl_at {ad : Nat → Nat → Nat} {ls : Array Slot} {n : Nat} {L : List AV} (h : lv_has ls n (lvl ad 0 L)) {k : Nat} {v : AV} (hv : gL L k = v) (hu : v ≠ aU) : ls[k]? = some (.val (cv ad v)) := by
  have h1 : L[k]? = some v := by
    unfold gL at hv
    rw [List.getD_eq_getElem?_getD] at hv
    cases hq : L[k]? with
    | none => rw [hq] at hv; exact absurd hv.symm hu
    | some w => rw [hq] at hv; simpa using hv
  have h2 := h.2.2 (k, cv ad v) (lvl_mem.mpr ⟨k, v, h1, hu, by simp⟩)
  exact h2
theorem lvl_sub {ls : Array Slot} {n : Nat} {l l' : List (Nat × Value)} (h : lv_has ls n l) (hs : ∀ q ∈ l', q ∈ l) : lv_has ls n l' := ⟨h.1, h.2.1, fun q hq => h.2.2 q (hs q hq)⟩
theorem lvl_ext {lv : LV} {ad ad' : Nat → Nat → Nat} (he : Ext lv ad ad') {L : List AV} (hL : ∀ v ∈ L, okA lv v) {ls : Array Slot} {n : Nat} (h : lv_has ls n (lvl ad 0 L)) : lv_has ls n (lvl ad' 0 L) := by
  refine lvl_sub h fun q hq => ?_
  obtain ⟨j, v, h1, h2, rfl⟩ := lvl_mem.mp hq
  rw [cv_ext he (hL v (List.mem_of_getElem? h1))]
  exact lvl_mem.mpr ⟨j, v, h1, h2, rfl⟩
theorem cv_cat {ad : Nat → Nat → Nat} {v : AV} : (cv ad v).category = 2 ↔ ∃ x, v = aL x := by
  match v with
  | .inl x => simp [cv, Value.category]
  | .inr (.inl x) => simp [cv, Value.category]
  | .inr (.inr (.inl q)) => simp [cv, Value.category]
  | .inr (.inr (.inr b)) => simp [cv, Value.category]
/-- behind a store of one word -/
theorem lvl_set {ad : Nat → Nat → Nat} {L : List AV} {k : Nat} {v : AV} {P : List AV → Prop} (h : sL L k v P) : P (L.set k v) ∧ k < L.length ∧ ∀ q ∈ lvl ad 0 (L.set k v), q ∈ (k, cv ad v) :: (lvl ad 0 L).filter (fun q => !(q.1 == k) && !(q.1 + 1 == k && q.2.category == 2)) := by
  unfold sL at h
  split at h
  · rename_i hlt
    have hk : k < L.length := by
      have := Nat.le_of_ble_eq_true hlt
      omega
    have main : (∀ j, k = j + 1 → ∀ x, gL L j ≠ aL x) → ∀ q ∈ lvl ad 0 (L.set k v), q ∈ (k, cv ad v) :: (lvl ad 0 L).filter (fun q => !(q.1 == k) && !(q.1 + 1 == k && q.2.category == 2)) := by
      intro hno q hq
      obtain ⟨j, w, h1, h2, rfl⟩ := lvl_mem.mp hq
      by_cases hj : k = j
      · subst hj
        rw [List.getElem?_set_self hk] at h1
        cases h1
        simp
      · rw [List.getElem?_set_ne hj] at h1
        refine List.mem_cons_of_mem _ (List.mem_filter.mpr ⟨lvl_mem.mpr ⟨j, w, h1, h2, rfl⟩, ?_⟩)
        have e1 : ¬ (0 + j = k) := by omega
        by_cases e2 : 0 + j + 1 = k
        · have e3 : ¬ (cv ad w).category = 2 := by
            intro hc
            obtain ⟨x, rfl⟩ := cv_cat.mp hc
            refine hno j (by omega) x ?_
            unfold gL
            rw [List.getD_eq_getElem?_getD, h1]
            rfl
          have e1' : ¬ j = k := by omega
          simp [e1', e3]
        · have e1' : ¬ j = k := by omega
          have e2' : ¬ j + 1 = k := by omega
          simp [e1', e2']
    cases k with
    | zero => exact ⟨h, hk, main (fun j e => by omega)⟩
    | succ j =>
      dsimp only at h
      split at h
      · exact h.elim
      · rename_i hno
        refine ⟨h, hk, main (fun j' e x hx => ?_)⟩
        have : j' = j := by omega
        subst this
        exact hno x hx
  · exact h.elim
theorem pI_inv {S : List AV} {f : Int32 → List AV → Prop} (h : pI S f) : ∃ x T, S = aI x :: T ∧ f x T := by
  unfold pI at h
  split at h
  · exact ⟨_, _, rfl, h⟩
  · exact h.elim
theorem pL_inv {S : List AV} {f : Int64 → List AV → Prop} (h : pL S f) : ∃ x T, S = aL x :: T ∧ f x T := by
  unfold pL at h
  split at h
  · exact ⟨_, _, rfl, h⟩
  · exact h.elim
theorem pR_inv {S : List AV} {f : Nat → Nat → List AV → Prop} (h : pR S f) : ∃ c i T, S = aR c i :: T ∧ f c i T := by
  unfold pR at h
  split at h
  · exact ⟨_, _, _, rfl, h⟩
  · exact h.elim
theorem pA_inv {S : List AV} {f : AV → List AV → Prop} (h : pA S f) : (∃ c i T, S = aR c i :: T ∧ f (aR c i) T) ∨ ∃ T, S = aN :: T ∧ f aN T := by
  unfold pA at h
  split at h
  · exact Or.inl ⟨_, _, _, rfl, h⟩
  · exact Or.inr ⟨_, rfl, h⟩
  · exact h.elim
/-- a value of one word that is known -/
theorem p1_inv {v : AV} {f : AV → Prop} (h : p1 v f) : f v ∧ v ≠ aU ∧ ∀ ad : Nat → Nat → Nat, (cv ad v).category = 1 := by
  unfold p1 at h
  split at h
  · exact ⟨h, (by intro e; cases e), fun _ => rfl⟩
  · exact ⟨h, (by intro e; cases e), fun _ => rfl⟩
  · exact ⟨h, (by intro e; cases e), fun _ => rfl⟩
  · exact h.elim
def psz (P : PL) : Nat := (P.map fun q => sz1 q.1).sum
def rst (ad : Nat → Nat → Nat) (v : AV) : List Value := match v with
  | .inr (.inr (.inr false)) => []
  | v => [cv ad v]
def retAt (r : MT) (pc : Nat) (v : AV) : Prop := (r.2.2.2.1 = none ∧ v = aU ∧ decode r.2.1 pc = .ok (.return_, 1)) ∨ (∃ x ty, r.2.2.2.1 = some ty ∧ v = aI x ∧ narrow ty (.int x) = .int x ∧ decode r.2.1 pc = .ok (.ireturn, 1)) ∨ (∃ C, r.2.2.2.1 = some (.object C) ∧ ((∃ q, v = .inr (.inr (.inl q))) ∨ v = aN) ∧ decode r.2.1 pc = .ok (.areturn, 1))
def Cx (z : Nat) (D : va_G) (tA : Nat → ClassId) (p : Program) (R : Room) (s : State) (m : MethodId) (args : Array Value) (meth : Method) (c : Code) (r : MT) (d : Nat) : Prop :=
  p.tables.exec = Jvm.exec ∧ c.code = r.2.1 ∧ c.maxLocals = r.2.2.1 ∧ s.vm.findClass r.1.cls = some m.cls ∧ (∀ w ∈ lw_g, w.before args s = true) ∧ (r.1.name = "<init>" → meth.name = "<init>") ∧ KF D tA s ∧ z ≤ s.heap.size ∧ d ≤ R.frames ∧ 64 * d ≤ R.locals ∧ LOK r.1.cls r.2.2.2.2.2
def Dx (gl : Nat) (gx : Nat → Int32) (z : Nat) (D : va_G) (tA : Nat → ClassId) (R : Room) (s : State) (r : MT) (ad : Nat → Nat → Nat) (H : Heap) (locs : List Loc) (cells slots : Nat) (ls : Array Slot) (P : PL) (L S : List AV) (M : MM) : Prop :=
  SF gl gx z ad s s.heap ∧ va_S (aA z) s.heap H locs ∧ Rep D tA z ad M H ∧ lv_has ls r.2.2.1 (lvl ad 0 L) ∧ L.length = r.2.2.1 ∧ (∀ v ∈ L, okA M.2.2 v) ∧ (∀ v ∈ S, okA M.2.2 v) ∧ cells + P.length ≤ R.cells ∧ slots + psz P ≤ R.slots
def Ret (z : Nat) (D : va_G) (tA : Nat → ClassId) (l : Launch) (p : Program) (e : Env) (R : Room) (s : State) (m : MethodId) (args : Array Value) (below : List Frame) (meth : Method) (c : Code) (Zq : State → Prop) (r : MT) (Q : PO) (lv : LV) (ad : Nat → Nat → Nat) : Prop :=
  ∀ (v : AV) (M' : MM) (ad' : Nat → Nat → Nat) (H' : Heap) (locs' : List Loc) (cells' slots' pc' : Nat) (ls' : Array Slot), Q v M' → Rep D tA z ad' M' H' → okA M'.2.2 v → Ext lv ad ad' → (∀ c i, lv c i = true → M'.2.2 c i = true) → va_S (aA z) s.heap H' locs' → cells' ≤ R.cells → slots' ≤ R.slots → retAt r pc' v → W p l e R s m args below meth c H' locs' cells' slots' Zq (F0 m pc' ls' (rst ad' v))
def Go (gl : Nat) (gx : Nat → Int32) (z : Nat) (D : va_G) (tA : Nat → ClassId) (l : Launch) (p : Program) (e : Env) (R : Room) (s : State) (m : MethodId) (args : Array Value) (below : List Frame) (meth : Method) (c : Code) (Zq : State → Prop) (r : MT) (Q : PO) (pc : Nat) (P : PL) (L S : List AV) (M : MM) : Prop :=
  ∀ (ad : Nat → Nat → Nat) (H : Heap) (locs : List Loc) (cells slots : Nat) (ls : Array Slot), Dx gl gx z D tA R s r ad H locs cells slots ls P L S M → Ret z D tA l p e R s m args below meth c Zq r Q M.2.2 ad → W p l e R s m args below meth c H locs cells slots Zq (F0 m pc ls (S.map (cv ad)))
def Sim (gl : Nat) (gx : Nat → Int32) (z : Nat) (D : va_G) (tA : Nat → ClassId) (l : Launch) : XT := fun d P y pc L S M Q =>
  ∀ (p : Program) (e : Env) (R : Room) (s : State) (m : MethodId) (args : Array Value) (below : List Frame) (meth : Method) (c : Code) (Zq : State → Prop) (r : MT), mt y = some r → Cx z D tA p R s m args meth c r d → Go gl gx z D tA l p e R s m args below meth c Zq r Q pc P L S M
theorem Ret.mono {z : Nat} {D : va_G} {tA : Nat → ClassId} {l : Launch} {p : Program} {e : Env} {R : Room} {s : State} {m : MethodId} {args : Array Value} {below : List Frame} {meth : Method} {c : Code} {Zq : State → Prop} {r : MT} {Q : PO} {lv lv1 : LV} {ad ad1 : Nat → Nat → Nat} (h : Ret z D tA l p e R s m args below meth c Zq r Q lv ad) (hl : ∀ c i, lv c i = true → lv1 c i = true) (he : Ext lv ad ad1) : Ret z D tA l p e R s m args below meth c Zq r Q lv1 ad1 := by
  intro v M' ad' H' locs' cells' slots' pc' ls' h1 h2 h3 h4 h5 h6 h7 h8 h9
  refine h v M' ad' H' locs' cells' slots' pc' ls' h1 h2 h3 (fun c i hc => ?_) (fun c i hc => h5 c i (hl c i hc)) h6 h7 h8 h9
  rw [h4 c i (hc.imp (hl c i) id), he c i hc]
end
section
/-! ONE STEP of the abstract machine is steps of the machine: locals, constants, arithmetic, branches, answers -/
section STEP1
variable {gl : Nat} {gx : Nat → Int32} {z : Nat} {D : va_G} {tA : Nat → ClassId} {l : Launch} {p : Program} {e : Env} {R : Room} {s : State} {m : MethodId} {args : Array Value} {below : List Frame} {meth : Method} {c : Code} {Zq : State → Prop} {r : MT} {Q : PO} {d : Nat}
variable {K J : Nat → PL → List AV → List AV → MM → Prop} {pc n : Nat} {P : PL} {L S T : List AV} {M : MM} {X : XT}
/-- the stack changes by known values -/
theorem Dx.stk {ad : Nat → Nat → Nat} {H : Heap} {locs : List Loc} {cells slots : Nat} {ls : Array Slot} (h : Dx gl gx z D tA R s r ad H locs cells slots ls P L S M) (hT : ∀ v ∈ T, v ∈ S ∨ okA M.2.2 v) : Dx gl gx z D tA R s r ad H locs cells slots ls P L T M := by
  obtain ⟨h1, h2, h3, h4, h5, h6, h7, h8, h9⟩ := h
  exact ⟨h1, h2, h3, h4, h5, h6, fun v hv => (hT v hv).elim (h7 v) id, h8, h9⟩
theorem Dx.loc {ad : Nat → Nat → Nat} {H : Heap} {locs : List Loc} {cells slots : Nat} {ls ls' : Array Slot} {k : Nat} {v : AV} {A : List AV → Prop} (h : Dx gl gx z D tA R s r ad H locs cells slots ls P L S M) (hs : sL L k v A) (hl : lv_has ls' r.2.2.1 ((k, cv ad v) :: (lvl ad 0 L).filter (fun q => !(q.1 == k) && !(q.1 + 1 == k && q.2.category == 2)))) (hv : okA M.2.2 v) (hT : ∀ w ∈ T, w ∈ S) : Dx gl gx z D tA R s r ad H locs cells slots ls' P (L.set k v) T M := by
  obtain ⟨h1, h2, h3, h4, h5, h6, h7, h8, h9⟩ := h
  refine ⟨h1, h2, h3, lvl_sub hl (lvl_set hs).2.2, by rw [List.length_set]; exact h5, fun w hw => ?_, fun w hw => h7 w (hT w hw), h8, h9⟩
  rcases List.mem_or_eq_of_mem_set hw with h | h
  · exact h6 w h
  · rw [h]; exact hv
theorem okA_I {lv : LV} {x : Int32} : okA lv (aI x) := trivial
theorem gL_mem {v : AV} {k : Nat} (h : gL L k = v) (hu : v ≠ aU) : v ∈ L := by
  unfold gL at h
  rw [List.getD_eq_getElem?_getD] at h
  cases hq : L[k]? with
  | none => rw [hq] at h; exact absurd h.symm hu
  | some w => rw [hq] at h; rw [← show w = v from h]; exact List.mem_of_getElem? hq
theorem go_pushI {v : AV} {n : Nat} (hc : K (pc + n) P L (v :: S) M) (hv : okA M.2.2 v) (hK : ∀ pc' P L S M, pc' = pc + n → K pc' P L S M → Go gl gx z D tA l p e R s m args below meth c Zq r Q pc' P L S M)
    (row : ∀ (H : Heap) (locs : List Loc) (cells slots : Nat) (ad : Nat → Nat → Nat) (ls : Array Slot) (rest : List Value), lv_has ls r.2.2.1 (lvl ad 0 L) → W p l e R s m args below meth c H locs cells slots Zq (F0 m (pc + n) ls (cv ad v :: rest)) → W p l e R s m args below meth c H locs cells slots Zq (F0 m pc ls rest)) :
    Go gl gx z D tA l p e R s m args below meth c Zq r Q pc P L S M := by
  intro ad H locs cells slots ls hD hR
  exact row H locs cells slots ad ls _ hD.2.2.2.1 (hK _ _ _ _ _ rfl hc ad H locs cells slots ls (hD.stk fun w hw => by
    rcases List.mem_cons.mp hw with rfl | h
    · exact Or.inr hv
    · exact Or.inl h) hR)
theorem go_loads {i : Instr} (C : Cx z D tA p R s m args meth c r d) (hK : ∀ pc' P L S M, pc' = pc + n → K pc' P L S M → Go gl gx z D tA l p e R s m args below meth c Zq r Q pc' P L S M) (hd : decode r.2.1 pc = .ok (i, n)) (ho : okI i pc n = true) (h : stepI gl gx X d r.2.2.2.2.2 r.2.2.2.1 r.2.2.2.2.1 r.1.cls Q K J i pc P L S M)
    (hi : (∃ k, i = .aload_n k) ∨ (∃ k, i = .aload k) ∨ (∃ k, i = .iload_n k) ∨ (∃ k, i = .iload k) ∨ (∃ k, i = .lload_n k) ∨ (∃ k, i = .lload k)) : Go gl gx z D tA l p e R s m args below meth c Zq r Q pc P L S M := by
  obtain ⟨hx, hb, -⟩ := C
  have okL : ∀ {ad H locs cells slots ls v k}, Dx gl gx z D tA R s r ad H locs cells slots ls P L S M → gL L k = v → v ≠ aU → okA M.2.2 v := fun hD hv hu => hD.2.2.2.2.2.1 _ (gL_mem hv hu)
  rcases hi with ⟨k, rfl⟩ | ⟨k, rfl⟩ | ⟨k, rfl⟩ | ⟨k, rfl⟩ | ⟨k, rfl⟩ | ⟨k, rfl⟩
  · have en : n = 1 := by simpa [okI] using ho
    subst en
    have h : pA [gL L k.val] (fun v _ => K (pc + 1) P L (v :: S) M) := h
    rcases pA_inv h with ⟨c', i', T', e1, h1⟩ | ⟨T', e1, h1⟩
    · have e2 : gL L k.val = aR c' i' := (List.cons.inj e1).1
      intro ad H locs cells slots ls hD hR
      exact lv_aload_n hx hb hd rfl (lvl_at hD.2.2.2.1 e2 (by intro q; cases q)) (hK _ _ _ _ _ rfl h1 ad H locs cells slots ls (hD.stk fun w hw => (List.mem_cons.mp hw).elim (fun q => Or.inr (q ▸ okL hD e2 (by intro q; cases q))) Or.inl) hR)
    · have e2 : gL L k.val = aN := (List.cons.inj e1).1
      intro ad H locs cells slots ls hD hR
      exact lv_aload_nN hx hb hd rfl (lvl_at hD.2.2.2.1 e2 (by intro q; cases q)) (hK _ _ _ _ _ rfl h1 ad H locs cells slots ls (hD.stk fun w hw => (List.mem_cons.mp hw).elim (fun q => Or.inr (by rw [q]; trivial)) Or.inl) hR)
  · have en : n = 2 := by simpa [okI] using ho
    subst en
    have h : pA [gL L k] (fun v _ => K (pc + 2) P L (v :: S) M) := h
    rcases pA_inv h with ⟨c', i', T', e1, h1⟩ | ⟨T', e1, h1⟩
    · have e2 : gL L k = aR c' i' := (List.cons.inj e1).1
      intro ad H locs cells slots ls hD hR
      exact lv_aload hx hb hd (lvl_at hD.2.2.2.1 e2 (by intro q; cases q)) (hK _ _ _ _ _ rfl h1 ad H locs cells slots ls (hD.stk fun w hw => (List.mem_cons.mp hw).elim (fun q => Or.inr (q ▸ okL hD e2 (by intro q; cases q))) Or.inl) hR)
    · have e2 : gL L k = aN := (List.cons.inj e1).1
      intro ad H locs cells slots ls hD hR
      exact lv_aloadN hx hb hd (lvl_at hD.2.2.2.1 e2 (by intro q; cases q)) (hK _ _ _ _ _ rfl h1 ad H locs cells slots ls (hD.stk fun w hw => (List.mem_cons.mp hw).elim (fun q => Or.inr (by rw [q]; trivial)) Or.inl) hR)
  · have en : n = 1 := by simpa [okI] using ho
    subst en
    obtain ⟨x, T', e1, h1⟩ := pI_inv h
    have e2 : gL L k.val = aI x := (List.cons.inj e1).1
    exact go_pushI h1 trivial hK fun H locs cells slots ad ls rest hl w => lv_iload_n hx hb hd rfl (lvl_at hl e2 (by intro q; cases q)) w
  · have en : n = 2 := by simpa [okI] using ho
    subst en
    obtain ⟨x, T', e1, h1⟩ := pI_inv h
    have e2 : gL L k = aI x := (List.cons.inj e1).1
    exact go_pushI h1 trivial hK fun H locs cells slots ad ls rest hl w => lv_iload hx hb hd (lvl_at hl e2 (by intro q; cases q)) w
  · have en : n = 1 := by simpa [okI] using ho
    subst en
    obtain ⟨x, T', e1, h1⟩ := pL_inv h
    have e2 : gL L k.val = aL x := (List.cons.inj e1).1
    exact go_pushI h1 trivial hK fun H locs cells slots ad ls rest hl w => lv_lload_n hx hb hd rfl (lvl_at hl e2 (by intro q; cases q)) w
  · have en : n = 2 := by simpa [okI] using ho
    subst en
    obtain ⟨x, T', e1, h1⟩ := pL_inv h
    have e2 : gL L k = aL x := (List.cons.inj e1).1
    exact go_pushI h1 trivial hK fun H locs cells slots ad ls rest hl w => lv_lload hx hb hd (lvl_at hl e2 (by intro q; cases q)) w
/-- behind a store of a long -/
theorem lvl_set2 {ad : Nat → Nat → Nat} {k : Nat} {x : Int64} {A : List AV → Prop} (h : sL2 L k x A) : A ((L.set k (aL x)).set (k + 1) aU) ∧ k + 1 < L.length ∧ ∀ q ∈ lvl ad 0 ((L.set k (aL x)).set (k + 1) aU), q ∈ (k, Value.long x) :: (lvl ad 0 L).filter (fun q => !(q.1 == k) && (!(q.1 == k + 1) && !(q.1 + 1 == k && q.2.category == 2))) := by
  unfold sL2 at h
  split at h
  · rename_i hlt
    have hk : k + 1 < L.length := by
      have := Nat.le_of_ble_eq_true hlt
      omega
    have main : (∀ j, k = j + 1 → ∀ x, gL L j ≠ aL x) → ∀ q ∈ lvl ad 0 ((L.set k (aL x)).set (k + 1) aU), q ∈ (k, Value.long x) :: (lvl ad 0 L).filter (fun q => !(q.1 == k) && (!(q.1 == k + 1) && !(q.1 + 1 == k && q.2.category == 2))) := by
      intro hno q hq
      obtain ⟨j, w, h1, h2, rfl⟩ := lvl_mem.mp hq
      by_cases hj1 : k + 1 = j
      · subst hj1
        rw [List.getElem?_set_self (by rw [List.length_set]; exact hk)] at h1
        cases h1
        exact absurd rfl h2
      rw [List.getElem?_set_ne hj1] at h1
      by_cases hj : k = j
      · subst hj
        rw [List.getElem?_set_self (by omega)] at h1
        cases h1
        simp [cv]
      · rw [List.getElem?_set_ne hj] at h1
        refine List.mem_cons_of_mem _ (List.mem_filter.mpr ⟨lvl_mem.mpr ⟨j, w, h1, h2, rfl⟩, ?_⟩)
        have e0 : ¬ j = k + 1 := by omega
        have e1 : ¬ j = k := by omega
        by_cases e2 : j + 1 = k
        · have e3 : ¬ (cv ad w).category = 2 := by
            intro hc
            obtain ⟨x, rfl⟩ := cv_cat.mp hc
            refine hno j (by omega) x ?_
            unfold gL
            rw [List.getD_eq_getElem?_getD, h1]
            rfl
          simp [e0, e1, e3]
        · simp [e0, e1, e2]
    cases k with
    | zero => exact ⟨h, hk, main (fun j e => by omega)⟩
    | succ j =>
      dsimp only at h
      split at h
      · exact h.elim
      · rename_i hno
        refine ⟨h, hk, main (fun j' e x hx => ?_)⟩
        have : j' = j := by omega
        subst this
        exact hno x hx
  · exact h.elim
theorem go_stores {i : Instr} (C : Cx z D tA p R s m args meth c r d) (hK : ∀ pc' P L S M, pc' = pc + n → K pc' P L S M → Go gl gx z D tA l p e R s m args below meth c Zq r Q pc' P L S M) (hd : decode r.2.1 pc = .ok (i, n)) (ho : okI i pc n = true) (h : stepI gl gx X d r.2.2.2.2.2 r.2.2.2.1 r.2.2.2.2.1 r.1.cls Q K J i pc P L S M)
    (hi : (∃ k, i = .astore_n k) ∨ (∃ k, i = .astore k) ∨ (∃ k, i = .istore_n k) ∨ (∃ k, i = .istore k) ∨ (∃ k, i = .lstore k) ∨ (∃ k a, i = .iinc k a)) : Go gl gx z D tA l p e R s m args below meth c Zq r Q pc P L S M := by
  obtain ⟨hx, hb, -⟩ := C
  have tl : ∀ {v : AV} {T : List AV}, ∀ w ∈ T, w ∈ v :: T := fun w hw => List.mem_cons_of_mem _ hw
  rcases hi with ⟨k, rfl⟩ | ⟨k, rfl⟩ | ⟨k, rfl⟩ | ⟨k, rfl⟩ | ⟨k, rfl⟩ | ⟨k, a, rfl⟩
  · have en : n = 1 := by simpa [okI] using ho
    subst en
    have h : pA S (fun v S => sL L k.val v fun L => K (pc + 1) P L S M) := h
    rcases pA_inv h with ⟨c', i', T', rfl, h1⟩ | ⟨T', rfl, h1⟩
    · intro ad H locs cells slots ls hD hR
      have h2 := lvl_set (ad := ad) h1
      exact lv_astore_n hx hb hd rfl hD.2.2.2.1 (hD.2.2.2.2.1 ▸ h2.2.1) rfl (fun ls' hl' => hK _ _ _ _ _ rfl h2.1 ad H locs cells slots ls' (hD.loc h1 hl' (hD.2.2.2.2.2.2.1 _ List.mem_cons_self) tl) hR)
    · intro ad H locs cells slots ls hD hR
      have h2 := lvl_set (ad := ad) h1
      exact lv_astore_nN hx hb hd rfl hD.2.2.2.1 (hD.2.2.2.2.1 ▸ h2.2.1) rfl (fun ls' hl' => hK _ _ _ _ _ rfl h2.1 ad H locs cells slots ls' (hD.loc h1 hl' trivial tl) hR)
  · have en : n = 2 := by simpa [okI] using ho
    subst en
    have h : pA S (fun v S => sL L k v fun L => K (pc + 2) P L S M) := h
    rcases pA_inv h with ⟨c', i', T', rfl, h1⟩ | ⟨T', rfl, h1⟩
    · intro ad H locs cells slots ls hD hR
      have h2 := lvl_set (ad := ad) h1
      exact lv_astore hx hb hd hD.2.2.2.1 (hD.2.2.2.2.1 ▸ h2.2.1) rfl (fun ls' hl' => hK _ _ _ _ _ rfl h2.1 ad H locs cells slots ls' (hD.loc h1 hl' (hD.2.2.2.2.2.2.1 _ List.mem_cons_self) tl) hR)
    · intro ad H locs cells slots ls hD hR
      have h2 := lvl_set (ad := ad) h1
      exact lv_astoreN hx hb hd hD.2.2.2.1 (hD.2.2.2.2.1 ▸ h2.2.1) rfl (fun ls' hl' => hK _ _ _ _ _ rfl h2.1 ad H locs cells slots ls' (hD.loc h1 hl' trivial tl) hR)
  · have en : n = 1 := by simpa [okI] using ho
    subst en
    obtain ⟨x, T', rfl, h1⟩ := pI_inv h
    intro ad H locs cells slots ls hD hR
    have h2 := lvl_set (ad := ad) h1
    exact lv_istore_n hx hb hd rfl hD.2.2.2.1 (hD.2.2.2.2.1 ▸ h2.2.1) rfl (fun ls' hl' => hK _ _ _ _ _ rfl h2.1 ad H locs cells slots ls' (hD.loc h1 hl' trivial tl) hR)
  · have en : n = 2 := by simpa [okI] using ho
    subst en
    obtain ⟨x, T', rfl, h1⟩ := pI_inv h
    intro ad H locs cells slots ls hD hR
    have h2 := lvl_set (ad := ad) h1
    exact lv_istore hx hb hd hD.2.2.2.1 (hD.2.2.2.2.1 ▸ h2.2.1) rfl (fun ls' hl' => hK _ _ _ _ _ rfl h2.1 ad H locs cells slots ls' (hD.loc h1 hl' trivial tl) hR)
  · have en : n = 2 := by simpa [okI] using ho
    subst en
    obtain ⟨x, T', rfl, h1⟩ := pL_inv h
    intro ad H locs cells slots ls hD hR
    have h2 := lvl_set2 (ad := ad) h1
    refine lv_lstore hx hb hd hD.2.2.2.1 (hD.2.2.2.2.1 ▸ h2.2.1) rfl (fun ls' hl' => hK _ _ _ _ _ rfl h2.1 ad H locs cells slots ls' ?_ hR)
    obtain ⟨d1, d2, d3, d4, d5, d6, d7, d8, d9⟩ := hD
    refine ⟨d1, d2, d3, lvl_sub hl' h2.2.2, by rw [List.length_set, List.length_set]; exact d5, fun w hw => ?_, fun w hw => d7 w (tl w hw), d8, d9⟩
    rcases List.mem_or_eq_of_mem_set hw with hw | rfl
    · rcases List.mem_or_eq_of_mem_set hw with hw | rfl
      · exact d6 w hw
      · trivial
    · trivial
  · have en : n = 3 := by simpa [okI] using ho
    subst en
    obtain ⟨x, T', e1, h1⟩ := pI_inv h
    have e2 : gL L k = aI x := (List.cons.inj e1).1
    intro ad H locs cells slots ls hD hR
    have h2 := lvl_set (ad := ad) h1
    have hmem : (k, Value.int x) ∈ lvl ad 0 L := by
      have h3 : L[k]? = some (aI x) := by
        unfold gL at e2
        rw [List.getD_eq_getElem?_getD] at e2
        cases hq : L[k]? with
        | none => rw [hq] at e2; cases e2
        | some w => rw [hq] at e2; exact congrArg some e2
      exact lvl_mem.mpr ⟨k, aI x, h3, (by intro q; cases q), by simp [cv]⟩
    obtain ⟨j, hj⟩ := List.getElem?_of_mem hmem
    exact lv_iinc hx hb hd hD.2.2.2.1 (k := j) hj (by rw [cI_eq]) (hD.2.2.2.2.1 ▸ h2.2.1) rfl (fun ls' hl' => hK _ _ _ _ _ rfl h2.1 ad H locs cells slots ls' (hD.loc h1 hl' trivial (fun w hw => hw)) hR)
end STEP1
end
section
/-! ONE STEP: constants, arithmetic, branches, answers -/
section STEP2
variable {gl : Nat} {gx : Nat → Int32} {z : Nat} {D : va_G} {tA : Nat → ClassId} {l : Launch} {p : Program} {e : Env} {R : Room} {s : State} {m : MethodId} {args : Array Value} {below : List Frame} {meth : Method} {c : Code} {Zq : State → Prop} {r : MT} {Q : PO} {d : Nat}
variable {K J : Nat → PL → List AV → List AV → MM → Prop} {pc n : Nat} {P : PL} {L S T : List AV} {M : MM} {X : XT}
theorem go_row {pc' : Nat} (hc : Go gl gx z D tA l p e R s m args below meth c Zq r Q pc' P L T M) (hv : ∀ v ∈ T, v ∈ S ∨ okA M.2.2 v)
    (row : ∀ (H : Heap) (locs : List Loc) (cells slots : Nat) (ad : Nat → Nat → Nat) (ls : Array Slot), W p l e R s m args below meth c H locs cells slots Zq (F0 m pc' ls (T.map (cv ad))) → W p l e R s m args below meth c H locs cells slots Zq (F0 m pc ls (S.map (cv ad)))) :
    Go gl gx z D tA l p e R s m args below meth c Zq r Q pc P L S M := by
  intro ad H locs cells slots ls hD hR
  exact row H locs cells slots ad ls (hc ad H locs cells slots ls (hD.stk hv) hR)
theorem hv1 {lv : LV} {v : AV} {A B : List AV} (hA : ∀ w ∈ A, w ∈ B) (h : okA lv v) : ∀ w ∈ v :: A, w ∈ B ∨ okA lv w := fun w hw => (List.mem_cons.mp hw).elim (fun q => Or.inr (by rw [q]; exact h)) (fun q => Or.inl (hA w q))
theorem mem1 {v : AV} {A : List AV} : ∀ w ∈ A, w ∈ v :: A := fun _ h => List.mem_cons_of_mem _ h
theorem mem2 {u v : AV} {A : List AV} : ∀ w ∈ A, w ∈ u :: v :: A := fun _ h => List.mem_cons_of_mem _ (List.mem_cons_of_mem _ h)
theorem go_const {i : Instr} (C : Cx z D tA p R s m args meth c r d) (hK : ∀ pc' P L S M, pc' = pc + n → K pc' P L S M → Go gl gx z D tA l p e R s m args below meth c Zq r Q pc' P L S M) (hd : decode r.2.1 pc = .ok (i, n)) (ho : okI i pc n = true) (h : stepI gl gx X d r.2.2.2.2.2 r.2.2.2.1 r.2.2.2.2.1 r.1.cls Q K J i pc P L S M)
    (hi : (∃ k, i = .iconst k) ∨ (∃ k, i = .bipush k) ∨ (∃ k, i = .sipush k) ∨ (∃ k, i = .lconst k) ∨ i = .aconst_null) : Go gl gx z D tA l p e R s m args below meth c Zq r Q pc P L S M := by
  obtain ⟨hx, hb, -⟩ := C
  rcases hi with ⟨k, rfl⟩ | ⟨k, rfl⟩ | ⟨k, rfl⟩ | ⟨k, rfl⟩ | rfl
  · have en : n = 1 := by simpa [okI] using ho
    subst en
    exact go_row (hK _ _ _ _ _ rfl h) (hv1 (fun _ h => h) trivial) fun H locs cells slots ad ls w => lv_iconst hx hb hd (cI_eq k).symm w
  · simp only [okI, Bool.and_eq_true, beq_iff_eq, decide_eq_true_eq] at ho
    obtain ⟨rfl, ho⟩ := ho
    exact go_row (hK _ _ _ _ _ rfl h) (hv1 (fun _ h => h) trivial) fun H locs cells slots ad ls w => lv_bipush hx hb hd ho w
  · simp only [okI, Bool.and_eq_true, beq_iff_eq, decide_eq_true_eq] at ho
    obtain ⟨rfl, ho⟩ := ho
    exact go_row (hK _ _ _ _ _ rfl h) (hv1 (fun _ h => h) trivial) fun H locs cells slots ad ls w => lv_sipush hx hb hd ho w
  · have en : n = 1 := by simpa [okI] using ho
    subst en
    exact go_row (hK _ _ _ _ _ rfl h) (hv1 (fun _ h => h) trivial) fun H locs cells slots ad ls w => lv_lconst hx hb hd rfl w
  · have en : n = 1 := by simpa [okI] using ho
    subst en
    exact go_row (hK _ _ _ _ _ rfl h) (hv1 (fun _ h => h) trivial) fun H locs cells slots ad ls w => lv_null hx hb hd w
theorem go_arith {i : Instr} (C : Cx z D tA p R s m args meth c r d) (hK : ∀ pc' P L S M, pc' = pc + n → K pc' P L S M → Go gl gx z D tA l p e R s m args below meth c Zq r Q pc' P L S M) (hd : decode r.2.1 pc = .ok (i, n)) (ho : okI i pc n = true) (h : stepI gl gx X d r.2.2.2.2.2 r.2.2.2.1 r.2.2.2.2.1 r.1.cls Q K J i pc P L S M)
    (hi : i ∈ [Instr.iadd, .isub, .imul, .iand, .ior, .ixor, .ishl, .ishr, .iushr, .idiv, .irem, .ineg, .i2l, .i2b, .i2c, .lshl, .lor, .lcmp]) : Go gl gx z D tA l p e R s m args below meth c Zq r Q pc P L S M := by
  obtain ⟨hx, hb, -⟩ := C
  simp only [List.mem_cons, List.not_mem_nil, or_false] at hi
  rcases hi with rfl | rfl | rfl | rfl | rfl | rfl | rfl | rfl | rfl | rfl | rfl | rfl | rfl | rfl | rfl | rfl | rfl | rfl
  all_goals (have en : n = 1 := by simpa [okI] using ho)
  all_goals subst en
  · obtain ⟨y, T1, rfl, h⟩ := pI_inv h
    obtain ⟨x, T2, rfl, h⟩ := pI_inv h
    exact go_row (hK _ _ _ _ _ rfl h) (hv1 mem2 trivial) fun H locs cells slots ad ls w => lv_iadd hx hb hd w
  · obtain ⟨y, T1, rfl, h⟩ := pI_inv h
    obtain ⟨x, T2, rfl, h⟩ := pI_inv h
    exact go_row (hK _ _ _ _ _ rfl h) (hv1 mem2 trivial) fun H locs cells slots ad ls w => lv_isub hx hb hd w
  · obtain ⟨y, T1, rfl, h⟩ := pI_inv h
    obtain ⟨x, T2, rfl, h⟩ := pI_inv h
    exact go_row (hK _ _ _ _ _ rfl h) (hv1 mem2 trivial) fun H locs cells slots ad ls w => lv_imul hx hb hd w
  · obtain ⟨y, T1, rfl, h⟩ := pI_inv h
    obtain ⟨x, T2, rfl, h⟩ := pI_inv h
    exact go_row (hK _ _ _ _ _ rfl h) (hv1 mem2 trivial) fun H locs cells slots ad ls w => lv_iand hx hb hd w
  · obtain ⟨y, T1, rfl, h⟩ := pI_inv h
    obtain ⟨x, T2, rfl, h⟩ := pI_inv h
    exact go_row (hK _ _ _ _ _ rfl h) (hv1 mem2 trivial) fun H locs cells slots ad ls w => lv_ior hx hb hd w
  · obtain ⟨y, T1, rfl, h⟩ := pI_inv h
    obtain ⟨x, T2, rfl, h⟩ := pI_inv h
    exact go_row (hK _ _ _ _ _ rfl h) (hv1 mem2 trivial) fun H locs cells slots ad ls w => lv_ixor hx hb hd w
  · obtain ⟨y, T1, rfl, h⟩ := pI_inv h
    obtain ⟨x, T2, rfl, h⟩ := pI_inv h
    exact go_row (hK _ _ _ _ _ rfl h) (hv1 mem2 trivial) fun H locs cells slots ad ls w => lv_ishl hx hb hd w
  · obtain ⟨y, T1, rfl, h⟩ := pI_inv h
    obtain ⟨x, T2, rfl, h⟩ := pI_inv h
    exact go_row (hK _ _ _ _ _ rfl h) (hv1 mem2 trivial) fun H locs cells slots ad ls w => lv_ishr hx hb hd w
  · obtain ⟨y, T1, rfl, h⟩ := pI_inv h
    obtain ⟨x, T2, rfl, h⟩ := pI_inv h
    exact go_row (hK _ _ _ _ _ rfl h) (hv1 mem2 trivial) fun H locs cells slots ad ls w => lv_iushr hx hb hd rfl w
  · obtain ⟨y, T1, rfl, h⟩ := pI_inv h
    obtain ⟨x, T2, rfl, h⟩ := pI_inv h
    exact go_row (hK _ _ _ _ _ rfl h.2) (hv1 mem2 trivial) fun H locs cells slots ad ls w => lv_idiv hx hb hd h.1 w
  · obtain ⟨y, T1, rfl, h⟩ := pI_inv h
    obtain ⟨x, T2, rfl, h⟩ := pI_inv h
    exact go_row (hK _ _ _ _ _ rfl h.2) (hv1 mem2 trivial) fun H locs cells slots ad ls w => lv_irem hx hb hd h.1 w
  · obtain ⟨x, T2, rfl, h⟩ := pI_inv h
    exact go_row (hK _ _ _ _ _ rfl h) (hv1 mem1 trivial) fun H locs cells slots ad ls w => lv_ineg hx hb hd w
  · obtain ⟨x, T2, rfl, h⟩ := pI_inv h
    exact go_row (hK _ _ _ _ _ rfl h) (hv1 mem1 trivial) fun H locs cells slots ad ls w => lv_i2l hx hb hd rfl w
  · obtain ⟨x, T2, rfl, h⟩ := pI_inv h
    exact go_row (hK _ _ _ _ _ rfl h) (hv1 mem1 trivial) fun H locs cells slots ad ls w => lv_i2b hx hb hd rfl w
  · obtain ⟨x, T2, rfl, h⟩ := pI_inv h
    exact go_row (hK _ _ _ _ _ rfl h) (hv1 mem1 trivial) fun H locs cells slots ad ls w => lv_i2c hx hb hd rfl w
  · obtain ⟨y, T1, rfl, h⟩ := pI_inv h
    obtain ⟨x, T2, rfl, h⟩ := pL_inv h
    exact go_row (hK _ _ _ _ _ rfl h) (hv1 mem2 trivial) fun H locs cells slots ad ls w => lv_lshl hx hb hd rfl w
  · obtain ⟨y, T1, rfl, h⟩ := pL_inv h
    obtain ⟨x, T2, rfl, h⟩ := pL_inv h
    exact go_row (hK _ _ _ _ _ rfl h) (hv1 mem2 trivial) fun H locs cells slots ad ls w => lv_lor hx hb hd w
  · obtain ⟨y, T1, rfl, h⟩ := pL_inv h
    obtain ⟨x, T2, rfl, h⟩ := pL_inv h
    exact go_row (hK _ _ _ _ _ rfl h) (hv1 mem2 trivial) fun H locs cells slots ad ls w => W.lcmp hx hb hd w
theorem tg_eq {off : Int} (h : 0 ≤ (pc : Int) + off) : (pc : Int) + off = ((tg pc off : Nat) : Int) := by
  cases off with
  | ofNat n => show (pc : Int) + (n : Int) = ((pc + n : Nat) : Int); omega
  | negSucc n => show (pc : Int) + Int.negSucc n = ((pc - (n + 1) : Nat) : Int); omega
theorem go_branch {i : Instr} (C : Cx z D tA p R s m args meth c r d) (hK : ∀ pc' P L S M, pc' = pc + n → K pc' P L S M → Go gl gx z D tA l p e R s m args below meth c Zq r Q pc' P L S M) (hJ : ∀ pc P L S M, J pc P L S M → Go gl gx z D tA l p e R s m args below meth c Zq r Q pc P L S M) (hd : decode r.2.1 pc = .ok (i, n)) (ho : okI i pc n = true) (h : stepI gl gx X d r.2.2.2.2.2 r.2.2.2.1 r.2.2.2.2.1 r.1.cls Q K J i pc P L S M)
    (hi : (∃ o, i = .goto o) ∨ (∃ q o, i = .if_icmp q o) ∨ (∃ q o, i = .ifCond q o) ∨ (∃ o, i = .ifnull o) ∨ (∃ o, i = .ifnonnull o)) : Go gl gx z D tA l p e R s m args below meth c Zq r Q pc P L S M := by
  obtain ⟨hx, hb, -⟩ := C
  rcases hi with ⟨o, rfl⟩ | ⟨q, o, rfl⟩ | ⟨q, o, rfl⟩ | ⟨o, rfl⟩ | ⟨o, rfl⟩
  all_goals simp only [okI, Bool.and_eq_true, beq_iff_eq, decide_eq_true_eq] at ho
  all_goals obtain ⟨rfl, ho⟩ := ho
  · exact go_row (hJ _ _ _ _ _ h) (fun v hv => Or.inl hv) fun H locs cells slots ad ls w => lv_goto hx hb hd (tg_eq ho) w
  · obtain ⟨y, T1, rfl, h⟩ := pI_inv h
    obtain ⟨x, T2, rfl, h⟩ := pI_inv h
    intro ad H locs cells slots ls hD hR
    have hD2 := hD.stk (T := T2) (fun v hv => Or.inl (mem2 v hv))
    have tJ := fun (a : J (tg pc o) P L T2 M) => hJ _ _ _ _ _ a ad H locs cells slots ls hD2 hR
    have tK := fun (a : K (pc + 3) P L T2 M) => hK _ _ _ _ _ rfl a ad H locs cells slots ls hD2 hR
    cases q with
    | eq => exact lv_icmp_eq hx hb hd (tg_eq ho) (fun a => tJ (h.1 a)) (fun a => tK (h.2 a))
    | ne => exact lv_icmp_ne hx hb hd (tg_eq ho) (fun a => tJ (h.1 a)) (fun a => tK (h.2 a))
    | lt => exact lv_icmp_lt hx hb hd (tg_eq ho) (fun a => tJ (h.1 a)) (fun a => tK (h.2 a))
    | ge => exact lv_icmp_ge hx hb hd (tg_eq ho) (fun a => tJ (h.1 a)) (fun a => tK (h.2 a))
    | gt => exact lv_icmp_gt hx hb hd (tg_eq ho) (fun a => tJ (h.1 a)) (fun a => tK (h.2 a))
    | le => exact lv_icmp_le hx hb hd (tg_eq ho) (fun a => tJ (h.1 a)) (fun a => tK (h.2 a))
  · obtain ⟨x, T2, rfl, h⟩ := pI_inv h
    intro ad H locs cells slots ls hD hR
    have hD2 := hD.stk (T := T2) (fun v hv => Or.inl (mem1 v hv))
    have tJ := fun (a : J (tg pc o) P L T2 M) => hJ _ _ _ _ _ a ad H locs cells slots ls hD2 hR
    have tK := fun (a : K (pc + 3) P L T2 M) => hK _ _ _ _ _ rfl a ad H locs cells slots ls hD2 hR
    cases q with
    | eq => exact lv_if_eq hx hb hd (tg_eq ho) (fun a => tJ (h.1 a)) (fun a => tK (h.2 a))
    | ne => exact lv_if_ne hx hb hd (tg_eq ho) (fun a => tJ (h.1 a)) (fun a => tK (h.2 a))
    | lt => exact lv_if_lt hx hb hd (tg_eq ho) (fun a => tJ (h.1 a)) (fun a => tK (h.2 a))
    | ge => exact lv_if_ge hx hb hd (tg_eq ho) (fun a => tJ (h.1 a)) (fun a => tK (h.2 a))
    | gt => exact lv_if_gt hx hb hd (tg_eq ho) (fun a => tJ (h.1 a)) (fun a => tK (h.2 a))
    | le => exact lv_if_le hx hb hd (tg_eq ho) (fun a => tJ (h.1 a)) (fun a => tK (h.2 a))
  · have h : pN S (fun S => K (pc + 3) P L S M) (fun S => J (tg pc o) P L S M) := h
    unfold pN at h
    split at h
    · exact go_row (hK _ _ _ _ _ rfl h) (fun v hv => Or.inl (mem1 v hv)) fun H locs cells slots ad ls w => lv_ifnull hx hb hd w
    · exact go_row (hJ _ _ _ _ _ h) (fun v hv => Or.inl (mem1 v hv)) fun H locs cells slots ad ls w => lv_ifnullN hx hb hd (tg_eq ho) w
    · exact h.elim
  · have h : pN S (fun S => J (tg pc o) P L S M) (fun S => K (pc + 3) P L S M) := h
    unfold pN at h
    split at h
    · exact go_row (hJ _ _ _ _ _ h) (fun v hv => Or.inl (mem1 v hv)) fun H locs cells slots ad ls w => lv_ifnonnull hx hb hd (tg_eq ho) w
    · exact go_row (hK _ _ _ _ _ rfl h) (fun v hv => Or.inl (mem1 v hv)) fun H locs cells slots ad ls w => lv_ifnonnullN hx hb hd w
    · exact h.elim
theorem swT_at {x : Int32} {J : Nat → Prop} : ∀ {os : List Int} {lo : Int} {k : Nat} {o : Int}, swT x pc J lo os → os[k]? = some o → x = cI (lo + k) → J (tg pc o) := by
  intro os
  induction os with
  | nil => intro lo k o _ h; simp at h
  | cons a os ih =>
    intro lo k o h hk hx
    cases k with
    | zero =>
      have : a = o := by simpa using hk
      subst this
      exact h.1 (by simpa using hx)
    | succ k => exact ih h.2 (by simpa using hk) (by rw [hx]; congr 1; omega)
theorem swL_at {x : Int32} {J : Nat → Prop} {dflt : Int} : ∀ {os : List (Int × Int)}, (∀ q ∈ os, (cI q.1).toInt = q.1) → swL x pc J dflt os → J (tg pc (Op.lookupswitch.offset os dflt x.toInt)) := by
  intro os
  induction os with
  | nil => intro _ h; exact h
  | cons a os ih =>
    intro hq h
    obtain ⟨v, o⟩ := a
    by_cases hx : x = cI v
    · have := h.1 hx
      have e : x.toInt = v := by rw [hx]; exact hq (v, o) List.mem_cons_self
      simp only [Op.lookupswitch.offset, e]
      simpa using this
    · have h2 := ih (fun q hm => hq q (List.mem_cons_of_mem _ hm)) (h.2 hx)
      have e : ¬ x.toInt = v := by
        intro e
        apply hx
        rw [cI_eq, ← e]
        simp
      have e' : ¬ v = x.toInt := fun q => e q.symm
      have : Op.lookupswitch.offset ((v, o) :: os) dflt x.toInt = Op.lookupswitch.offset os dflt x.toInt := by
        simp [Op.lookupswitch.offset, List.find?, e, e']
      rw [this]
      exact h2
theorem go_switch {i : Instr} (C : Cx z D tA p R s m args meth c r d) (hJ : ∀ pc P L S M, J pc P L S M → Go gl gx z D tA l p e R s m args below meth c Zq r Q pc P L S M) (hd : decode r.2.1 pc = .ok (i, n)) (ho : okI i pc n = true) (h : stepI gl gx X d r.2.2.2.2.2 r.2.2.2.1 r.2.2.2.2.1 r.1.cls Q K J i pc P L S M)
    (hi : (∃ o lo hi os, i = .tableswitch o lo hi os) ∨ (∃ o ps, i = .lookupswitch o ps)) : Go gl gx z D tA l p e R s m args below meth c Zq r Q pc P L S M := by
  obtain ⟨hx, hb, -⟩ := C
  rcases hi with ⟨o, lo, hi, os, rfl⟩ | ⟨o, ps, rfl⟩
  · simp only [okI, Bool.and_eq_true, decide_eq_true_eq] at ho
    obtain ⟨⟨⟨ho1, ho2⟩, ho3⟩, ho4, ho5⟩ := ho
    obtain ⟨x, T2, rfl, h⟩ := pI_inv h
    obtain ⟨h1, h2⟩ := h
    intro ad H locs cells slots ls hD hR
    have hD2 := hD.stk (T := T2) (fun v hv => Or.inl (mem1 v hv))
    have tJ := fun {t : Nat} (a : J t P L T2 M) => hJ _ _ _ _ _ a ad H locs cells slots ls hD2 hR
    by_cases ha : x.toInt < lo
    · exact lv_tableOut hx hb hd (Or.inl ha) (tg_eq ho1) (tJ (h1 (Or.inl (Int32.lt_iff_toInt_lt.mpr (by rw [ho4]; exact ha)))))
    · by_cases hb2 : hi < x.toInt
      · exact lv_tableOut hx hb hd (Or.inr hb2) (tg_eq ho1) (tJ (h1 (Or.inr (Int32.lt_iff_toInt_lt.mpr (by rw [ho5]; exact hb2)))))
      · have hlt : (x.toInt - lo).toNat < os.toList.length := by omega
        obtain ⟨off, hoff⟩ : ∃ off, os.toList[(x.toInt - lo).toNat]? = some off := ⟨_, List.getElem?_eq_getElem hlt⟩
        have hoff2 : os[(x.toInt - lo).toNat]? = some off := by rw [← Array.getElem?_toList]; exact hoff
        have hnn := of_decide_eq_true (List.all_eq_true.mp ho2 off (List.mem_of_getElem? hoff))
        refine lv_tableIn hx hb hd ha hb2 hoff2 (tg_eq hnn) (tJ (swT_at (J := fun t => J t P L T2 M) h2 hoff ?_))
        rw [cI_eq, show lo + ((x.toInt - lo).toNat : Int) = x.toInt by omega]
        simp
  · simp only [okI, Bool.and_eq_true, decide_eq_true_eq, List.all_eq_true] at ho
    obtain ⟨⟨ho1, ho2⟩, ho3⟩ := ho
    obtain ⟨x, T2, rfl, h⟩ := pI_inv h
    intro ad H locs cells slots ls hD hR
    have hD2 := hD.stk (T := T2) (fun v hv => Or.inl (mem1 v hv))
    refine lv_lookup hx hb hd (List.all_eq_true.mpr fun x hx => by obtain ⟨⟨a, b⟩, ⟨c, d⟩⟩ := x; exact decide_eq_true (ho3 _ hx)) rfl (tg_eq ?_) (hJ _ _ _ _ _ (swL_at (J := fun t => J t P L T2 M) (fun q hq => (ho2 q hq).2) h) ad H locs cells slots ls hD2 hR)
    have key : ∀ os : List (Int × Int), (∀ q ∈ os, 0 ≤ (pc : Int) + q.2) → 0 ≤ (pc : Int) + Op.lookupswitch.offset os o x.toInt := by
      intro os
      induction os with
      | nil => intro _; exact ho1
      | cons a os ih =>
        intro hq
        obtain ⟨v, o'⟩ := a
        by_cases e : v = x.toInt
        · simp only [Op.lookupswitch.offset, e]
          simpa using hq (v, o') List.mem_cons_self
        · have e' : ¬ x.toInt = v := fun q => e q.symm
          have : Op.lookupswitch.offset ((v, o') :: os) o x.toInt = Op.lookupswitch.offset os o x.toInt := by
            simp [Op.lookupswitch.offset, List.find?, e, e']
          rw [this]
          exact ih (fun q hm => hq q (List.mem_cons_of_mem _ hm))
    exact key ps.toList (fun q hq => (ho2 q hq).1)
end STEP2
end
section
/-! ONE STEP: stack, constants of the pool, statics, fields -/
section STEP3
variable {gl : Nat} {gx : Nat → Int32} {z : Nat} {D : va_G} {tA : Nat → ClassId} {l : Launch} {p : Program} {e : Env} {R : Room} {s : State} {m : MethodId} {args : Array Value} {below : List Frame} {meth : Method} {c : Code} {Zq : State → Prop} {r : MT} {Q : PO} {d : Nat}
variable {K J : Nat → PL → List AV → List AV → MM → Prop} {pc n : Nat} {P : PL} {L S T : List AV} {M : MM} {X : XT}
theorem pV_inv {S : List AV} {f : AV → List AV → Prop} (h : pV S f) : ∃ v T, S = v :: T ∧ f v T := by
  unfold pV at h
  split at h
  · exact ⟨_, _, rfl, h⟩
  · exact h.elim
theorem pK_inv {α : Type} {t : List (Nat × α)} {k : Nat} {f : α → Prop} (h : pK t k f) : ∃ v, (k, v) ∈ t ∧ f v := by
  unfold pK at h
  split at h
  · rename_i v hv
    refine ⟨v, ?_, h⟩
    clear h
    induction t with
    | nil => cases hv
    | cons a t ih =>
      obtain ⟨k', v'⟩ := a
      by_cases hk : k = k'
      · subst hk
        simp [List.lookup] at hv
        subst hv
        exact List.mem_cons_self
      · have hk2 : (k == k') = false := by simpa using hk
        simp [List.lookup, hk2] at hv
        exact List.mem_cons_of_mem _ (ih hv)
  · exact h.elim
theorem pB_inv {b : Bool} {A : Prop} (h : pB b A) : b = true ∧ A := by
  unfold pB at h
  split at h
  · exact ⟨rfl, h⟩
  · exact h.elim
theorem pO_inv {α : Type} {o : Option α} {f : α → Prop} (h : pO o f) : ∃ v, o = some v ∧ f v := by
  unfold pO at h
  split at h
  · exact ⟨_, rfl, h⟩
  · exact h.elim
theorem pP_inv {P : PL} {f : Nat → Nat → PL → Prop} (h : pP P f) : ∃ c i P', P = (c, i) :: P' ∧ f c i P' := by
  unfold pP at h
  split at h
  · rename_i q P'
    exact ⟨q.1, q.2, P', rfl, h⟩
  · exact h.elim
theorem pD_inv {d : Nat} {f : Nat → Prop} (h : pD d f) : ∃ d', d = d' + 1 ∧ f d' := by
  unfold pD at h
  split at h
  · exact h.elim
  · exact ⟨_, rfl, h⟩
theorem go_stack {i : Instr} (C : Cx z D tA p R s m args meth c r d) (hK : ∀ pc' P L S M, pc' = pc + n → K pc' P L S M → Go gl gx z D tA l p e R s m args below meth c Zq r Q pc' P L S M) (hd : decode r.2.1 pc = .ok (i, n)) (ho : okI i pc n = true) (h : stepI gl gx X d r.2.2.2.2.2 r.2.2.2.1 r.2.2.2.2.1 r.1.cls Q K J i pc P L S M)
    (hi : i = .dup ∨ i = .dup2 ∨ i = .pop) : Go gl gx z D tA l p e R s m args below meth c Zq r Q pc P L S M := by
  obtain ⟨hx, hb, -⟩ := C
  rcases hi with rfl | rfl | rfl
  all_goals (have en : n = 1 := by simpa [okI] using ho)
  all_goals subst en
  · have g : pV S (fun v S => p1 v fun v => K (pc + 1) P L (v :: v :: S) M) := h
    clear h
    obtain ⟨v, T1, rfl, g1⟩ := pV_inv g
    obtain ⟨g2, -, hc⟩ := p1_inv g1
    exact go_row (hK _ _ _ _ _ rfl g2) (fun w hw => Or.inl ((List.mem_cons.mp hw).elim (fun q => q ▸ List.mem_cons_self) id)) fun H locs cells slots ad ls w => lv_dup hx hb hd (hc ad) w
  · have g : pV S (fun w S => pV S fun v S => p1 w fun w => p1 v fun v => K (pc + 1) P L (w :: v :: w :: v :: S) M) := h
    clear h
    obtain ⟨w, T1, rfl, g1⟩ := pV_inv g
    obtain ⟨v, T2, rfl, g2⟩ := pV_inv g1
    obtain ⟨g3, -, hw⟩ := p1_inv g2
    obtain ⟨g4, -, hv⟩ := p1_inv g3
    exact go_row (hK _ _ _ _ _ rfl g4) (fun u hu => Or.inl (by
      rcases List.mem_cons.mp hu with rfl | hu
      · exact List.mem_cons_self
      · rcases List.mem_cons.mp hu with rfl | hu
        · exact mem1 _ List.mem_cons_self
        · exact hu)) fun H locs cells slots ad ls k => lv_dup2_11 hx hb hd (hw ad) (hv ad) k
  · have g : pV S (fun v S => p1 v fun _ => K (pc + 1) P L S M) := h
    clear h
    obtain ⟨v, T1, rfl, g1⟩ := pV_inv g
    obtain ⟨g2, -, hc⟩ := p1_inv g1
    exact go_row (hK _ _ _ _ _ rfl g2) (fun w hw => Or.inl (mem1 w hw)) fun H locs cells slots ad ls w => lv_pop hx hb hd (hc ad) w
theorem word_of {w : Cond} {q : Nat × Nat} (hw : ∀ w ∈ lw_g, w.before args s = true) (h : inT w q = true) (hg : goodWord w = true) : w.before args s = true := hw _ (lw_g_of (inT_mem h) hg)
theorem go_pool {i : Instr} (C : Cx z D tA p R s m args meth c r d) (hK : ∀ pc' P L S M, pc' = pc + n → K pc' P L S M → Go gl gx z D tA l p e R s m args below meth c Zq r Q pc' P L S M) (hd : decode r.2.1 pc = .ok (i, n)) (ho : okI i pc n = true) (h : stepI gl gx X d r.2.2.2.2.2 r.2.2.2.1 r.2.2.2.2.1 r.1.cls Q K J i pc P L S M)
    (hi : (∃ k, i = .ldc k) ∨ (∃ k, i = .ldc_w k) ∨ (∃ k, i = .ldc2_w k) ∨ (∃ k, i = .getstatic k)) : Go gl gx z D tA l p e R s m args below meth c Zq r Q pc P L S M := by
  obtain ⟨hx, hb, -, hown, hw, -, -, -, -, -, -, -, hk, -, -, hs⟩ := C
  rcases hi with ⟨k, rfl⟩ | ⟨k, rfl⟩ | ⟨k, rfl⟩ | ⟨k, rfl⟩
  · have en : n = 2 := by simpa [okI] using ho
    subst en
    obtain ⟨v, hm, h1⟩ := pK_inv h
    obtain ⟨h2, hu, -⟩ := p1_inv h1
    obtain ⟨q, hq⟩ := hk _ hm
    clear h
    match v, hq, h1, h2 with
    | .inl x, hq, _, h => exact go_row (hK _ _ _ _ _ rfl h) (hv1 (fun _ h => h) trivial) fun H locs cells slots ad ls w => lv_ldc hx hb hown (word_of hw hq rfl) hd w
    | .inr (.inr (.inl q)), hq, _, h =>
      obtain ⟨qc, qi⟩ := q
      change stK r.1.cls k (aR qc qi) = true at hq
      simp only [stK, Bool.and_eq_true, decide_eq_true_eq, beq_iff_eq] at hq
      obtain ⟨⟨⟨e1, e2⟩, e3⟩, e4⟩ := hq
      have e2 : qc = 16 := Nat.eq_of_beq_eq_true e2
      have e3 : qi < 13 := Nat.le_of_ble_eq_true e3
      subst e2; subst e4
      intro ad H locs cells slots ls hD hR
      have hZ := hD.1.2.2.2.1 qi e3
      rw [← e1] at hZ
      exact va_ldcS hx hb hown hZ hd (hK _ _ _ _ _ rfl h ad H locs cells slots ls (hD.stk (hv1 (fun _ h => h) (Or.inr (stv_16 e3).1))) hR)
    | .inr (.inl x), hq, h1, h => exact h1.elim
    | .inr (.inr (.inr b)), hq, _, h => cases hq
  · have en : n = 3 := by simpa [okI] using ho
    subst en
    obtain ⟨v, hm, h1⟩ := pK_inv h
    obtain ⟨x, T1, e1, h⟩ := pI_inv h1
    obtain rfl : v = aI x := (List.cons.inj e1).1
    obtain ⟨q, hq⟩ := hk _ hm
    exact go_row (hK _ _ _ _ _ rfl h) (hv1 (fun _ h => h) trivial) fun H locs cells slots ad ls w => lv_ldcw hx hb hown (word_of hw hq rfl) hd w
  · have en : n = 3 := by simpa [okI] using ho
    subst en
    obtain ⟨v, hm, h1⟩ := pK_inv h
    obtain ⟨x, T1, e1, h⟩ := pL_inv h1
    obtain rfl : v = aL x := (List.cons.inj e1).1
    obtain ⟨q, hq⟩ := hk _ hm
    exact go_row (hK _ _ _ _ _ rfl h) (hv1 (fun _ h => h) trivial) fun H locs cells slots ad ls w => lv_ldc2 hx hb hown (word_of hw hq rfl) hd w
  · have en : n = 3 := by simpa [okI] using ho
    subst en
    obtain ⟨v, hm, h1⟩ := pK_inv h
    obtain ⟨h2, hu, -⟩ := p1_inv h1
    obtain ⟨q, hq⟩ := hs _ hm
    clear h
    match v, hq, h2 with
    | .inl x, hq, h =>
      change (inT (.fieldLink r.1.cls k "java/lang/String" "COMPACT_STRINGS" "Z") q && decide (x = 1)) = true at hq
      simp only [Bool.and_eq_true, decide_eq_true_eq] at hq
      obtain ⟨hq, rfl⟩ := hq
      intro ad H locs cells slots ls hD hR
      exact va_gets hx hb hD.1.2.2.2.2.1 hD.2.1 hown (word_of hw hq rfl) (fun _ h => h) hd (hK _ _ _ _ _ rfl h ad H locs cells slots ls (hD.stk (hv1 (fun _ h => h) trivial)) hR)
    | .inr (.inr (.inl q')), hq, h =>
      obtain ⟨qc, qi⟩ := q'
      change (inT (.fieldLink r.1.cls k "StencilHouse$Reader" (stN.getD (qc - 12) "") "[I") q && Nat.ble 12 qc && Nat.ble qc 15 && (qi == 0)) = true at hq
      simp only [Bool.and_eq_true, beq_iff_eq] at hq
      obtain ⟨⟨⟨hq, e1⟩, e2⟩, rfl⟩ := hq
      have e1 : 12 ≤ qc := Nat.le_of_ble_eq_true e1
      have e2 : qc ≤ 15 := Nat.le_of_ble_eq_true e2
      have hl : ∃ t, sta qc = some t := by
        rcases (show qc = 12 ∨ qc = 13 ∨ qc = 14 ∨ qc = 15 by omega) with rfl | rfl | rfl | rfl <;> exact ⟨_, rfl⟩
      have hst : stv qc 0 = true := by
        rcases (show qc = 12 ∨ qc = 13 ∨ qc = 14 ∨ qc = 15 by omega) with rfl | rfl | rfl | rfl <;> rfl
      obtain ⟨t, ht⟩ := hl
      intro ad H locs cells slots ls hD hR
      exact va_gets hx hb (hD.1.2.1 qc t ht).1 hD.2.1 hown (word_of hw hq rfl) (fun _ h => h) hd (hK _ _ _ _ _ rfl h ad H locs cells slots ls (hD.stk (hv1 (fun _ h => h) (Or.inr hst))) hR)
    | .inr (.inl x), hq, h => cases hq
    | .inr (.inr (.inr b)), hq, h => cases hq
end STEP3
end
section
/-! ONE STEP: objects' places and arrays' -/
section STEP4
variable {gl : Nat} {gx : Nat → Int32} {z : Nat} {D : va_G} {tA : Nat → ClassId} {l : Launch} {p : Program} {e : Env} {R : Room} {s : State} {m : MethodId} {args : Array Value} {below : List Frame} {meth : Method} {c : Code} {Zq : State → Prop} {r : MT} {Q : PO} {d : Nat}
variable {K J : Nat → PL → List AV → List AV → MM → Prop} {pc n : Nat} {P : PL} {L S T : List AV} {M : MM} {X : XT}
theorem cellR.congr {ad : Nat → Nat → Nat} {M M1 : MM} {H H1 : Heap} {k i : Nat} (h : cellR D tA ad M H k i) (hq : H1[ad k i]? = H[ad k i]?) (hm : ∀ j, mv ad M1 k i j = mv ad M k i j) : cellR D tA ad M1 H1 k i := by
  have hf : (fun j => mv ad M1 k i j) = fun j => mv ad M k i j := funext hm
  unfold cellR at h ⊢
  rw [hf]
  split at h
  · obtain ⟨q, h1, h2⟩ := h
    exact ⟨q, h1, hq.trans h2⟩
  · obtain ⟨q, h1, h2⟩ := h
    exact ⟨q, h1, h2.kept hq⟩
/-- one object is written -/
theorem Rep.put {ad : Nat → Nat → Nat} {M M1 : MM} {H H1 : Heap} {k i : Nat} (h : Rep D tA z ad M H) (hl : M.2.2 k i = true) (e2 : M1.2.2 = M.2.2) (e0 : ∀ k' i' j, ¬ (k' = k ∧ i' = i) → M1.1 k' i' j = M.1 k' i' j ∧ M1.2.1 k' i' j = M.2.1 k' i' j)
    (hok : ∀ j, j < sz1 k → okA M.2.2 (M1.2.1 k i j)) (hq : ∀ q, q ≠ ad k i → H1[q]? = H[q]?) (hc : cellR D tA ad M1 H1 k i) : Rep D tA z ad M1 H1 := by
  obtain ⟨h1, h2, h3⟩ := h
  refine ⟨fun k' i' hl' => ?_, ?_, ?_⟩
  · rw [e2] at hl'
    obtain ⟨g1, g2, g3⟩ := h1 k' i' hl'
    refine ⟨g1, g2, ?_⟩
    by_cases hkk : k' = k ∧ i' = i
    · rw [hkk.1, hkk.2]; exact hc
    · refine g3.congr (hq _ fun e => hkk (h2 k' i' k i hl' hl e)) fun j => ?_
      unfold mv
      rw [(e0 k' i' j hkk).1, (e0 k' i' j hkk).2]
  · rw [e2]; exact h2
  · rw [e2]
    intro k' i' j hl' hj
    by_cases hkk : k' = k ∧ i' = i
    · rw [hkk.1] at hj ⊢; rw [hkk.2]; exact hok j hj
    · rw [(e0 k' i' j hkk).2]; exact h3 k' i' j hl' hj
theorem u3_self {α : Type} {f : Nat → Nat → Nat → α} {c i k : Nat} {v : α} : u3 f c i k v c i k = v := by simp [u3]
theorem u3_at {α : Type} {f : Nat → Nat → Nat → α} {c i k j : Nat} {v : α} : u3 f c i k v c i j = if j = k then v else f c i j := by simp [u3]
theorem u3_ne {α : Type} {f : Nat → Nat → Nat → α} {c i k c' i' k' : Nat} {v : α} (h : ¬ (c' = c ∧ i' = i)) : u3 f c i k v c' i' k' = f c' i' k' := by
  unfold u3
  rw [if_neg]
  exact fun q => h ⟨q.1, q.2.1⟩
theorem sz1_cl {k : Nat} {q : vw_C} (hcq : classes[k]? = some q) : sz1 k = q.2.2 := by
  have hk11 : k < 11 := (List.getElem?_eq_some_iff.mp hcq).1
  have hb20 : Nat.ble 20 k = false := by
    rcases hq' : Nat.ble 20 k with _ | _
    · rfl
    · have := Nat.le_of_ble_eq_true hq'
      omega
  unfold sz1
  rw [hb20]
  show (classes.getD k _).2.2 = _
  rw [List.getD_eq_getElem?_getD, hcq]
  rfl
theorem row_get (C : Cx z D tA p R s m args meth c r d) {H : Heap} {locs : List Loc} {cells slots a k j idx : Nat} {V : Nat → Value} {ls : Array Slot} {rest : List Value} {q : vw_C} (hcq : classes[k]? = some q) (ht : t_OB a (D.1 k) q.2.2 (D.2 k) H V) (hk : j < q.2.2) (hlink : (Cond.fieldLink r.1.cls idx q.1 (q.2.1 j).2.1 (q.2.1 j).2.2.1).before args s = true) (hself : (q.2.1 j).1 = q.1) (hd : decode r.2.1 pc = .ok (.getfield idx, 3))
    (kk : W p l e R s m args below meth c H locs cells slots Zq (F0 m (pc + 3) ls (V j :: rest))) : W p l e R s m args below meth c H locs cells slots Zq (F0 m pc ls (.ref a :: rest)) := by
  obtain ⟨hx, hb, -, hown, hw, -, hkf, -⟩ := C
  obtain ⟨C0, T0, N0⟩ := q
  refine va_get (D := D) (cl := classes) (tys := []) (ws := [(a, .inr (k, (List.range N0).map V))]) (C := C0) (T := T0) (N := N0) (ref := C0) hx hb hw (uwg k _ hcq) hown hkf.1 ?_ 0 rfl hcq j hk hlink (fun x h9 => by have e9 : (T0 j).1 = C0 := hself; rw [e9] at h9; exact h9) (v := V j) ?_ hd kk
  · intro k' q' h'
    cases k' with
    | zero =>
      cases h'
      exact ⟨_, hcq, ht.to fun j hj => by simp [vp_V, hj]⟩
    | succ k' => simp at h'
  · simp only [] at hk
    simp [hk]
theorem row_put (C : Cx z D tA p R s m args meth c r d) {H : Heap} {locs : List Loc} {cells slots a k j idx : Nat} {V : Nat → Value} {ls : Array Slot} {rest : List Value} {q : vw_C} (hS : va_S (aA z) s.heap H locs) (ha : z ≤ a) (hcq : classes[k]? = some q) (ht : t_OB a (D.1 k) q.2.2 (D.2 k) H V) (hk : j < q.2.2) (hlink : (Cond.fieldLink r.1.cls idx q.1 (q.2.1 j).2.1 (q.2.1 j).2.2.1).before args s = true) (hself : (q.2.1 j).1 = q.1)
    (hfin : (q.2.1 j).2.2.2 = true → r.1.name = "<init>" ∧ q.1 = r.1.cls) {ty : FieldType} {v : Value} (hdc : parseFieldDescriptor (q.2.1 j).2.2.1 = some ty) (hn : narrow ty v = v) (hfit : fits ty v = true) (hd : decode r.2.1 pc = .ok (.putfield idx, 3))
    (kk : ∀ (H1 : Heap) (locs1 : List Loc), t_OB a (D.1 k) q.2.2 (D.2 k) H1 (updV V j v) → (∀ x, x ≠ a → H1[x]? = H[x]?) → va_S (aA z) s.heap H1 locs1 → W p l e R s m args below meth c H1 locs1 cells slots Zq (F0 m (pc + 3) ls rest)) : W p l e R s m args below meth c H locs cells slots Zq (F0 m pc ls (v :: .ref a :: rest)) := by
  obtain ⟨hx, hb, -, hown, hw, hini, hkf, -⟩ := C
  obtain ⟨C0, T0, N0⟩ := q
  have hap := va_apart (own := r.1.cls) hw (uwg k _ hcq) (ftk k) (tyg k _ hcq) (nmg k _ hcq) hkf.1 hcq
  obtain ⟨cell, q1, q2, q3, q4⟩ := ht
  obtain ⟨hSl, hfc, kC, hkC, hkind⟩ := hkf.1.1 k _ hcq
  obtain ⟨cf, kf, fi, f, hi, hsl⟩ := hSl j hk
  have hlay := hw _ (uwg k _ hcq _ (u_in_lay hk))
  have hst := (u_facts hfc hkC (u_lays hw (uwg k _ hcq) hk) hi).1
  have hi2 : s.fieldFound? C0 (T0 j).2.1 (T0 j).2.2.1 = some (cf, kf, fi, f) := by rw [show (T0 j).1 = C0 from hself] at hi; exact hi
  by_cases hf : (T0 j).2.2.2 = true
  · obtain ⟨hn1, hn2⟩ := hfin hf
    have h6 := u_fits hfc hkC hkind (u_lays hw (uwg k _ hcq) hk) hi hdc hn hfit
    unfold u_lay at hlay
    rw [if_pos hf] at hlay
    have hcf : m.cls = cf := by
      obtain ⟨_, _, c', _, _, _, -, -, hf', -, -, -, hown2, -⟩ := Cond.laysFinal_spec hlay
      have e1 : c' = cf := by have := hi.symm.trans hf'; simp at this; exact this.1.symm
      rw [show (T0 j).1 = r.1.cls from hself.trans hn2] at hown2
      rw [← e1]; exact Option.some.inj (hown.symm.trans hown2)
    refine W.putFinK hx hb hown hlink hi2 hst hcf (hini hn1) (by rw [q2]; exact h6) q1 q3 (by rw [hsl]; exact k2_hasslot (q4 j hk)) rfl rfl hd fun H' e1 e2 e3 => ?_
    rw [hsl] at e1 ⊢
    exact kk H' _ ⟨_, e1, q2, q3, t_set q4 hap hk v⟩ e3 (hS.put e2 e3 ha)
  · have hf : (T0 j).2.2.2 = false := by simpa using hf
    unfold u_lay at hlay
    rw [if_neg (by rw [hf]; decide)] at hlay
    have h6 := u_store hfc hkC hkind hlay hi hdc hn hfit
    refine W.putK hx hb (f := f) ⟨hown, hlink, ⟨_, _, _, hi2⟩, hst⟩ (by rw [q2]; exact h6) q1 q3 (by rw [hsl]; exact k2_hasslot (q4 j hk)) rfl rfl hd fun H' e1 e2 e3 => ?_
    rw [hsl] at e1 ⊢
    exact kk H' _ ⟨_, e1, q2, q3, t_set q4 hap hk v⟩ e3 (hS.put e2 e3 ha)
theorem mem_single {D : va_G} {cl : List vw_C} {q : Nat × va_E} {H : Heap} (h : va_at D cl q H) : va_P D cl [q] H := by
  intro k q' h'
  cases k with
  | zero => cases h'; exact h
  | succ k => simp at h'
/-- an array as the kit has it -/
theorem ar_I {ad : Nat → Nat → Nat} {H : Heap} {k i : Nat} {q : FieldType × Nat} (hk : ak k = some q) (h : cellR D tA ad M H k i) (hI : isIT q.1 = true) : va_P D classes [(ad k i, .inl (tA k, q.2, .inl (M.1 k i)))] H := by
  have hb : Nat.ble 20 k = true := by
    unfold ak at hk
    split at hk
    · assumption
    · cases hk
  unfold cellR at h
  rw [hb] at h
  obtain ⟨q', e1, e2⟩ := h
  cases e1.symm.trans hk
  have hf : ∀ j, ftk k j = q.1 := fun j => by
    unfold ftk
    unfold ak at hk
    rw [hb] at hk ⊢
    simp only [] at hk ⊢
    rw [hk]
  refine mem_single ?_
  show H[ad k i]? = some (vp_cell _ _)
  rw [e2, vp_cell_i]
  congr 2
  funext j
  unfold mv
  rw [hf j, hI]
theorem kf_arr {U : State} (h : KF D tA U) {k : Nat} {q : FieldType × Nat} (hk : ak k = some q) : va_K D classes [(tA k, q.1)] U := by
  refine ⟨h.1.1, fun j q' h' => ?_⟩
  cases j with
  | zero => cases h'; exact h.2.1 k q hk
  | succ j => simp at h'
theorem go_getfield {k : Nat} (C : Cx z D tA p R s m args meth c r d) (hK : ∀ pc' P L S M, pc' = pc + n → K pc' P L S M → Go gl gx z D tA l p e R s m args below meth c Zq r Q pc' P L S M) (hd : decode r.2.1 pc = .ok (.getfield k, n)) (ho : okI (.getfield k) pc n = true) (h : stepI gl gx X d r.2.2.2.2.2 r.2.2.2.1 r.2.2.2.2.1 r.1.cls Q K J (.getfield k) pc P L S M) : Go gl gx z D tA l p e R s m args below meth c Zq r Q pc P L S M := by
  have en : n = 3 := by simpa [okI] using ho
  subst en
  unfold stepI at h
  dsimp only at h
  obtain ⟨k0, i, T1, rfl, h1⟩ := pR_inv h
  obtain ⟨⟨ci, j, b⟩, hm, h2⟩ := pK_inv h1
  obtain ⟨hb, h3⟩ := pB_inv h2
  have hb : k0 = ci := Nat.eq_of_beq_eq_true hb
  subst hb
  obtain ⟨w, hf⟩ := C.2.2.2.2.2.2.2.2.2.2.1 _ hm
  clear h h1 h2
  unfold fOK at hf
  dsimp only at hf h3
  split at hf
  · rename_i h16
    rw [h16] at h3
    have e16 : k0 = 16 := Nat.eq_of_beq_eq_true h16
    subst e16
    intro ad H locs cells slots ls hD hR
    have hi13 : i < 13 := by
      rcases hD.2.2.2.2.2.2.1 (aR 16 i) List.mem_cons_self with q | q
      · exact absurd (hD.2.2.1.1 16 i q).1 (by decide)
      · exact stv_hi q rfl
    have h17 : okA M.2.2 (aR 17 i) := Or.inr (stv_16 hi13).2
    have hE := hD.1.2.2.1.1 i hi13
    cases j with
    | zero =>
      simp only [Bool.and_eq_true, Bool.not_eq_true'] at hf
      obtain ⟨f1, rfl⟩ := hf
      exact vk_getf C.1 C.2.1 hE.2.2.1 hD.2.1 C.2.2.2.1 (word_of C.2.2.2.2.1 f1 rfl) (fun _ h => h) hd (hK _ _ _ _ _ rfl h3 ad H locs cells slots ls (hD.stk (hv1 mem1 h17)) hR)
    | succ j =>
      simp only [Bool.and_eq_true] at hf
      obtain ⟨f1, rfl⟩ := hf
      exact vk_getf C.1 C.2.1 hE.2.1 hD.2.1 C.2.2.2.1 (word_of C.2.2.2.2.1 f1 rfl) (fun _ h => h) hd (hK _ _ _ _ _ rfl h3 ad H locs cells slots ls (hD.stk (hv1 mem1 trivial)) hR)
  · rename_i h16
    rw [h16] at h3
    split at hf
    · rename_i q hcq
      simp only [Bool.and_eq_true, decide_eq_true_eq, beq_iff_eq] at hf
      obtain ⟨⟨⟨⟨f1, f2⟩, f3⟩, f4⟩, f5⟩ := hf
      have f1 : j < q.2.2 := Nat.le_of_ble_eq_true f1
      have hk11 : k0 < 11 := (List.getElem?_eq_some_iff.mp hcq).1
      have hb20 : Nat.ble 20 k0 = false := by
        rcases hq : Nat.ble 20 k0 with _ | _
        · rfl
        · have := Nat.le_of_ble_eq_true hq
          omega
      intro ad H locs cells slots ls hD hR
      have hlv : M.2.2 k0 i = true := by
        rcases hD.2.2.2.2.2.2.1 (aR k0 i) List.mem_cons_self with q | q
        · exact q
        · have q := stv_k q
          unfold stk at q
          simp only [Bool.and_eq_true] at q
          have := Nat.le_of_ble_eq_true q.1
          omega
      obtain ⟨-, g2, g3⟩ := hD.2.2.1.1 k0 i hlv
      unfold cellR at g3
      rw [hb20] at g3
      obtain ⟨q', e1, e2⟩ := g3
      cases e1.symm.trans hcq
      have row := row_get (Zq := Zq) (locs := locs) (cells := cells) (slots := slots) (l := l) (e := e) (below := below) (ls := ls) (rest := T1.map (cv ad)) C hcq e2 f1 (word_of C.2.2.2.2.1 f2 rfl) f3 hd
      refine row ?_
      unfold mv
      cases b with
      | true =>
        rw [f4]
        exact hK _ _ _ _ _ rfl h3 ad H locs cells slots ls (hD.stk (hv1 mem1 trivial)) hR
      | false =>
        rw [f4]
        exact hK _ _ _ _ _ rfl h3 ad H locs cells slots ls (hD.stk (hv1 mem1 (hD.2.2.1.2.2 k0 i j hlv (by rw [sz1_cl hcq]; exact f1)))) hR
    · cases hf
theorem lv_of {ad : Nat → Nat → Nat} {H : Heap} {locs : List Loc} {cells slots : Nat} {ls : Array Slot} {k i : Nat} (hD : Dx gl gx z D tA R s r ad H locs cells slots ls P L S M) (hm : aR k i ∈ S) (hk : stk k = false) : M.2.2 k i = true := by
  rcases hD.2.2.2.2.2.2.1 _ hm with q | q
  · exact q
  · have q := stv_k q
    rw [hk] at q
    cases q
theorem Dx.mem {M1 : MM} {ad : Nat → Nat → Nat} {H H1 : Heap} {locs locs1 : List Loc} {cells slots : Nat} {ls : Array Slot} (h : Dx gl gx z D tA R s r ad H locs cells slots ls P L S M) (e2 : M1.2.2 = M.2.2) (hR : Rep D tA z ad M1 H1) (hS : va_S (aA z) s.heap H1 locs1) (hT : ∀ v ∈ T, v ∈ S) : Dx gl gx z D tA R s r ad H1 locs1 cells slots ls P L T M1 := by
  obtain ⟨h1, h2, h3, h4, h5, h6, h7, h8, h9⟩ := h
  exact ⟨h1, hS, hR, h4, h5, by rw [e2]; exact h6, by rw [e2]; exact fun v hv => h7 v (hT v hv), h8, h9⟩
def tyK (t : FieldType) : Bool := match t with
  | .int | .boolean | .byte | .long | .object _ | .array _ => true
  | _ => false
theorem ty_ref : ∀ t : FieldType, isIT t = false → (t = .long → False) → tyK t = true → ∀ v : Value, (v = .null ∨ ∃ a, v = .ref a) → narrow t v = v ∧ fits t v = true := by
  intro t h1 h2 h3 v h4
  cases t
  case long => exact (h2 rfl).elim
  case object => rcases h4 with rfl | ⟨a, rfl⟩ <;> exact ⟨by simp [narrow], by simp [fits]⟩
  case array => rcases h4 with rfl | ⟨a, rfl⟩ <;> exact ⟨by simp [narrow], by simp [fits]⟩
  all_goals first | (exfalso; revert h1; decide) | (exfalso; revert h3; decide)
theorem tyK_all : fts.all (fun l => l.all tyK) = true := by decide +kernel
theorem tyK_at {k j : Nat} (h : Nat.ble 20 k = false) : tyK (ftk k j) = true := by
  unfold ftk
  rw [h]
  show tyK ((fts.getD k []).getD j .int) = true
  rw [List.getD_eq_getElem?_getD, List.getD_eq_getElem?_getD]
  cases hk : fts[k]? with
  | none => rfl
  | some l =>
    have hl := List.all_eq_true.mp tyK_all l (List.mem_of_getElem? hk)
    show tyK (l[j]?.getD .int) = true
    cases hj : l[j]? with
    | none => rfl
    | some t => exact List.all_eq_true.mp hl t (List.mem_of_getElem? hj)
theorem finB_eq {k j : Nat} {q : vw_C} (hq : classes[k]? = some q) : finB k j = (q.2.1 j).2.2.2 := by
  unfold finB
  rw [List.getD_eq_getElem?_getD, hq]
  rfl
theorem go_putfield {k : Nat} (C : Cx z D tA p R s m args meth c r d) (hmk : r.2.2.2.2.1 = 2 → r.1.name = "<init>") (hK : ∀ pc' P L S M, pc' = pc + n → K pc' P L S M → Go gl gx z D tA l p e R s m args below meth c Zq r Q pc' P L S M) (hd : decode r.2.1 pc = .ok (.putfield k, n)) (ho : okI (.putfield k) pc n = true) (h : stepI gl gx X d r.2.2.2.2.2 r.2.2.2.1 r.2.2.2.2.1 r.1.cls Q K J (.putfield k) pc P L S M) : Go gl gx z D tA l p e R s m args below meth c Zq r Q pc P L S M := by
  have en : n = 3 := by simpa [okI] using ho
  subst en
  unfold stepI at h
  dsimp only at h
  obtain ⟨v, T0, rfl, h0⟩ := pV_inv h
  obtain ⟨k0, i, T1, rfl, h1⟩ := pR_inv h0
  obtain ⟨⟨ci, j, b⟩, hm, h2⟩ := pK_inv h1
  obtain ⟨hb, h3⟩ := pB_inv h2
  have hb : k0 = ci := Nat.eq_of_beq_eq_true hb
  subst hb
  obtain ⟨hfb, h4⟩ := pB_inv h3
  obtain ⟨w, hf⟩ := C.2.2.2.2.2.2.2.2.2.2.1 _ hm
  clear h h0 h1 h2 h3
  unfold fOK at hf
  dsimp only at hf h4 hfb
  intro ad H locs cells slots ls hD hR
  split at hf
  · rename_i h16
    have e16 : k0 = 16 := Nat.eq_of_beq_eq_true h16
    subst e16
    exfalso
    rw [show finB 16 j = false from rfl] at hfb
    cases hfb
  · split at hf
    · rename_i q hcq
      simp only [Bool.and_eq_true, decide_eq_true_eq, beq_iff_eq] at hf
      obtain ⟨⟨⟨⟨f1, f2⟩, f3⟩, f4⟩, f5⟩ := hf
      have f1 : j < q.2.2 := Nat.le_of_ble_eq_true f1
      have hk11 : k0 < 11 := (List.getElem?_eq_some_iff.mp hcq).1
      have hb20 : Nat.ble 20 k0 = false := by
        rcases hq : Nat.ble 20 k0 with _ | _
        · rfl
        · have := Nat.le_of_ble_eq_true hq
          omega
      have hst : stk k0 = false := by
        unfold stk
        rcases hq : Nat.ble 11 k0 with _ | _
        · rfl
        · have := Nat.le_of_ble_eq_true hq
          omega
      have hlv := lv_of hD (List.mem_cons_of_mem _ List.mem_cons_self) hst
      obtain ⟨-, g2, g3⟩ := hD.2.2.1.1 k0 i hlv
      have g3' := g3
      unfold cellR at g3
      rw [hb20] at g3
      obtain ⟨q', e1, e2⟩ := g3
      cases e1.symm.trans hcq
      have hfin : (q.2.1 j).2.2.2 = true → r.1.name = "<init>" ∧ q.1 = r.1.cls := by
        intro e
        rw [finB_eq hcq, e] at hfb
        simp only [Bool.and_eq_true, decide_eq_true_eq] at hfb
        refine ⟨hmk (Nat.eq_of_beq_eq_true hfb.1), ?_⟩
        rw [hfb.2, List.getD_eq_getElem?_getD, hcq]
        rfl
      -- the write, for any value that fits
      have go : ∀ (v : AV) (M1 : MM), narrow (ftk k0 j) (cv ad v) = cv ad v → fits (ftk k0 j) (cv ad v) = true → M1.2.2 = M.2.2 → (∀ k' i' j', ¬ (k' = k0 ∧ i' = i) → M1.1 k' i' j' = M.1 k' i' j' ∧ M1.2.1 k' i' j' = M.2.1 k' i' j') → (∀ j', j' < sz1 k0 → okA M.2.2 (M1.2.1 k0 i j')) → (∀ j', mv ad M1 k0 i j' = updV (fun j => mv ad M k0 i j) j (cv ad v) j') → K (pc + 3) P L T1 M1 →
          W p l e R s m args below meth c H locs cells slots Zq (F0 m pc ls (cv ad v :: .ref (ad k0 i) :: T1.map (cv ad))) := by
        intro v M1 a1 a2 a3 a4 a5 a6 a7
        refine row_put C hD.2.1 g2 hcq e2 f1 (word_of C.2.2.2.2.1 f2 rfl) f3 hfin f5 a1 a2 hd fun H1 locs1 b1 b2 b3 => ?_
        have hc1 : cellR D tA ad M1 H1 k0 i := by
          unfold cellR
          rw [hb20]
          exact ⟨q, hcq, b1.to fun j' _ => (a6 j').symm⟩
        exact hK _ _ _ _ _ rfl a7 ad H1 locs1 cells slots ls (hD.mem a3 (hD.2.2.1.put hlv a3 a4 a5 b2 hc1) b3 mem2) (by rw [a3]; exact hR)
      have old := hD.2.2.1.2.2 k0 i
      cases b with
      | true =>
        obtain ⟨x, T9, e9, h5⟩ := pI_inv h4
        obtain rfl : v = aI x := (List.cons.inj e9).1
        have wr : ∀ (hn : narrow (ftk k0 j) (.int x) = .int x) (hft : fits (ftk k0 j) (.int x) = true), K (pc + 3) P L T1 (u3 M.1 k0 i j x, M.2) → W p l e R s m args below meth c H locs cells slots Zq (F0 m pc ls (cv ad (aI x) :: .ref (ad k0 i) :: T1.map (cv ad))) := by
          intro hn hft hk
          refine go (aI x) (u3 M.1 k0 i j x, M.2) hn hft rfl (fun k' i' j' hh => ⟨u3_ne hh, rfl⟩) (fun j' hj' => old j' hlv hj') (fun j' => ?_) hk
          · unfold mv updV
            by_cases hj : j' = j
            · subst hj
              simp [f4, u3_at, cv]
            · simp [hj, u3_at]
        split at h5
        · rename_i ht
          exact wr (by rw [ht]; rfl) (by rw [ht]; rfl) h5
        · exact wr h5.1.1 h5.1.2 h5.2
      | false =>
        dsimp only at h4
        have wr : ∀ (v : AV), okA M.2.2 v → narrow (ftk k0 j) (cv ad v) = cv ad v → fits (ftk k0 j) (cv ad v) = true → K (pc + 3) P L T1 (M.1, u3 M.2.1 k0 i j v, M.2.2) → W p l e R s m args below meth c H locs cells slots Zq (F0 m pc ls (cv ad v :: .ref (ad k0 i) :: T1.map (cv ad))) := by
          intro v hv hn hf hk
          refine go v (M.1, u3 M.2.1 k0 i j v, M.2.2) hn hf rfl (fun k' i' j' hh => ⟨rfl, u3_ne hh⟩) (fun j' hj' => ?_) (fun j' => ?_) hk
          · show okA M.2.2 (u3 M.2.1 k0 i j v k0 i j')
            rw [u3_at]
            split
            · exact hv
            · exact old j' hlv hj'
          · unfold mv updV
            by_cases hj : j' = j
            · subst hj
              simp [f4, u3_at]
            · simp [hj, u3_at]
        have hvS := hD.2.2.2.2.2.2.1 v List.mem_cons_self
        split at h4
        · rename_i ht
          obtain ⟨x, T9, e9, h5⟩ := pL_inv h4
          obtain rfl : v = aL x := (List.cons.inj e9).1
          exact wr _ trivial (by rw [ht]; rfl) (by rw [ht]; rfl) h5
        · rename_i hnl
          have hty := ty_ref
          rcases pA_inv h4 with ⟨c', i', T9, e9, h5⟩ | ⟨T9, e9, h5⟩
          · obtain rfl : v = aR c' i' := (List.cons.inj e9).1
            have := hty _ f4 hnl (tyK_at hb20) (cv ad (aR c' i')) (Or.inr ⟨_, rfl⟩)
            exact wr _ hvS this.1 this.2 h5
          · obtain rfl : v = aN := (List.cons.inj e9).1
            have := hty _ f4 hnl (tyK_at hb20) (cv ad aN) (Or.inl rfl)
            exact wr _ trivial this.1 this.2 h5
    · cases hf
end STEP4
end
section
/-! ONE STEP: arrays -/
section STEP5
variable {gl : Nat} {gx : Nat → Int32} {z : Nat} {D : va_G} {tA : Nat → ClassId} {l : Launch} {p : Program} {e : Env} {R : Room} {s : State} {m : MethodId} {args : Array Value} {below : List Frame} {meth : Method} {c : Code} {Zq : State → Prop} {r : MT} {Q : PO} {d : Nat}
variable {K J : Nat → PL → List AV → List AV → MM → Prop} {pc n : Nat} {P : PL} {L S T : List AV} {M : MM} {X : XT}
theorem ak_le {k : Nat} {q : FieldType × Nat} (hk : ak k = some q) : Nat.ble 20 k = true := by
  unfold ak at hk
  split at hk
  · assumption
  · cases hk
theorem ak_st {k : Nat} {q : FieldType × Nat} (hk : ak k = some q) : stk k = false := by
  have := Nat.le_of_ble_eq_true (ak_le hk)
  unfold stk
  rcases hq : Nat.ble k 19 with _ | _
  · simp
  · have := Nat.le_of_ble_eq_true hq
    omega
theorem ak_ft {k : Nat} {q : FieldType × Nat} (hk : ak k = some q) (j : Nat) : ftk k j = q.1 := by
  have hb := ak_le hk
  unfold ftk
  unfold ak at hk
  rw [hb] at hk ⊢
  simp only [] at hk ⊢
  rw [hk]
theorem ar_at {ad : Nat → Nat → Nat} {H : Heap} {k i : Nat} {q : FieldType × Nat} (hk : ak k = some q) (h : cellR D tA ad M H k i) : H[ad k i]? = some (arrV (tA k) q.2 (fun j => mv ad M k i j)) := by
  unfold cellR at h
  rw [ak_le hk] at h
  obtain ⟨q', e1, e2⟩ := h
  cases e1.symm.trans hk
  exact e2
theorem sz1_ak {k : Nat} {q : FieldType × Nat} (hk : ak k = some q) : sz1 k = q.2 := by
  unfold sz1
  rw [ak_le hk, hk]
  rfl
theorem isInt_eq {t : FieldType} (h : isInt t = true) : t = .int := by
  cases t <;> first | rfl | (exfalso; revert h; decide) | (simp [isInt] at h)
theorem isB_eq {t : FieldType} (h : (isIT t && !isInt t) = true) : t = .byte ∨ t = .boolean := by
  cases t <;> first | exact Or.inl rfl | exact Or.inr rfl | (exfalso; revert h; decide) | (simp [isIT] at h)
/-- what a live array is on the heap -/
theorem arr_live {ad : Nat → Nat → Nat} {H : Heap} {locs : List Loc} {cells slots : Nat} {ls : Array Slot} {k i : Nat} {q : FieldType × Nat} (hD : Dx gl gx z D tA R s r ad H locs cells slots ls P L S M) (hm : aR k i ∈ S) (hk : ak k = some q) : M.2.2 k i = true ∧ z ≤ ad k i ∧ H[ad k i]? = some (arrV (tA k) q.2 (fun j => mv ad M k i j)) := by
  have hlv := lv_of hD hm (ak_st hk)
  obtain ⟨-, g2, g3⟩ := hD.2.2.1.1 k i hlv
  exact ⟨hlv, g2, ar_at hk g3⟩
theorem arr_put {ad : Nat → Nat → Nat} {H H1 : Heap} {locs : List Loc} {cells slots : Nat} {ls : Array Slot} {k i j0 : Nat} {w : Value} {q : FieldType × Nat} {M1 : MM} (hD : Dx gl gx z D tA R s r ad H locs cells slots ls P L S M) (hlv : M.2.2 k i = true) (hk : ak k = some q) (e2 : M1.2.2 = M.2.2) (e0 : ∀ k' i' j, ¬ (k' = k ∧ i' = i) → M1.1 k' i' j = M.1 k' i' j ∧ M1.2.1 k' i' j = M.2.1 k' i' j) (hok : ∀ j, j < sz1 k → okA M.2.2 (M1.2.1 k i j)) (hm : ∀ j, mv ad M1 k i j = updV (fun j => mv ad M k i j) j0 w j)
    (he : H1[ad k i]? = some ((arrV (tA k) q.2 (fun j => mv ad M k i j)).setSlot j0 w)) (z1 : H1.size = H.size) (oq : ∀ x, x ≠ ad k i → H1[x]? = H[x]?) (hT : ∀ v ∈ T, v ∈ S) : Dx gl gx z D tA R s r ad H1 (locs ++ [⟨ad k i, j0⟩]) cells slots ls P L T M1 := by
  have hc : cellR D tA ad M1 H1 k i := by
    unfold cellR
    rw [ak_le hk]
    refine ⟨q, hk, ?_⟩
    rw [he, arrV_store]
    congr 2
    funext j
    exact (hm j).symm
  exact hD.mem e2 (hD.2.2.1.put hlv e2 e0 hok oq hc) (hD.2.1.put z1 oq (hD.2.2.1.1 k i hlv).2.1) hT
theorem mv_I {ad : Nat → Nat → Nat} {k i j : Nat} {q : FieldType × Nat} (hk : ak k = some q) (hI : isIT q.1 = true) : mv ad M k i j = .int (M.1 k i j) := by
  unfold mv
  rw [ak_ft hk, hI]
theorem mv_A {ad : Nat → Nat → Nat} {k i j : Nat} {q : FieldType × Nat} (hk : ak k = some q) (hI : isIT q.1 = false) : mv ad M k i j = cv ad (M.2.1 k i j) := by
  unfold mv
  rw [ak_ft hk, hI]
theorem arr_in {j : Int32} {n : Nat} {cA : ClassId} {f : Nat → Value} (h : vp_in j n) : ¬ (j < 0 ∨ (arrV cA n f).slots.size ≤ j.toNatClampNeg) := by rw [arrV_size]; exact h
theorem vp_lt {j : Int32} {n : Nat} (h : vp_in j n) : j.toNatClampNeg < n := Nat.not_le.mp fun q => h (Or.inr q)
theorem go_loadA {i : Instr} (C : Cx z D tA p R s m args meth c r d) (hK : ∀ pc' P L S M, pc' = pc + n → K pc' P L S M → Go gl gx z D tA l p e R s m args below meth c Zq r Q pc' P L S M) (hd : decode r.2.1 pc = .ok (i, n)) (ho : okI i pc n = true) (h : stepI gl gx X d r.2.2.2.2.2 r.2.2.2.1 r.2.2.2.2.1 r.1.cls Q K J i pc P L S M) (hi : i = .iaload ∨ i = .baload ∨ i = .aaload ∨ i = .arraylength) : Go gl gx z D tA l p e R s m args below meth c Zq r Q pc P L S M := by
  have hkf := C.2.2.2.2.2.2.1
  have hx := C.1
  have hb := C.2.1
  rcases hi with rfl | rfl | rfl | rfl
  all_goals (have en : n = 1 := by simpa [okI] using ho)
  all_goals subst en
  all_goals unfold stepI at h
  all_goals dsimp only at h
  · obtain ⟨j, T0, rfl, h0⟩ := pI_inv h
    obtain ⟨k, i, T1, rfl, h1⟩ := pR_inv h0
    intro ad H locs cells slots ls hD hR
    split at h1
    · rename_i q hk
      obtain ⟨hI, hin, h2⟩ := pB_inv h1
      obtain ⟨hlv, hz, ha⟩ := arr_live hD (List.mem_cons_of_mem _ List.mem_cons_self) hk
      have hI2 : q.1 = .int := isInt_eq hI
      have harr := (hkf.2.1 k q hk).1 q.2 (fun j => mv ad M k i j)
      rw [hI2] at harr
      exact W.iald (v := .int (M.1 k i j.toNatClampNeg)) hx hb ha harr (fun q => by cases q) (arr_in hin) (by rw [arrV_read _ _ (vp_lt hin), mv_I hk (by rw [hI2]; rfl)]) rfl rfl hd (hK _ _ _ _ _ rfl h2 ad H locs cells slots ls (hD.stk (hv1 mem2 trivial)) hR)
    · split at h1
      · rename_i t ht
        obtain ⟨hin, h2⟩ := h1
        have hT := (hD.1.2.1 k t ht).2
        have hk4 : k = 12 ∨ k = 13 ∨ k = 14 ∨ k = 15 := by
          unfold sta at ht
          split at ht <;> first | (cases ht; done) | omega
        have hi0 : i = 0 := by
          rcases hD.2.2.2.2.2.2.1 (aR k i) (List.mem_cons_of_mem _ List.mem_cons_self) with q | q
          · have := (hD.2.2.1.1 k i q).1
            rcases hk4 with rfl | rfl | rfl | rfl <;> exact absurd this (by decide)
          · rcases hk4 with rfl | rfl | rfl | rfl <;> exact stv_lo q rfl
        subst hi0
        exact va_ti hx hb hT hD.2.1 hin rfl hd (hK _ _ _ _ _ rfl h2 ad H locs cells slots ls (hD.stk (hv1 mem2 trivial)) hR)
      · obtain ⟨h11, hin, h2⟩ := pB_inv h1
        have h11 : k = 11 := Nat.eq_of_beq_eq_true h11
        subst h11
        have hi0 : i = 0 := by
          rcases hD.2.2.2.2.2.2.1 (aR 11 i) (List.mem_cons_of_mem _ List.mem_cons_self) with q | q
          · exact absurd (hD.2.2.1.1 11 i q).1 (by decide)
          · exact stv_lo q rfl
        subst hi0
        have hlt := hD.1.1.2
        exact va_sld hx hb hD.1.1.1 (Nat.lt_of_lt_of_le hlt C.2.2.2.2.2.2.2.1) (Nat.not_le.mpr hlt) hD.2.1 hin hd (hK _ _ _ _ _ rfl h2 ad H locs cells slots ls (hD.stk (hv1 mem2 trivial)) hR)
  · obtain ⟨j, T0, rfl, h0⟩ := pI_inv h
    obtain ⟨k, i, T1, rfl, h1⟩ := pR_inv h0
    intro ad H locs cells slots ls hD hR
    split at h1
    · rename_i q hk
      obtain ⟨hI, hin, h2⟩ := pB_inv h1
      obtain ⟨hlv, hz, ha⟩ := arr_live hD (List.mem_cons_of_mem _ List.mem_cons_self) hk
      have hIT : isIT q.1 = true := by
        simp only [Bool.and_eq_true] at hI
        exact hI.1
      have harr := (hkf.2.1 k q hk).1 q.2 (fun j => mv ad M k i j)
      have hv : (arrV (tA k) q.2 (fun j => mv ad M k i j)).slots[j.toNatClampNeg]? = some (.int (M.1 k i j.toNatClampNeg)) := by rw [arrV_read _ _ (vp_lt hin), mv_I hk hIT]
      rcases isB_eq hI with hI2 | hI2
      · rw [hI2] at harr
        exact W.bald hx hb ha harr (fun q => by cases q) (arr_in hin) hv rfl rfl hd (hK _ _ _ _ _ rfl h2 ad H locs cells slots ls (hD.stk (hv1 mem2 trivial)) hR)
      · rw [hI2] at harr
        exact W.zald hx hb ha harr (fun q => by cases q) (arr_in hin) hv rfl rfl hd (hK _ _ _ _ _ rfl h2 ad H locs cells slots ls (hD.stk (hv1 mem2 trivial)) hR)
    · obtain ⟨h17, hin, h2⟩ := pB_inv h1
      have h17 : k = 17 := Nat.eq_of_beq_eq_true h17
      subst h17
      have hi13 : i < 13 := by
        rcases hD.2.2.2.2.2.2.1 (aR 17 i) (List.mem_cons_of_mem _ List.mem_cons_self) with q | q
        · exact absurd (hD.2.2.1.1 17 i q).1 (by decide)
        · exact stv_hi q rfl
      have hE := (hD.1.2.2.1.1 i hi13).2.2.2
      have hln : (stx.map List.length).getD i 0 = (stx.getD i []).length := by
        rw [List.getD_eq_getElem?_getD, List.getD_eq_getElem?_getD, List.getElem?_map]
        cases stx[i]? <;> rfl
      rw [hln] at hE
      exact va_tb hx hb hE hD.2.1 hin rfl hd (hK _ _ _ _ _ rfl h2 ad H locs cells slots ls (hD.stk (hv1 mem2 trivial)) hR)
  · obtain ⟨j, T0, rfl, h0⟩ := pI_inv h
    obtain ⟨k, i, T1, rfl, h1⟩ := pR_inv h0
    obtain ⟨q, hk, h2⟩ := pO_inv h1
    intro ad H locs cells slots ls hD hR
    split at h2
    · rename_i C0 hty
      obtain ⟨hin, h3⟩ := h2
      obtain ⟨hlv, hz, ha⟩ := arr_live hD (List.mem_cons_of_mem _ List.mem_cons_self) hk
      have harr := (hkf.2.1 k q hk).1 q.2 (fun j => mv ad M k i j)
      exact W.aald (ty := q.1) hx hb ha harr (by rw [hty]; rfl) (fun q => by cases q) (arr_in hin) (by rw [arrV_read _ _ (vp_lt hin), mv_A hk (by rw [hty]; rfl)]) rfl rfl hd (hK _ _ _ _ _ rfl h3 ad H locs cells slots ls (hD.stk (hv1 mem2 (hD.2.2.1.2.2 k i _ hlv (by rw [sz1_ak hk]; exact vp_lt hin)))) hR)
    · exact h2.elim
  · obtain ⟨k, i, T1, rfl, h1⟩ := pR_inv h
    intro ad H locs cells slots ls hD hR
    split at h1
    · rename_i q hk
      obtain ⟨hlv, hz, ha⟩ := arr_live hD List.mem_cons_self hk
      have harr := (hkf.2.1 k q hk).1 q.2 (fun j => mv ad M k i j)
      exact W.alen (n := Int32.ofNat q.2) hx hb ha harr (by rw [arrV_size]) rfl rfl hd (hK _ _ _ _ _ rfl h1 ad H locs cells slots ls (hD.stk (hv1 mem1 trivial)) hR)
    · split at h1
      · rename_i h11
        have h11 : k = 11 := Nat.eq_of_beq_eq_true h11
        subst h11
        have hi0 : i = 0 := by
          rcases hD.2.2.2.2.2.2.1 (aR 11 i) List.mem_cons_self with q | q
          · exact absurd (hD.2.2.1.1 11 i q).1 (by decide)
          · exact stv_lo q rfl
        subst hi0
        have hlt := hD.1.1.2
        exact va_slen hx hb hD.1.1.1 (Nat.lt_of_lt_of_le hlt C.2.2.2.2.2.2.2.1) (Nat.not_le.mpr hlt) hD.2.1 hd (hK _ _ _ _ _ rfl h1 ad H locs cells slots ls (hD.stk (hv1 mem1 trivial)) hR)
      · obtain ⟨h17, h2⟩ := pB_inv h1
        have h17 : k = 17 := Nat.eq_of_beq_eq_true h17
        subst h17
        have hi13 : i < 13 := by
          rcases hD.2.2.2.2.2.2.1 (aR 17 i) List.mem_cons_self with q | q
          · exact absurd (hD.2.2.1.1 17 i q).1 (by decide)
          · exact stv_hi q rfl
        have hE := (hD.1.2.2.1.1 i hi13).2.2.2
        have hln : (stx.map List.length).getD i 0 = (stx.getD i []).length := by
          rw [List.getD_eq_getElem?_getD, List.getD_eq_getElem?_getD, List.getElem?_map]
          cases stx[i]? <;> rfl
        rw [hln] at hE
        exact va_tlen hx hb hE hD.2.1 rfl hd (hK _ _ _ _ _ rfl h2 ad H locs cells slots ls (hD.stk (hv1 mem1 trivial)) hR)
theorem go_storeA {i : Instr} (C : Cx z D tA p R s m args meth c r d) (hK : ∀ pc' P L S M, pc' = pc + n → K pc' P L S M → Go gl gx z D tA l p e R s m args below meth c Zq r Q pc' P L S M) (hd : decode r.2.1 pc = .ok (i, n)) (ho : okI i pc n = true) (h : stepI gl gx X d r.2.2.2.2.2 r.2.2.2.1 r.2.2.2.2.1 r.1.cls Q K J i pc P L S M) (hi : i = .iastore ∨ i = .bastore ∨ i = .aastore) : Go gl gx z D tA l p e R s m args below meth c Zq r Q pc P L S M := by
  have hkf := C.2.2.2.2.2.2.1
  have hx := C.1
  have hb := C.2.1
  rcases hi with rfl | rfl | rfl
  all_goals (have en : n = 1 := by simpa [okI] using ho)
  all_goals subst en
  all_goals unfold stepI at h
  all_goals dsimp only at h
  · obtain ⟨x, T9, rfl, h9⟩ := pI_inv h
    obtain ⟨j, T0, rfl, h0⟩ := pI_inv h9
    obtain ⟨k, i, T1, rfl, h1⟩ := pR_inv h0
    obtain ⟨q, hk, h2⟩ := pO_inv h1
    obtain ⟨hI, hin, h3⟩ := pB_inv h2
    intro ad H locs cells slots ls hD hR
    obtain ⟨hlv, hz, ha⟩ := arr_live hD (mem2 _ List.mem_cons_self) hk
    have hI2 : q.1 = .int := isInt_eq hI
    have harr := (hkf.2.1 k q hk).1 q.2 (fun j => mv ad M k i j)
    rw [hI2] at harr
    refine W.iast hx hb ha harr (fun q => by cases q) (arr_in hin) rfl rfl hd fun H1 e z1 oq => ?_
    refine hK _ _ _ _ _ rfl h3 ad H1 _ cells slots ls (arr_put hD hlv hk rfl (fun k' i' j' hh => ⟨u3_ne hh, rfl⟩) (fun j' hj' => hD.2.2.1.2.2 k i j' hlv hj') (fun j' => ?_) e z1 oq (fun v hv => mem2 v (mem1 v hv))) hR
    have hI3 : isIT q.1 = true := by rw [hI2]; rfl
    rw [mv_I hk hI3]
    show Value.int (u3 M.1 k i j.toNatClampNeg x k i j') = _
    rw [u3_at]
    unfold updV
    by_cases hj : j' = j.toNatClampNeg
    · simp [hj]
    · simp [hj, mv_I hk hI3]
  · obtain ⟨x, T9, rfl, h9⟩ := pI_inv h
    obtain ⟨j, T0, rfl, h0⟩ := pI_inv h9
    obtain ⟨k, i, T1, rfl, h1⟩ := pR_inv h0
    obtain ⟨q, hk, h2⟩ := pO_inv h1
    obtain ⟨hI, hin, h3⟩ := pB_inv h2
    intro ad H locs cells slots ls hD hR
    obtain ⟨hlv, hz, ha⟩ := arr_live hD (mem2 _ List.mem_cons_self) hk
    have hIT : isIT q.1 = true := by
      simp only [Bool.and_eq_true] at hI
      exact hI.1
    have harr := (hkf.2.1 k q hk).1 q.2 (fun j => mv ad M k i j)
    have mvs : ∀ j', mv ad (u3 M.1 k i j.toNatClampNeg (vp_nar q.1 x), M.2) k i j' = updV (fun j => mv ad M k i j) j.toNatClampNeg (.int (vp_nar q.1 x)) j' := by
      intro j'
      rw [mv_I hk hIT]
      show Value.int (u3 M.1 k i j.toNatClampNeg (vp_nar q.1 x) k i j') = _
      rw [u3_at]
      unfold updV
      by_cases hj : j' = j.toNatClampNeg
      · simp [hj]
      · simp [hj, mv_I hk hIT]
    rcases isB_eq hI with hI2 | hI2
    · rw [hI2] at harr
      refine W.bast hx hb ha harr (fun q => by cases q) (arr_in hin) rfl rfl hd fun H1 e z1 oq => ?_
      refine hK _ _ _ _ _ rfl h3 ad H1 _ cells slots ls (arr_put hD hlv hk rfl (fun k' i' j' hh => ⟨u3_ne hh, rfl⟩) (fun j' hj' => hD.2.2.1.2.2 k i j' hlv hj') mvs ?_ z1 oq (fun v hv => mem2 v (mem1 v hv))) hR
      rw [e, hI2]
      rfl
    · rw [hI2] at harr
      refine W.zast hx hb ha harr (fun q => by cases q) (arr_in hin) rfl rfl hd fun H1 e z1 oq => ?_
      refine hK _ _ _ _ _ rfl h3 ad H1 _ cells slots ls (arr_put hD hlv hk rfl (fun k' i' j' hh => ⟨u3_ne hh, rfl⟩) (fun j' hj' => hD.2.2.1.2.2 k i j' hlv hj') mvs ?_ z1 oq (fun v hv => mem2 v (mem1 v hv))) hR
      rw [e, hI2]
      rfl
  · obtain ⟨k', i', T9, rfl, h9⟩ := pR_inv h
    obtain ⟨j, T0, rfl, h0⟩ := pI_inv h9
    obtain ⟨k, i, T1, rfl, h1⟩ := pR_inv h0
    obtain ⟨q, hk, h2⟩ := pO_inv h1
    intro ad H locs cells slots ls hD hR
    split at h2
    · rename_i C0 hty
      obtain ⟨⟨hcl, hk11⟩, hin, h3⟩ := h2
      obtain ⟨hlv, hz, ha⟩ := arr_live hD (mem2 _ List.mem_cons_self) hk
      obtain ⟨harr, hra⟩ := hkf.2.1 k q hk
      have hst : stk k' = false := by
        unfold stk
        rcases hq : Nat.ble 11 k' with _ | _
        · rfl
        · have := Nat.le_of_ble_eq_true hq
          omega
      have hlv' := lv_of hD List.mem_cons_self hst
      obtain ⟨-, -, g3⟩ := hD.2.2.1.1 k' i' hlv'
      have hb20 : Nat.ble 20 k' = false := by
        rcases hq : Nat.ble 20 k' with _ | _
        · rfl
        · have := Nat.le_of_ble_eq_true hq
          omega
      unfold cellR at g3
      rw [hb20] at g3
      obtain ⟨q', e1, cellV, b1, b2, b3, -⟩ := g3
      have hC0 : q'.1 = C0 := by
        rw [← hcl, List.getD_eq_getElem?_getD, e1]
        rfl
      have hcls := (hkf.1.1 k' q' e1).2
      rw [hC0] at hcls
      rw [hty] at hra
      obtain ⟨kA, comp, k1, k2, k3, -⟩ := hra
      have hcomp : comp = D.1 k' := Option.some.inj (k3.symm.trans hcls.1)
      subst hcomp
      obtain ⟨kC, hkC, -⟩ := hcls.2
      have hlt := vp_lt hin
      have h00 : ¬ j < 0 := fun q => hin (Or.inl q)
      refine W.aast hx hb ha (fun q h => by cases h) (fun h => by cases h) k1 k2 rfl hkC ⟨h00, by rw [arrV_size]; exact hlt⟩ b1 (fun q h => by rw [b3] at h; cases h) (by rw [b2]; exact hkC) (by rw [b2]; exact va_assign hcls) rfl rfl hd fun H1 e z1 oq => ?_
      have hIT : isIT q.1 = false := by rw [hty]; rfl
      refine hK _ _ _ _ _ rfl h3 ad H1 _ cells slots ls (arr_put hD hlv hk rfl (fun k' i' j' hh => ⟨rfl, u3_ne hh⟩) (fun j' hj' => ?_) (fun j' => ?_) e z1 oq (fun v hv => mem2 v (mem1 v hv))) hR
      · show okA M.2.2 (u3 M.2.1 k i j.toNatClampNeg (aR k' i') k i j')
        rw [u3_at]
        split
        · exact Or.inl hlv'
        · exact hD.2.2.1.2.2 k i j' hlv hj'
      · rw [mv_A hk hIT]
        show cv ad (u3 M.2.1 k i j.toNatClampNeg (aR k' i') k i j') = _
        rw [u3_at]
        unfold updV
        by_cases hj : j' = j.toNatClampNeg
        · simp [hj, cv]
        · simp [hj, mv_A hk hIT]
    · exact h2.elim
end STEP5
end
section
/-! ONE STEP: answers; calls of the machine's own -/
section STEP6
variable {gl : Nat} {gx : Nat → Int32} {z : Nat} {D : va_G} {tA : Nat → ClassId} {l : Launch} {p : Program} {e : Env} {R : Room} {s : State} {m : MethodId} {args : Array Value} {below : List Frame} {meth : Method} {c : Code} {Zq : State → Prop} {r : MT} {Q : PO} {d : Nat}
variable {K J : Nat → PL → List AV → List AV → MM → Prop} {pc n : Nat} {P : PL} {L S T : List AV} {M : MM} {X : XT}
theorem isEmpty_eq {S : List AV} (h : S.isEmpty = true) : S = [] := List.isEmpty_iff.mp h
theorem go_return {i : Instr} (hd : decode r.2.1 pc = .ok (i, n)) (ho : okI i pc n = true) (h : stepI gl gx X d r.2.2.2.2.2 r.2.2.2.1 r.2.2.2.2.1 r.1.cls Q K J i pc P L S M) (hi : i = .ireturn ∨ i = .areturn ∨ i = .return_) : Go gl gx z D tA l p e R s m args below meth c Zq r Q pc P L S M := by
  have fin : ∀ (v : AV) {S : List AV}, Q v M → retAt r pc v → (∀ ad H locs cells slots ls, Dx gl gx z D tA R s r ad H locs cells slots ls P L S M → okA M.2.2 v) → (∀ ad, S.map (cv ad) = rst ad v) → Go gl gx z D tA l p e R s m args below meth c Zq r Q pc P L S M := by
    intro v S hq hat hok hst ad H locs cells slots ls hD hR
    rw [hst ad]
    exact hR v M ad H locs cells slots pc ls hq hD.2.2.1 (hok _ _ _ _ _ _ hD) (fun _ _ _ => rfl) (fun _ _ h => h) hD.2.1 (Nat.le_trans (Nat.le_add_right _ _) hD.2.2.2.2.2.2.2.1) (Nat.le_trans (Nat.le_add_right _ _) hD.2.2.2.2.2.2.2.2) hat
  rcases hi with rfl | rfl | rfl
  all_goals (have en : n = 1 := by simpa [okI] using ho)
  all_goals subst en
  all_goals unfold stepI at h
  all_goals dsimp only at h
  · obtain ⟨x, T1, rfl, h1⟩ := pI_inv h
    obtain ⟨he, h2⟩ := pB_inv h1
    obtain rfl := isEmpty_eq he
    split at h2
    · rename_i hr
      exact fin (aI x) h2 (Or.inr (Or.inl ⟨x, .int, hr, rfl, rfl, hd⟩)) (fun _ _ _ _ _ _ _ => trivial) (fun _ => rfl)
    · rename_i t _ hr
      split at h2
      · exact fin (aI x) h2.2 (Or.inr (Or.inl ⟨x, t, hr, rfl, h2.1, hd⟩)) (fun _ _ _ _ _ _ _ => trivial) (fun _ => rfl)
      · exact h2.elim
    · exact h2.elim
  · have g : pA S (fun v S => pB S.isEmpty (match r.2.2.2.1 with
      | some (.object _) => Q v M
      | _ => False)) := h
    clear h
    rcases pA_inv g with ⟨k', i', T1, rfl, h1⟩ | ⟨T1, rfl, h1⟩
    · obtain ⟨he, h2⟩ := pB_inv h1
      obtain rfl := isEmpty_eq he
      split at h2
      · rename_i C0 hr
        exact fin _ h2 (Or.inr (Or.inr ⟨C0, hr, Or.inl ⟨_, rfl⟩, hd⟩)) (fun _ _ _ _ _ _ hD => hD.2.2.2.2.2.2.1 _ List.mem_cons_self) (fun _ => rfl)
      · exact h2.elim
    · obtain ⟨he, h2⟩ := pB_inv h1
      obtain rfl := isEmpty_eq he
      split at h2
      · rename_i C0 hr
        exact fin _ h2 (Or.inr (Or.inr ⟨C0, hr, Or.inr rfl, hd⟩)) (fun _ _ _ _ _ _ hD => trivial) (fun _ => rfl)
      · exact h2.elim
  · obtain ⟨he, h2⟩ := pB_inv h
    obtain rfl := isEmpty_eq he
    split at h2
    · rename_i hr
      exact fin aU h2 (Or.inl ⟨hr, rfl, hd⟩) (fun _ _ _ _ _ _ hD => trivial) (fun _ => rfl)
    · exact h2.elim
theorem cat_le (v : Value) : v.category ≤ 2 := by cases v <;> simp [Value.category]
theorem cat_sum : ∀ (l : List Value), (l.map fun v => v.category).sum ≤ 2 * l.length := by
  intro l
  induction l with
  | nil => simp
  | cons a l ih =>
    have := cat_le a
    simp only [List.map_cons, List.sum_cons, List.length_cons]
    omega
theorem row_copy {H : Heap} {locs : List Loc} {cells slots : Nat} {ls : Array Slot} {rest : List Value} {a a0 : Nat} {cc : ByteArray} {pc : Nat} (hexec : p.tables.exec = Jvm.exec) (hb : c.code = cc) (hml : c.maxLocals = ls.size) {own : String} {index : Nat} (hown : s.vm.findClass own = some m.cls) (hlink : (Cond.methodLink own index arraycopyName).before args s = true) (hnat : (Cond.native arraycopyName).before args s = true) (hstat : (Cond.static arraycopyName).before args s = true) (hini : (Cond.initialized "java/lang/System").before args s = true)
    {c0 c1 : ClassId} {n0 n1 : Nat} {f g : Nat → Int32} {ty : FieldType} (hc0 : H[a0]? = some (vp_cell c0 (n0, .inl f))) (hc1 : H[a]? = some (vp_cell c1 (n1, .inl g))) (ht0 : ArrOfT s c0 ty) (ht1 : ArrOfT s c1 ty) (hprim : refKind ty = false) (hS : va_S (aA z) s.heap H locs) (haz : z ≤ a)
    {sp dp n : Int32} (h1 : ¬ sp < 0) (h2 : ¬ dp < 0) (h3 : ¬ n < 0) (h4 : sp.toNatClampNeg + n.toNatClampNeg ≤ n0) (h5 : dp.toNatClampNeg + n.toNatClampNeg ≤ n1) (hfit : ∀ i, i < n.toNatClampNeg → fits ty (.int (f (sp.toNatClampNeg + i))) = true)
    (hframes : 1 ≤ R.frames) (hlocals : (rest.map fun v => v.category).sum + (nativeFrameWords "java/lang/System" "arraycopy" 5 + 11) ≤ R.locals) (hdg : decode cc pc = .ok (.invokestatic index, 3))
    (kk : ∀ (H1 : Heap) (locs1 : List Loc), H1[a]? = some (vp_cell c1 (n1, .inl (va_cpy f g sp.toNatClampNeg dp.toNatClampNeg n.toNatClampNeg))) → (∀ q, q ≠ a → H1[q]? = H[q]?) → va_S (aA z) s.heap H1 locs1 → W p l e R s m args below meth c H1 locs1 cells slots Zq (F0 m (pc + 3) ls rest)) : W p l e R s m args below meth c H locs cells slots Zq (F0 m pc ls (.int n :: .int dp :: .ref a :: .int sp :: .ref a0 :: rest)) := by
  have nn : ∀ z : Int32, ¬ z < 0 → z.toInt = (z.toNatClampNeg : Int) := by
    intro z hz
    have hz0 : (0 : Int) ≤ z.toInt := by
      have := Int32.not_lt.mp hz
      simpa using Int32.le_iff_toInt_le.mp this
    show z.toInt = ((z.toInt.toNat : Nat) : Int)
    omega
  intro T hT X
  obtain ⟨-, k0, hk0, cm0, hkk0⟩ := ht0 n0 (fun j => .int (f j))
  obtain ⟨-, k1, hk1, cm1, hkk1⟩ := ht1 n1 (fun j => .int (g j))
  obtain ⟨vm', X', step⟩ := X.arraycopy hexec hown hlink hnat hstat hini (src := a0) (dst := a) (cs := vp_cell c0 (n0, .inl f)) (cd := vp_cell c1 (n1, .inl g)) (srcPos := sp) (destPos := dp) (n := n) (by rw [hT]; exact hc0) (by rw [hT]; exact hc1)
    (fun _ h => by cases h) (fun _ h => by cases h) (fun h => by cases h) (fun h => by cases h) hk0 hk1 hkk0 hkk1 (by simp [hprim]) h1 h2 h3
    (by rw [nn sp h1, nn n h3]; show ¬ _ > ((arrV c0 n0 (fun j => .int (f j))).slots.size : Int); rw [arrV_size]; omega)
    (by rw [nn dp h2, nn n h3]; show ¬ _ > ((arrV c1 n1 (fun j => .int (g j))).slots.size : Int); rw [arrV_size]; omega)
    (fun vm₁ _ i hi => by
      have e : (vp_cell c0 (n0, .inl f)).slots.getD (sp.toNatClampNeg + i) .null = .int (f (sp.toNatClampNeg + i)) := by
        show (arrV c0 n0 (fun j => .int (f j))).slots.getD _ _ = _
        rw [Array.getD_eq_getD_getElem?, arrV_read _ _ (by omega)]
        rfl
      refine ⟨?_, ?_⟩
      · rw [e]
        exact hfit i hi
      · rw [e]
        exact trivial)
    (g := F0 m pc ls (.int n :: .int dp :: .ref a :: .int sp :: .ref a0 :: rest)) rfl (by rw [hml]) (rest := rest) rfl (by rw [hb]; exact hdg) hframes (by show 2 * 0 + _ + _ ≤ _; omega)
  have e1 : copied (vp_cell c0 (n0, .inl f)) (vp_cell c1 (n1, .inl g)) sp dp n = vp_cell c1 (n1, .inl (va_cpy f g sp.toNatClampNeg dp.toNatClampNeg n.toNatClampNeg)) := va_copied (fun z => .int z) c0 c1 f g h4
  rw [e1] at X' step
  have hl : a < H.size := (Array.getElem?_eq_some_iff.mp hc1).1
  have hheap : ((T.setVm vm').setCell a (vp_cell c1 (n1, .inl (va_cpy f g sp.toNatClampNeg dp.toNatClampNeg n.toNatClampNeg)))).heap = H.setIfInBounds a (vp_cell c1 (n1, .inl (va_cpy f g sp.toNatClampNeg dp.toNatClampNeg n.toNatClampNeg))) := by rw [← hT]; rfl
  have oq : ∀ q : Nat, q ≠ a → (H.setIfInBounds a (vp_cell c1 (n1, .inl (va_cpy f g sp.toNatClampNeg dp.toNatClampNeg n.toNatClampNeg))))[q]? = H[q]? := fun q hq => by simp [Array.getElem?_setIfInBounds, Ne.symm hq]
  obtain ⟨t, a1, b1⟩ := kk _ _ (show (H.setIfInBounds a _)[a]? = some _ by simp [Array.getElem?_setIfInBounds, hl]) oq ⟨by simp; exact hS.1, fun q g1 g2 => by
      rw [oq q (fun e => g2 (by rw [e]; exact haz))]
      exact hS.2.1 q g1 g2, fun q hq => by
      rcases List.mem_append.mp hq with h | h
      · exact hS.2.2 q h
      · obtain ⟨z, -, hz⟩ := List.mem_map.mp h
        rw [← hz]
        exact haz⟩ _ hheap X'
  exact ⟨t, step t a1, b1⟩
end STEP6
end
section
/-! ONE STEP: calls of methods of the table -/
section CALLS
variable {gl : Nat} {gx : Nat → Int32} {z : Nat} {D : va_G} {tA : Nat → ClassId} {l : Launch}
/-- a method's answer, and the memory behind it -/
def QG (D : va_G) (tA : Nat → ClassId) (z : Nat) (rt : Option FieldType) (Q : PO) (lv : LV) (ad : Nat → Nat → Nat) : Array Value → State → Outcome → State → Prop := fun _ st o t =>
  ∃ (v : AV) (M' : MM) (ad' : Nat → Nat → Nat), (Q v M' ∧ (rt = none → v = aU)) ∧ o = .returned (rst ad' v).head? ∧ Rep D tA z ad' M' t.heap ∧ okA M'.2.2 v ∧ Ext lv ad ad' ∧ (∀ c i, lv c i = true → M'.2.2 c i = true) ∧ va_F (aA z) st t
def PG (gl : Nat) (gx : Nat → Int32) (D : va_G) (tA : Nat → ClassId) (z : Nat) (ad : Nat → Nat → Nat) (M : MM) (U : State) : Prop := SF gl gx z ad U U.heap ∧ Rep D tA z ad M U.heap ∧ KF D tA U ∧ z ≤ U.heap.size
abbrev wsM (r : MT) : List Cond := Cond.code r.1 r.2.1 r.2.2.1 r.2.2.2.1 :: lw_g
theorem lvl_args {ad : Nat → Nat → Nat} : ∀ (A : List AV) (n i : Nat), ∀ q ∈ lvl ad i (ent A n), q ∈ lv_args i (A.map (cv ad)) := by
  intro A
  induction A with
  | nil =>
    intro n i q hq
    obtain ⟨j, v, h1, h2, -⟩ := lvl_mem.mp hq
    exact absurd (List.mem_replicate.mp (List.mem_of_getElem? h1)).2 h2
  | cons a A ih =>
    intro n i q hq
    match a with
    | .inr (.inl x) =>
      show q ∈ (i, Value.long x) :: lv_args (if (Value.long x).category = 2 then i + 2 else i + 1) (A.map (cv ad))
      have hq : q ∈ (i, Value.long x) :: lvl ad (i + 1 + 1) (ent A (n - 2)) := hq
      rcases List.mem_cons.mp hq with h | h
      · exact List.mem_cons.mpr (Or.inl h)
      · exact List.mem_cons_of_mem _ (ih (n - 2) (i + 2) q h)
    | .inl x =>
      have hq : q ∈ (i, Value.int x) :: lvl ad (i + 1) (ent A (n - 1)) := hq
      show q ∈ (i, Value.int x) :: lv_args (i + 1) (A.map (cv ad))
      rcases List.mem_cons.mp hq with h | h
      · exact List.mem_cons.mpr (Or.inl h)
      · exact List.mem_cons_of_mem _ (ih (n - 1) (i + 1) q h)
    | .inr (.inr (.inl x)) =>
      have hq : q ∈ (i, Value.ref (ad x.1 x.2)) :: lvl ad (i + 1) (ent A (n - 1)) := hq
      show q ∈ (i, Value.ref (ad x.1 x.2)) :: lv_args (i + 1) (A.map (cv ad))
      rcases List.mem_cons.mp hq with h | h
      · exact List.mem_cons.mpr (Or.inl h)
      · exact List.mem_cons_of_mem _ (ih (n - 1) (i + 1) q h)
    | .inr (.inr (.inr true)) =>
      have hq : q ∈ (i, Value.null) :: lvl ad (i + 1) (ent A (n - 1)) := hq
      show q ∈ (i, Value.null) :: lv_args (i + 1) (A.map (cv ad))
      rcases List.mem_cons.mp hq with h | h
      · exact List.mem_cons.mpr (Or.inl h)
      · exact List.mem_cons_of_mem _ (ih (n - 1) (i + 1) q h)
    | .inr (.inr (.inr false)) =>
      have hq : q ∈ lvl ad (i + 1) (ent A (n - 1)) := hq
      show q ∈ (i, Value.null) :: lv_args (i + 1) (A.map (cv ad))
      exact List.mem_cons_of_mem _ (ih (n - 1) (i + 1) q hq)
theorem ent_size {ad : Nat → Nat → Nat} : ∀ (A : List AV) (n : Nat), (lg_sl (A.map (cv ad))).length ≤ (ent A n).length := by
  intro A
  induction A with
  | nil => intro n; simp [lg_sl]
  | cons a A ih =>
    intro n
    match a with
    | .inr (.inl x) =>
      have := ih (n - 2)
      show (Slot.val (.long x) :: Slot.second :: lg_sl (A.map (cv ad))).length ≤ (aL x :: aU :: ent A (n - 2)).length
      simp only [List.length_cons]
      omega
    | .inl x =>
      have := ih (n - 1)
      show (Slot.val (.int x) :: lg_sl (A.map (cv ad))).length ≤ (aI x :: ent A (n - 1)).length
      simp only [List.length_cons]
      omega
    | .inr (.inr (.inl x)) =>
      have := ih (n - 1)
      show (Slot.val (.ref (ad x.1 x.2)) :: lg_sl (A.map (cv ad))).length ≤ ((.inr (.inr (.inl x)) : AV) :: ent A (n - 1)).length
      simp only [List.length_cons]
      omega
    | .inr (.inr (.inr b)) =>
      have := ih (n - 1)
      show (Slot.val .null :: lg_sl (A.map (cv ad))).length ≤ ((.inr (.inr (.inr b)) : AV) :: ent A (n - 1)).length
      simp only [List.length_cons]
      omega
theorem ent_ok {lv : LV} : ∀ (A : List AV) (n : Nat), (∀ v ∈ A, okA lv v) → ∀ v ∈ ent A n, okA lv v := by
  intro A
  induction A with
  | nil => intro n _ v hv; rw [(List.mem_replicate.mp hv).2]; trivial
  | cons a A ih =>
    intro n h v hv
    have h1 := h a List.mem_cons_self
    have h2 : ∀ v ∈ A, okA lv v := fun v hv => h v (List.mem_cons_of_mem _ hv)
    match a with
    | .inr (.inl x) =>
      have hv : v ∈ aL x :: aU :: ent A (n - 2) := hv
      rcases List.mem_cons.mp hv with rfl | hv
      · trivial
      · rcases List.mem_cons.mp hv with rfl | hv
        · trivial
        · exact ih _ h2 v hv
    | .inl x =>
      have hv : v ∈ aI x :: ent A (n - 1) := hv
      rcases List.mem_cons.mp hv with rfl | hv
      · trivial
      · exact ih _ h2 v hv
    | .inr (.inr (.inl x)) =>
      have hv : v ∈ (.inr (.inr (.inl x)) : AV) :: ent A (n - 1) := hv
      rcases List.mem_cons.mp hv with rfl | hv
      · exact h1
      · exact ih _ h2 v hv
    | .inr (.inr (.inr b)) =>
      have hv : v ∈ (.inr (.inr (.inr b)) : AV) :: ent A (n - 1) := hv
      rcases List.mem_cons.mp hv with rfl | hv
      · trivial
      · exact ih _ h2 v hv
/-- a run of the abstract machine from a method's entry is a contract of the method -/
theorem met_of {d y : Nat} {P : PL} {A : List AV} {M : MM} {Q : PO} {r : MT} {ad : Nat → Nat → Nat} (hr : mt y = some r) (h3 : r.2.2.2.2.1 ≠ 3) (h : Sim gl gx z D tA l d P y 0 (ent A r.2.2.1) [] M Q) (hlen : (ent A r.2.2.1).length = r.2.2.1) (hA : ∀ v ∈ A, okA M.2.2 v) :
    Met l r.1 (wsM r) ({ frames := d, cells := P.length, slots := psz P, locals := 64 * d }) (va_Pc (A.map (cv ad)) (PG gl gx D tA z ad M)) (QG D tA z r.2.2.2.1 Q M.2.2 ad) P.length (psz P) (aA z) := by
  have hmk := mok_in y r hr h3
  refine Met.ofW (cc := r.2.1) (maxL := r.2.2.1) (ret := r.2.2.2.1) hmk.2.1 rfl ?_
  intro p e s m args below meth c s₁ B hml hv
  obtain ⟨rfl, hSF, hRep, hKF, hz⟩ := hv
  have hx := B.exec
  have hb := B.bytes
  have hret := B.returns
  have hts := atoms_spec (ws := wsM r) B.pre
  have hown : s.vm.findClass r.1.cls = some m.cls := findClass_of_methodNamed B.named
  have hlocks := B.notSynchronized
  have hl := lv_entry (A.map (cv ad)) (n := r.2.2.1) (Nat.le_trans (ent_size A r.2.2.1) (Nat.le_of_eq hlen))
  rw [lg_entry_eq]
  generalize (lg_sl (A.map (cv ad)) ++ List.replicate (r.2.2.1 - (lg_sl (A.map (cv ad))).length) Slot.unset).toArray = ls at hl ⊢
  have C : Cx z D tA p ({ frames := d, cells := P.length, slots := psz P, locals := 64 * d }) s m (A.map (cv ad)).toArray meth c r d :=
    ⟨hx, hb, hml, hown, fun w hw => hts w (List.mem_cons_of_mem _ hw), fun hi => by rw [(name_of_methodNamed B.named B.method).1]; exact hi, hKF, hz, Nat.le_refl _, Nat.le_refl _, lok_in y r hr⟩
  refine h p e _ s m _ below meth c _ r hr C ad s.heap [] 0 0 ls ⟨hSF, va_S.rf, hRep, lvl_sub hl (lvl_args A _ 0), hlen, ent_ok A _ hA, fun v hv => absurd hv List.not_mem_nil, by show 0 + P.length ≤ P.length; omega, by show 0 + psz P ≤ psz P; omega⟩ ?_
  intro v M' ad' H' locs' cells' slots' pc' ls' g1 g2 g3 g4 g5 g6 g7 g8 g9
  refine W.widen (k := P.length) (n := psz P) g7 g8 ?_
  have hvU : r.2.2.2.1 = none → v = aU := by
    intro h0
    rcases g9 with ⟨e1, e2, e3⟩ | ⟨x, ty, e1, e2, e3, e4⟩ | ⟨C0, e1, e2, e3⟩
    · exact e2
    · rw [h0] at e1; cases e1
    · rw [h0] at e1; cases e1
  have fin : ∀ (o : Option Value), o = (rst ad' v).head? → ∀ t : State, t.heap = H' → s.WarmedH t.vm → QG D tA z r.2.2.2.1 Q M.2.2 ad (A.map (cv ad)).toArray s (.returned o) t := fun o ho t ht hW =>
    ⟨v, M', ad', ⟨g1, hvU⟩, by rw [ho], by rw [ht]; exact g2, g3, g4, g5, g6.F ht⟩
  rcases g9 with ⟨e1, rfl, e3⟩ | ⟨x, ty, e1, rfl, e3, e4⟩ | ⟨C0, e1, e2, e3⟩
  · exact W.vret hx hb (hret.trans e1) (fin none rfl) g6.2.2 e3
  · exact W.zret hx hb (hret.trans e1) e3 (fin (some (.int x)) rfl) g6.2.2 e4
  · rcases e2 with ⟨q, rfl⟩ | rfl
    · exact W.aret hx hb (hret.trans e1) (Or.inl ⟨_, rfl⟩) (Or.inr ⟨_, rfl⟩) (fin _ rfl) g6.2.2 e3
    · exact W.aret hx hb (hret.trans e1) (Or.inl ⟨_, rfl⟩) (Or.inl rfl) (fin _ rfl) g6.2.2 e3
variable {p : Program} {e : Env} {R : Room} {s : State} {m : MethodId} {args : Array Value} {below : List Frame} {meth : Method} {c : Code} {Zq : State → Prop} {r : MT} {Q : PO} {d : Nat}
variable {K J : Nat → PL → List AV → List AV → MM → Prop} {pc n : Nat} {P : PL} {L S T : List AV} {M : MM} {X : XT}
theorem row_back {rt : Option FieldType} {mc ms cells slots : Nat} {H : Heap} {locs : List Loc} {ls : Array Slot} {st0 rest : List Value} {a : Array Value} {Q' : PO} {lv : LV} {ad : Nat → Nat → Nat} (hr : va_Run p l e R s m args below meth c H locs cells slots mc ms (F0 m pc ls st0) rest (QG D tA z rt Q' lv ad a) (aA z)) (hS : va_S (aA z) s.heap H locs)
    (kk : ∀ (v : AV) (M' : MM) (ad' : Nat → Nat → Nat) (H1 : Heap) (locs1 : List Loc), (Q' v M' ∧ (rt = none → v = aU)) → Rep D tA z ad' M' H1 → okA M'.2.2 v → Ext lv ad ad' → (∀ c i, lv c i = true → M'.2.2 c i = true) → va_S (aA z) s.heap H1 locs1 → W p l e R s m args below meth c H1 locs1 (cells + mc) (slots + ms) Zq (F0 m (pc + 3) ls ((rst ad' v).head?.toList ++ rest))) : W p l e R s m args below meth c H locs cells slots Zq (F0 m pc ls st0) := by
  intro T hT X
  obtain ⟨v, st₀, t, T', L, h0, X', hL, e1, e2, ⟨w, M', ad', q1, q2, q3, q4, q5, q6, hz, hk⟩, st⟩ := hr T hT X
  cases q2
  rw [h0] at hz hk
  obtain ⟨t2, a1, b1⟩ := kk w M' ad' T'.heap (locs ++ L) q1 (by rw [e1]; exact q3) q4 q5 q6
    ⟨Nat.le_trans hS.1 (by rw [e1]; exact hz), fun q h1 h2 => by rw [e1, hk q (Nat.lt_of_lt_of_le h1 hS.1) h2]; exact hS.2.1 q h1 h2, fun q hq => by
      rcases List.mem_append.mp hq with h | h
      · exact hS.2.2 q h
      · exact hL q h⟩ T' rfl X'
  exact ⟨t2, st t2 a1, b1⟩
theorem PG_blind {A : List Value} {ad : Nat → Nat → Nat} : FrameBlind (va_Pc A (PG gl gx D tA z ad M)) := by
  intro a U g mk ⟨h1, h2, h3, h4, h5⟩
  exact ⟨h1, SF.same (u := U) (U := U.calling g mk a) rfl h2, h3, KF.same (u := U) (U := U.calling g mk a) rfl h4, h5⟩
theorem PG_at {ad : Nat → Nat → Nat} {H : Heap} {locs : List Loc} {cells slots : Nat} {ls : Array Slot} (C : Cx z D tA p R s m args meth c r d) (hD : Dx gl gx z D tA R s r ad H locs cells slots ls P L S M) {U : State} (hU : U.heap = H) (hW : s.WarmedH U.vm) : PG gl gx D tA z ad M U := by
  have hz := C.2.2.2.2.2.2.2.1
  refine ⟨SF.moved hW ?_, by rw [hU]; exact hD.2.2.1, C.2.2.2.2.2.2.1.moved hW, by rw [hU]; exact Nat.le_trans hz hD.2.1.1⟩
  rw [hU]
  exact hD.1.kept hz hD.2.1.2.1
theorem wsM_good {y : Nat} (hr : mt y = some r) (h3 : r.2.2.2.2.1 ≠ 3) : GoodIn lw_g (wsM r) := by
  intro w hw
  rcases List.mem_cons.mp hw with rfl | h
  · exact lw_g_good _ (lw_g_of (code_in y r hr h3) rfl)
  · exact lw_g_good _ h
theorem psz_app {A B : PL} : psz (A ++ B) = psz A + psz B := by simp [psz]
/-- behind a call: what comes back goes on -/
theorem go_back {rt : Option FieldType} {cells slots : Nat} {H : Heap} {locs : List Loc} {ls : Array Slot} {ad : Nat → Nat → Nat} {np : Nat} {T : List AV} {a : Array Value} {st0 : List Value} {rk : Nat} {fv : MM → Prop} {f : AV → MM → Prop} (hD : Dx gl gx z D tA R s r ad H locs cells slots ls P L S M) (hT : ∀ v ∈ T, v ∈ S) (hR : Ret z D tA l p e R s m args below meth c Zq r Q M.2.2 ad)
    (hr : va_Run p l e R s m args below meth c H locs cells slots (P.take np).length (psz (P.take np)) (F0 m pc ls st0) (T.map (cv ad)) (QG D tA z rt (onR rk fv f) M.2.2 ad a) (aA z))
    (hv0 : rk = 0 → rt = none)
    (h0 : ∀ M', fv M' → Go gl gx z D tA l p e R s m args below meth c Zq r Q (pc + 3) (P.drop np) L T M') (h1 : ∀ v M', f v M' → Go gl gx z D tA l p e R s m args below meth c Zq r Q (pc + 3) (P.drop np) L (v :: T) M') : W p l e R s m args below meth c H locs cells slots Zq (F0 m pc ls st0) := by
  refine row_back hr hD.2.1 fun v M' ad' H1 locs1 qq q2 q3 q4 q5 q6 => ?_
  obtain ⟨q1, qU⟩ := qq
  have eT : T.map (cv ad) = T.map (cv ad') := List.map_congr_left fun v hv => (cv_ext q4 (hD.2.2.2.2.2.2.1 v (hT v hv))).symm
  have hc : cells + (P.take np).length + (P.drop np).length ≤ R.cells := by
    have h8 := hD.2.2.2.2.2.2.2.1
    have : (P.take np).length + (P.drop np).length = P.length := by rw [← List.length_append, List.take_append_drop]
    omega
  have hs : slots + psz (P.take np) + psz (P.drop np) ≤ R.slots := by
    have h9 := hD.2.2.2.2.2.2.2.2
    have : psz (P.take np) + psz (P.drop np) = psz P := by rw [← psz_app, List.take_append_drop]
    omega
  have hDn : ∀ U : List AV, (∀ v ∈ U, v ∈ T ∨ okA M'.2.2 v) → Dx gl gx z D tA R s r ad' H1 locs1 (cells + (P.take np).length) (slots + psz (P.take np)) ls (P.drop np) L U M' := fun U hU =>
    ⟨hD.1.ext q4, q6, q2, lvl_ext q4 hD.2.2.2.2.2.1 hD.2.2.2.1, hD.2.2.2.2.1, fun v hv => okA_mono q5 (hD.2.2.2.2.2.1 v hv), fun v hv => (hU v hv).elim (fun q => okA_mono q5 (hD.2.2.2.2.2.2.1 v (hT v q))) id, hc, hs⟩
  have hRn := hR.mono q5 q4
  match rk, q1, hv0 with
  | 0, q1, hv0 =>
    have : v = aU := qU (hv0 rfl)
    subst this
    show W p l e R s m args below meth c H1 locs1 _ _ Zq (F0 m (pc + 3) ls (T.map (cv ad)))
    rw [eT]
    exact h0 M' q1 ad' H1 locs1 _ _ ls (hDn T fun v hv => Or.inl hv) hRn
  | 1, q1, _ =>
    match v, q1, q3 with
    | .inl x, q1, _ =>
      show W p l e R s m args below meth c H1 locs1 _ _ Zq (F0 m (pc + 3) ls (Value.int x :: T.map (cv ad)))
      rw [eT]
      exact h1 (aI x) M' q1 ad' H1 locs1 _ _ ls (hDn (aI x :: T) fun v hv => (List.mem_cons.mp hv).elim (fun q => Or.inr (by rw [q]; trivial)) Or.inl) hRn
  | k + 2, q1, _ =>
    match v, q1, q3 with
    | .inr (.inr (.inl q)), q1, q3 =>
      obtain ⟨qc, qi⟩ := q
      obtain ⟨e1, q1⟩ := q1
      have e1 : qc = k := e1
      subst e1
      show W p l e R s m args below meth c H1 locs1 _ _ Zq (F0 m (pc + 3) ls (Value.ref (ad' qc qi) :: T.map (cv ad)))
      rw [eT]
      exact h1 (aR qc qi) M' q1 ad' H1 locs1 _ _ ls (hDn (aR qc qi :: T) fun v hv => (List.mem_cons.mp hv).elim (fun q => Or.inr (by rw [q]; exact q3)) Or.inl) hRn
    | .inr (.inr (.inr true)), q1, _ =>
      show W p l e R s m args below meth c H1 locs1 _ _ Zq (F0 m (pc + 3) ls (Value.null :: T.map (cv ad)))
      rw [eT]
      exact h1 aN M' q1 ad' H1 locs1 _ _ ls (hDn (aN :: T) fun v hv => (List.mem_cons.mp hv).elim (fun q => Or.inr (by rw [q]; trivial)) Or.inl) hRn
end CALLS
end
section
/-! WORDS of the machine's own methods -/
theorem wp_acn : Cond.native arraycopyName ∈ lw_g := lw_g_of (inT_mem (p := (2, 128)) (by decide +kernel)) rfl
theorem wp_acs : Cond.static arraycopyName ∈ lw_g := lw_g_of (inT_mem (p := (2, 127)) (by decide +kernel)) rfl
theorem wp_sys : Cond.initialized "java/lang/System" ∈ lw_g := lw_g_of (inT_mem (p := (0, 17)) (by decide +kernel)) rfl
theorem wp_math : Cond.initialized "java/lang/Math" ∈ lw_g := lw_g_of (inT_mem (p := (0, 12)) (by decide +kernel)) rfl
theorem wp_maxs : Cond.static Lib.Math.max.name ∈ lw_g := lw_g_of (inT_mem (p := (3, 138)) (by decide +kernel)) rfl
theorem wp_mins : Cond.static Lib.Math.min.name ∈ lw_g := lw_g_of (inT_mem (p := (1, 178)) (by decide +kernel)) rfl
theorem wp_maxc : Cond.code Lib.Math.max.name Lib.Math.max.code 2 (some .int) ∈ lw_g := lw_g_of (inT_r 3 139 rfl) rfl
theorem wp_minc : Cond.code Lib.Math.min.name Lib.Math.min.code 2 (some .int) ∈ lw_g := lw_g_of (inT_r 1 179 rfl) rfl
theorem wp_oii : Cond.instanceMethod objectInit ∈ lw_g := lw_g_of (inT_mem (p := (0, 26)) (by decide +kernel)) rfl
theorem wp_oic : Cond.code objectInit ⟨#[0xb1]⟩ 1 none ∈ lw_g := lw_g_of (inT_r 0 27 rfl) rfl
def pkName : MethodName := ⟨"jdk/internal/util/Preconditions", "checkIndex", "(IILjava/util/function/BiFunction;)I"⟩
theorem wp_ckc : Cond.code ciName prog_16_method_155_code 2 none ∈ lw_g := lw_g_of (inT_r 2 14 rfl) rfl
theorem wp_pkc : Cond.code pkName prog_20_method_11_code 3 (some .int) ∈ lw_g := lw_g_of (inT_r 2 19 rfl) rfl
theorem wp_cks : Cond.static ciName ∈ lw_g := lw_g_of (inT_mem (p := (2, 13)) (by decide +kernel)) rfl
theorem wp_pks : Cond.static pkName ∈ lw_g := lw_g_of (inT_mem (p := (2, 18)) (by decide +kernel)) rfl
theorem wp_str : Cond.initialized "java/lang/String" ∈ lw_g := lw_g_of (inT_mem (p := (0, 13)) (by decide +kernel)) rfl
theorem wp_pre : Cond.initialized "jdk/internal/util/Preconditions" ∈ lw_g := lw_g_of (inT_mem (p := (0, 15)) (by decide +kernel)) rfl
theorem wp_pkl : Cond.methodLink "java/lang/String" 1059 pkName ∈ lw_g := lw_g_of (inT_mem (p := (2, 17)) (by decide +kernel)) rfl
theorem wp_sio : Cond.fieldLink "java/lang/String" 1053 "jdk/internal/util/Preconditions" "SIOOBE_FORMATTER" "Ljava/util/function/BiFunction;" ∈ lw_g := lw_g_of (inT_mem (p := (2, 15)) (by decide +kernel)) rfl
theorem dck_0 : decode prog_16_method_155_code 0 = .ok (.iload_n 0, 1) := by decide +kernel
theorem dck_1 : decode prog_16_method_155_code 1 = .ok (.iload_n 1, 1) := by decide +kernel
theorem dck_2 : decode prog_16_method_155_code 2 = .ok (.getstatic 1053, 3) := by decide +kernel
theorem dck_5 : decode prog_16_method_155_code 5 = .ok (.invokestatic 1059, 3) := by decide +kernel
theorem dck_8 : decode prog_16_method_155_code 8 = .ok (.pop, 1) := by decide +kernel
theorem dck_9 : decode prog_16_method_155_code 9 = .ok (.return_, 1) := by decide +kernel
theorem dpk_0 : decode prog_20_method_11_code 0 = .ok (.iload_n 0, 1) := by decide +kernel
theorem dpk_1 : decode prog_20_method_11_code 1 = .ok (.ifCond .lt 8, 3) := by decide +kernel
theorem dpk_4 : decode prog_20_method_11_code 4 = .ok (.iload_n 0, 1) := by decide +kernel
theorem dpk_5 : decode prog_20_method_11_code 5 = .ok (.iload_n 1, 1) := by decide +kernel
theorem dpk_6 : decode prog_20_method_11_code 6 = .ok (.if_icmp .lt 10, 3) := by decide +kernel
theorem dpk_9 : decode prog_20_method_11_code 9 = .ok (.aload_n 2, 1) := by decide +kernel
theorem dpk_10 : decode prog_20_method_11_code 10 = .ok (.iload_n 0, 1) := by decide +kernel
theorem dpk_11 : decode prog_20_method_11_code 11 = .ok (.iload_n 1, 1) := by decide +kernel
theorem dpk_12 : decode prog_20_method_11_code 12 = .ok (.invokestatic 95, 3) := by decide +kernel
theorem dpk_15 : decode prog_20_method_11_code 15 = .ok (.athrow, 1) := by decide +kernel
theorem dpk_16 : decode prog_20_method_11_code 16 = .ok (.iload_n 0, 1) := by decide +kernel
theorem dpk_17 : decode prog_20_method_11_code 17 = .ok (.ireturn, 1) := by decide +kernel
theorem wp_arr_int : Cond.arrayClass .int ∈ lw_g := lw_g_of (inT_mem (p := (0, 112)) (by decide +kernel)) rfl
theorem wp_arr_byte : Cond.arrayClass .byte ∈ lw_g := lw_g_of (inT_mem (p := (2, 144)) (by decide +kernel)) rfl
theorem wp_arr_boolean : Cond.arrayClass .boolean ∈ lw_g := lw_g_of (inT_mem (p := (5, 80)) (by decide +kernel)) rfl
end
section
/-! ONE STEP: invocations -/
section STEP7
variable {gl : Nat} {gx : Nat → Int32} {z : Nat} {D : va_G} {tA : Nat → ClassId} {l : Launch} {p : Program} {e : Env} {R : Room} {s : State} {m : MethodId} {args : Array Value} {below : List Frame} {meth : Method} {c : Code} {Zq : State → Prop} {r : MT} {Q : PO} {d : Nat}
variable {K J : Nat → PL → List AV → List AV → MM → Prop} {pc n : Nat} {P : PL} {L S T : List AV} {M : MM}
theorem rcd0 {t : Option FieldType} (h : rcd t = 0) : t = none := by
  unfold rcd at h
  split at h
  · rfl
  · split at h <;> omega
  · cases h
theorem cOK_virt {own : String} {k y n nl rr np c0 : Nat} {q : Nat × Nat} (h : cOK own (k, c0 + 10, y, n, nl, rr, np) q = true) : ∃ r, mt y = some r ∧ inT (.methodLink own k r.1) q = true ∧ (parseMethodDescriptor r.1.desc).map (fun d => d.parameters.length) = some n ∧ r.2.2.1 = nl ∧ rcd r.2.2.2.1 = rr ∧ r.2.2.2.2.1 = 1 ∧ kcls c0 = r.1.cls ∧ (c0 < 11 ∨ c0 = 16) := by
  unfold cOK at h
  dsimp only at h
  split at h
  case h_7 =>
    split at h
    · rename_i r hr
      split at h
      · omega
      · omega
      · simp only [Bool.and_eq_true, decide_eq_true_eq, beq_iff_eq, Bool.or_eq_true] at h
        obtain ⟨⟨⟨⟨h1, h2⟩, h3⟩, h4⟩, ⟨⟨h5, h6⟩, h7⟩, h8⟩ := h
        refine ⟨r, hr, h1, h2, h3, h4, h6, by simpa using h7, h8.imp (fun q => ?_) (fun q => by omega)⟩
        have := Nat.le_of_ble_eq_true q
        omega
    · cases h
  all_goals omega
theorem cOK_stat {own : String} {k y n nl rr np : Nat} {q : Nat × Nat} (h : cOK own (k, 1, y, n, nl, rr, np) q = true) : ∃ r, mt y = some r ∧ inT (.methodLink own k r.1) q = true ∧ (parseMethodDescriptor r.1.desc).map (fun d => d.parameters.length) = some n ∧ r.2.2.1 = nl ∧ rcd r.2.2.2.1 = rr ∧ r.2.2.2.2.1 = 0 := by
  rw [show cOK own (k, 1, y, n, nl, rr, np) q = (match mt y with
    | some r => inT (.methodLink own k r.1) q && decide ((parseMethodDescriptor r.1.desc).map (fun d => d.parameters.length) = some n) && (r.2.2.1 == nl) && (rcd r.2.2.2.1 == rr) && (r.2.2.2.2.1 == 0)
    | none => false) from rfl] at h
  split at h
  · rename_i r hr
    simp only [Bool.and_eq_true, decide_eq_true_eq, beq_iff_eq] at h
    obtain ⟨⟨⟨⟨h1, h2⟩, h3⟩, h4⟩, h5⟩ := h
    exact ⟨r, hr, h1, h2, h3, h4, h5⟩
  · cases h
theorem cOK_spec {own : String} {k y n nl rr np : Nat} {q : Nat × Nat} (h : cOK own (k, 2, y, n, nl, rr, np) q = true) : ∃ r, mt y = some r ∧ inT (.methodLink own k r.1) q = true ∧ (parseMethodDescriptor r.1.desc).map (fun d => d.parameters.length) = some n ∧ r.2.2.1 = nl ∧ r.2.2.2.2.1 = 2 := by
  rw [show cOK own (k, 2, y, n, nl, rr, np) q = (match mt y with
    | some r => inT (.methodLink own k r.1) q && decide ((parseMethodDescriptor r.1.desc).map (fun d => d.parameters.length) = some n) && (r.2.2.1 == nl) && (rcd r.2.2.2.1 == rr) && (r.2.2.2.2.1 == 2)
    | none => false) from rfl] at h
  split at h
  · rename_i r hr
    simp only [Bool.and_eq_true, decide_eq_true_eq, beq_iff_eq] at h
    obtain ⟨⟨⟨⟨h1, h2⟩, h3⟩, h4⟩, h5⟩ := h
    exact ⟨r, hr, h1, h2, h3, h5⟩
  · cases h
theorem cOK_nest {own : String} {k y n nl rr np : Nat} {q : Nat × Nat} (h : cOK own (k, 3, y, n, nl, rr, np) q = true) : ∃ r, mt y = some r ∧ inT (.methodLinkNest own k r.1 "StencilHouse") q = true ∧ (parseMethodDescriptor r.1.desc).map (fun d => d.parameters.length) = some n ∧ r.2.2.1 = nl ∧ r.2.2.2.2.1 = 2 := by
  rw [show cOK own (k, 3, y, n, nl, rr, np) q = (match mt y with
    | some r => inT (.methodLinkNest own k r.1 "StencilHouse") q && decide ((parseMethodDescriptor r.1.desc).map (fun d => d.parameters.length) = some n) && (r.2.2.1 == nl) && (r.2.2.2.2.1 == 2)
    | none => false) from rfl] at h
  split at h
  · rename_i r hr
    simp only [Bool.and_eq_true, decide_eq_true_eq, beq_iff_eq] at h
    obtain ⟨⟨⟨h1, h2⟩, h3⟩, h4⟩ := h
    exact ⟨r, hr, h1, h2, h3, h4⟩
  · cases h
theorem recv_ok (C : Cx z D tA p R s m args meth c r d) {ad : Nat → Nat → Nat} {H : Heap} {locs : List Loc} {cells slots : Nat} {ls : Array Slot} (hD : Dx gl gx z D tA R s r ad H locs cells slots ls P L S M) {k i : Nat} (hm : aR k i ∈ S) (hk : k < 11 ∨ k = 16) : ∃ cell : Cell, H[ad k i]? = some cell ∧ cell.vm.isStatics = false ∧ s.vm.findClass (kcls k) = some cell.cls := by
  have hkf := C.2.2.2.2.2.2.1
  rcases hk with hk | rfl
  · have hst : stk k = false := by
      unfold stk
      rcases hq : Nat.ble 11 k with _ | _
      · rfl
      · have := Nat.le_of_ble_eq_true hq
        omega
    have hlv := lv_of hD hm hst
    obtain ⟨-, -, g3⟩ := hD.2.2.1.1 k i hlv
    have hb20 : Nat.ble 20 k = false := by
      rcases hq : Nat.ble 20 k with _ | _
      · rfl
      · have := Nat.le_of_ble_eq_true hq
        omega
    unfold cellR at g3
    rw [hb20] at g3
    obtain ⟨q, e1, cell, b1, b2, b3, -⟩ := g3
    have hb16 : Nat.beq k 16 = false := by
      rcases hq : Nat.beq k 16 with _ | _
      · rfl
      · have := Nat.eq_of_beq_eq_true hq
        omega
    have hkc : kcls k = q.1 := by
      unfold kcls
      rw [hb16]
      show (classes.getD k _).1 = q.1
      rw [List.getD_eq_getElem?_getD, e1]
      rfl
    exact ⟨cell, b1, by rw [b3]; rfl, by rw [hkc, b2]; exact (hkf.1.1 k q e1).2.1⟩
  · have hi13 : i < 13 := by
      rcases hD.2.2.2.2.2.2.1 _ hm with q | q
      · exact absurd (hD.2.2.1.1 16 i q).1 (by decide)
      · exact stv_hi q rfl
    exact vk_recv hD.1.2.2.1 hi13 hD.2.1
theorem take_rev (S : List AV) (n : Nat) (f : AV → Value) : ((S.take n).reverse.map f).reverse ++ (S.drop n).map f = S.map f := by
  rw [← List.map_reverse, List.reverse_reverse, ← List.map_append, List.take_append_drop]
/-- the room of a call -/
theorem room_call {d : Nat} {r' : MT} (h1 : d + 1 ≤ R.frames) (h2 : 64 * (d + 1) ≤ R.locals) (h3 : r'.2.2.1 ≤ 45) : d + 1 ≤ R.frames ∧ 8 + (r'.2.2.1 + 11) + 64 * d ≤ R.locals := ⟨h1, by omega⟩
theorem go_virtual {k : Nat} (C : Cx z D tA p R s m args meth c r d) (hK : ∀ pc' P L S M, pc' = pc + n → K pc' P L S M → Go gl gx z D tA l p e R s m args below meth c Zq r Q pc' P L S M) (hd : decode r.2.1 pc = .ok (.invokevirtual k, n)) (ho : okI (.invokevirtual k) pc n = true) (h : stepI gl gx (Sim gl gx z D tA l) d r.2.2.2.2.2 r.2.2.2.1 r.2.2.2.2.1 r.1.cls Q K J (.invokevirtual k) pc P L S M) : Go gl gx z D tA l p e R s m args below meth c Zq r Q pc P L S M := by
  have en : n = 3 := by simpa [okI] using ho
  subst en
  unfold stepI at h
  dsimp only at h
  obtain ⟨⟨w, y, na, nl, rr, np⟩, hm, h1⟩ := pK_inv h
  dsimp only at h1
  obtain ⟨k0, i, T1, hT1, h2⟩ := pR_inv h1
  obtain ⟨hw, h3⟩ := pB_inv h2
  have hw : k0 + 10 = w := Nat.eq_of_beq_eq_true hw
  subst hw
  obtain ⟨d', rfl, ⟨g1, g2, g3⟩, g4⟩ := pD_inv h3
  obtain ⟨q, hq⟩ := C.2.2.2.2.2.2.2.2.2.2.2.1 _ hm
  obtain ⟨r', hr, f1, f2, f3, f4, f5, f6, f7⟩ := cOK_virt hq
  subst f3
  have h3n : r'.2.2.2.2.1 ≠ 3 := by rw [f5]; decide
  have hmk := mok_in y r' hr h3n
  intro ad H locs cells slots ls hD hR
  have hS : S = S.take na ++ (aR k0 i :: T1) := by rw [← hT1, List.take_append_drop]
  have hmem : aR k0 i ∈ S := by rw [hS]; simp
  have hA : ∀ v ∈ aR k0 i :: (S.take na).reverse, okA M.2.2 v := by
    intro v hv
    refine hD.2.2.2.2.2.2.1 v ?_
    rcases List.mem_cons.mp hv with rfl | hv
    · exact hmem
    · rw [hS]; exact List.mem_append_left _ (List.mem_reverse.mp hv)
  have hM := met_of (ad := ad) hr h3n g4 g3 hA
  have hwords : ∀ w ∈ mneed r', w.before args s = true := fun w hw => C.2.2.2.2.1 _ (hmk.1 w hw)
  have hi := hwords (.initialized r'.1.cls) List.mem_cons_self
  have hin := hwords (.instanceMethod r'.1) (by unfold mneed; rw [f5]; simp)
  have hsel := hwords (.selects r'.1.cls r'.1 r'.1) (by unfold mneed; rw [f5]; simp)
  have hrecv := recv_ok C hD hmem f7
  rw [f6] at hrecv
  have cb := callB_of (R := R) (s := s) (args := args) (own := r.1.cls) (index := k) (y := r'.1) (bytes := r'.2.1) (maxL := r'.2.2.1) (ret := r'.2.2.2.1) (ws := wsM r') (rm := { frames := d', cells := (P.take np).length, slots := psz (P.take np), locals := 64 * d' }) (mc := (P.take np).length) (ms := psz (P.take np)) na C.2.2.2.2.1 (wsM_good hr h3n) rfl rfl rfl hi (word_of C.2.2.2.2.1 f1 rfl) ⟨hmk.2.2.1.1, hmk.2.2.1.2, f2⟩ (room_call C.2.2.2.2.2.2.2.2.1 C.2.2.2.2.2.2.2.2.2.1 hmk.2.2.2.1)
  have hcell : cells + (P.take np).length ≤ R.cells ∧ slots + psz (P.take np) ≤ R.slots := by
    have e1 : (P.take np).length + (P.drop np).length = P.length := by rw [← List.length_append, List.take_append_drop]
    have e2 : psz (P.take np) + psz (P.drop np) = psz P := by rw [← psz_app, List.take_append_drop]
    have h8 := hD.2.2.2.2.2.2.2.1
    have h9 := hD.2.2.2.2.2.2.2.2
    omega
  have hrun := va_runV (l := l) (e := e) (below := below) (meth := meth) (H := H) (locs := locs) (cells := cells) (slots := slots) (g := F0 m pc ls (S.map (cv ad))) (As := (S.take na).reverse.map (cv ad)) (b := ad k0 i) (rest := T1.map (cv ad)) ⟨C.1, C.2.1, C.2.2.1, C.2.2.2.1, C.2.2.2.2.1⟩ hM ⟨cb, hin, hsel⟩ ⟨PG_blind, hrecv, fun U hU hW => ⟨rfl, PG_at C hD hU hW⟩⟩ rfl (by rw [List.length_map, List.length_reverse, g2]) hD.2.2.2.1.1
    (by
      show S.map (cv ad) = _
      have e1 := take_rev S na (cv ad)
      rw [hT1] at e1
      exact e1.symm) (lv_room (by rw [show ((T1.map (cv ad)).map fun v => v.category).sum ≤ 8 ↔ _ from Iff.rfl]; have := cat_sum (T1.map (cv ad)); rw [List.length_map] at this; omega)) hd hcell
  exact go_back hD (fun v hv => by rw [hS]; simp [hv]) hR hrun (fun h0 => rcd0 (f4.trans h0)) (fun M' hf => hK _ _ _ _ _ rfl hf) (fun v M' hf => hK _ _ _ _ _ rfl hf)
end STEP7
end
section
/-! ONE STEP: the rest of the invocations -/
section CKI
variable {z : Nat} {l : Launch}
def QN (ok : Option Value → Prop) : Array Value → State → Outcome → State → Prop := fun _ st o t => (∃ v, o = .returned v ∧ ok v) ∧ t.heap = st.heap
theorem wsp_good {w : Cond} (h : w ∈ lw_g) : GoodIn lw_g (w :: lw_g) := fun x hx => (List.mem_cons.mp hx).elim (fun e => by rw [e]; exact lw_g_good _ h) (lw_g_good x)
theorem met_pk (x n : Int32) (v : Value) (h0 : ¬ x < 0) (h1 : x < n) : Met l pkName (.code pkName prog_20_method_11_code 3 (some .int) :: lw_g) ({ frames := 0, cells := 0, slots := 0, locals := 0 }) (va_Pc [.int x, .int n, v] (fun _ => v = .null ∨ ∃ a, v = .ref a)) (QN (fun v => v = some (.int x))) 0 0 (fun _ => False) := by
  refine Met.ofW (cc := prog_20_method_11_code) (maxL := 3) (ret := some .int) (by decide +kernel) rfl ?_
  intro p e s m args below meth c s₁ B hml hv
  obtain ⟨rfl, hcat⟩ := hv
  have hx := B.exec
  have hb := B.bytes
  have hr := B.returns
  have hlocks := B.notSynchronized
  have hl := lv_entry ([.int x, .int n, v]) (n := 3) (by rcases hcat with rfl | ⟨a, rfl⟩ <;> exact Nat.le_of_ble_eq_true rfl)
  rw [lg_entry_eq]
  generalize (lg_sl ([.int x, .int n, v]) ++ List.replicate (3 - (lg_sl ([.int x, .int n, v])).length) Slot.unset).toArray = ls at hl ⊢
  have hl : lv_has ls 3 [(0, .int x), (1, .int n), (2, v)] := hl
  refine lv_iload_n hx hb dpk_0 rfl (lv_at hl 0 rfl) ?_
  refine lv_if_lt (tgt := 9) hx hb dpk_1 (by decide) (fun q => absurd q h0) (fun _ => ?_)
  refine lv_iload_n hx hb dpk_4 rfl (lv_at hl 0 rfl) ?_
  refine lv_iload_n hx hb dpk_5 rfl (lv_at hl 1 rfl) ?_
  refine lv_icmp_lt (tgt := 16) hx hb dpk_6 (by decide) (fun _ => ?_) (fun q => absurd h1 q)
  refine lv_iload_n hx hb dpk_16 rfl (lv_at hl 0 rfl) ?_
  exact W.iret hx hb hr (fun t ht hW => ⟨⟨_, rfl, rfl⟩, ht⟩) (fun _ h => by cases h) dpk_17
section
variable {p : Program} {e : Env} {R : Room} {s : State} {m : MethodId} {args : Array Value} {below : List Frame} {meth : Method} {c : Code} {Zq : State → Prop}
theorem row_backN {cells slots pc : Nat} {H : Heap} {locs : List Loc} {ls : Array Slot} {st0 rest : List Value} {a : Array Value} {ok : Option Value → Prop} (hr : va_Run p l e R s m args below meth c H locs cells slots 0 0 (F0 m pc ls st0) rest (QN ok a) (fun _ => False))
    (kk : ∀ v, ok v → W p l e R s m args below meth c H locs cells slots Zq (F0 m (pc + 3) ls (v.toList ++ rest))) : W p l e R s m args below meth c H locs cells slots Zq (F0 m pc ls st0) := by
  intro T hT X
  obtain ⟨v, st₀, t, T', L, h0, X', hL, e1, e2, ⟨⟨w, hw, hok⟩, hz⟩, st⟩ := hr T hT X
  cases hw
  have hL0 : L = [] := by
    cases L with
    | nil => rfl
    | cons q L => exact (hL q List.mem_cons_self).elim
  subst hL0
  rw [List.append_nil] at X'
  obtain ⟨t2, a1, b1⟩ := kk v hok T' (by rw [e1, hz, h0]) X'
  exact ⟨t2, st t2 a1, b1⟩
end
def PK (z : Nat) (U : State) : Prop := ∃ v, va_Z "jdk/internal/util/Preconditions" "SIOOBE_FORMATTER" "Ljava/util/function/BiFunction;" v (aA z) U U.heap ∧ (v = .null ∨ ∃ a, v = .ref a)
theorem met_ck (x n : Int32) (h0 : ¬ x < 0) (h1 : x < n) : Met l ciName (.code ciName prog_16_method_155_code 2 none :: lw_g) ({ frames := 1, cells := 0, slots := 0, locals := 40 }) (va_Pc [.int x, .int n] (PK z)) (QN (fun v => v = none)) 0 0 (fun _ => False) := by
  refine Met.ofW (cc := prog_16_method_155_code) (maxL := 2) (ret := none) (by decide +kernel) rfl ?_
  intro p e s m args below meth c s₁ B hml hv
  obtain ⟨rfl, v, hZ, hv⟩ := hv
  have hx := B.exec
  have hb := B.bytes
  have hr := B.returns
  have hts := atoms_spec (ws := .code ciName prog_16_method_155_code 2 none :: lw_g) B.pre
  have hw : ∀ w ∈ lw_g, w.before (List.toArray [Value.int x, Value.int n]) s = true := fun w h => hts w (List.mem_cons_of_mem _ h)
  have hown : s.vm.findClass "java/lang/String" = some m.cls := findClass_of_methodNamed B.named
  have hlocks := B.notSynchronized
  have hl := lv_entry ([.int x, .int n]) (n := 2) (Nat.le_of_ble_eq_true rfl)
  rw [lg_entry_eq]
  generalize (lg_sl ([.int x, .int n]) ++ List.replicate (2 - (lg_sl ([.int x, .int n])).length) Slot.unset).toArray = ls at hl ⊢
  have hl : lv_has ls 2 [(0, .int x), (1, .int n)] := hl
  refine lv_iload_n hx hb dck_0 rfl (lv_at hl 0 rfl) ?_
  refine lv_iload_n hx hb dck_1 rfl (lv_at hl 1 rfl) ?_
  refine va_gets hx hb hZ va_S.rf hown (hw _ wp_sio) (fun _ h => h) dck_2 ?_
  have cb := callB_of (R := ({ frames := 1, cells := 0, slots := 0, locals := 40 } : Room)) (s := s) (args := List.toArray [Value.int x, Value.int n]) (own := "java/lang/String") (index := 1059) (y := pkName) (bytes := prog_20_method_11_code) (maxL := 3) (ret := some .int) (ws := .code pkName prog_20_method_11_code 3 (some .int) :: lw_g) (rm := { frames := 0, cells := 0, slots := 0, locals := 0 }) (mc := 0) (ms := 0) 3 hw (wsp_good wp_pkc) rfl rfl rfl (hw _ wp_pre) (hw _ wp_pkl) (by decide +kernel) ⟨Nat.le_refl _, by decide⟩
  refine row_backN (l := l) (va_runS (l := l) (e := e) (below := below) (meth := meth) (H := s.heap) (locs := []) (cells := 0) (slots := 0) (g := F0 m 5 ls [v, .int n, .int x]) (As := [.int x, .int n, v]) (rest := []) ⟨hx, hb, hml, hown, hw⟩ (met_pk x n v h0 h1) ⟨cb, hw _ wp_pks⟩ ⟨fun a U g mk q => q, fun U hU hW => ⟨rfl, hv⟩⟩ rfl rfl hl.1 rfl (Nat.zero_le _) dck_5 ⟨Nat.le_refl _, Nat.le_refl _⟩) fun w hw2 => ?_
  subst hw2
  refine lv_pop hx hb dck_8 rfl ?_
  exact W.vret hx hb hr (fun t ht hW => ⟨⟨_, rfl, rfl⟩, ht⟩) (fun _ h => by cases h) dck_9
end CKI
section STEP8
variable {gl : Nat} {gx : Nat → Int32} {z : Nat} {D : va_G} {tA : Nat → ClassId} {l : Launch} {p : Program} {e : Env} {R : Room} {s : State} {m : MethodId} {args : Array Value} {below : List Frame} {meth : Method} {c : Code} {Zq : State → Prop} {r : MT} {Q : PO} {d : Nat}
variable {K J : Nat → PL → List AV → List AV → MM → Prop} {pc n : Nat} {P : PL} {L S T : List AV} {M : MM}
theorem hcell_of {np cells slots : Nat} {ad : Nat → Nat → Nat} {H : Heap} {locs : List Loc} {ls : Array Slot} (hD : Dx gl gx z D tA R s r ad H locs cells slots ls P L S M) : cells + (P.take np).length ≤ R.cells ∧ slots + psz (P.take np) ≤ R.slots := by
  have e1 : (P.take np).length + (P.drop np).length = P.length := by rw [← List.length_append, List.take_append_drop]
  have e2 : psz (P.take np) + psz (P.drop np) = psz P := by rw [← psz_app, List.take_append_drop]
  have h8 := hD.2.2.2.2.2.2.2.1
  have h9 := hD.2.2.2.2.2.2.2.2
  omega
theorem rest_ok {T : List AV} {ad : Nat → Nat → Nat} (h : T.length ≤ 4) : ((T.map (cv ad)).map fun v => v.category).sum ≤ 8 := by
  have := cat_sum (T.map (cv ad))
  rw [List.length_map] at this
  omega
theorem go_static {k : Nat} (C : Cx z D tA p R s m args meth c r d) (hK : ∀ pc' P L S M, pc' = pc + n → K pc' P L S M → Go gl gx z D tA l p e R s m args below meth c Zq r Q pc' P L S M) (hd : decode r.2.1 pc = .ok (.invokestatic k, n)) (ho : okI (.invokestatic k) pc n = true) (h : stepI gl gx (Sim gl gx z D tA l) d r.2.2.2.2.2 r.2.2.2.1 r.2.2.2.2.1 r.1.cls Q K J (.invokestatic k) pc P L S M) : Go gl gx z D tA l p e R s m args below meth c Zq r Q pc P L S M := by
  have en : n = 3 := by simpa [okI] using ho
  subst en
  unfold stepI at h
  dsimp only at h
  obtain ⟨⟨w, y, na, nl, rr, np⟩, hm, h1⟩ := pK_inv h
  dsimp only at h1
  obtain ⟨q, hq⟩ := C.2.2.2.2.2.2.2.2.2.2.2.1 _ hm
  have hw := C.2.2.2.2.1
  split at h1
  · obtain ⟨d', rfl, ⟨g1, g2, g3⟩, g4⟩ := pD_inv h1
    obtain ⟨r', hr, f1, f2, f3, f4, f5⟩ := cOK_stat hq
    subst f3
    have h3n : r'.2.2.2.2.1 ≠ 3 := by rw [f5]; decide
    have hmk := mok_in y r' hr h3n
    intro ad H locs cells slots ls hD hR
    have hS : S = S.take na ++ S.drop na := (List.take_append_drop na S).symm
    have hA : ∀ v ∈ (S.take na).reverse, okA M.2.2 v := fun v hv => hD.2.2.2.2.2.2.1 v (List.mem_of_mem_take (List.mem_reverse.mp hv))
    have hM := met_of (ad := ad) hr h3n g4 g3 hA
    have hwords : ∀ w ∈ mneed r', w.before args s = true := fun w hw' => hw _ (hmk.1 w hw')
    have hi := hwords (.initialized r'.1.cls) List.mem_cons_self
    have hst := hwords (.static r'.1) (by unfold mneed; rw [f5]; simp)
    have cb := callB_of (R := R) (s := s) (args := args) (own := r.1.cls) (index := k) (y := r'.1) (bytes := r'.2.1) (maxL := r'.2.2.1) (ret := r'.2.2.2.1) (ws := wsM r') (rm := { frames := d', cells := (P.take np).length, slots := psz (P.take np), locals := 64 * d' }) (mc := (P.take np).length) (ms := psz (P.take np)) na hw (wsM_good hr h3n) rfl rfl rfl hi (word_of hw f1 rfl) ⟨hmk.2.2.1.1, hmk.2.2.1.2, f2⟩ (room_call C.2.2.2.2.2.2.2.2.1 C.2.2.2.2.2.2.2.2.2.1 hmk.2.2.2.1)
    have hrun := va_runS (l := l) (e := e) (below := below) (meth := meth) (H := H) (locs := locs) (cells := cells) (slots := slots) (g := F0 m pc ls (S.map (cv ad))) (As := (S.take na).reverse.map (cv ad)) (rest := (S.drop na).map (cv ad)) ⟨C.1, C.2.1, C.2.2.1, C.2.2.2.1, hw⟩ hM ⟨cb, hst⟩ ⟨PG_blind, fun U hU hW => ⟨rfl, PG_at C hD hU hW⟩⟩ rfl (by rw [List.length_map, List.length_reverse, g2]) hD.2.2.2.1.1
      (by
        show S.map (cv ad) = _
        exact (take_rev S na (cv ad)).symm) (lv_room (rest_ok g1)) hd (hcell_of hD)
    exact go_back hD (fun v hv => List.mem_of_mem_drop hv) hR hrun (fun h0 => rcd0 (f4.trans h0)) (fun M' hf => hK _ _ _ _ _ rfl hf) (fun v M' hf => hK _ _ _ _ _ rfl hf)
  · obtain ⟨d', rfl, ga1⟩ := pD_inv h1
    obtain ⟨x, S1, rfl, ga2⟩ := pI_inv ga1
    obtain ⟨dp, S2, rfl, ga3⟩ := pI_inv ga2
    obtain ⟨k', i', S3, rfl, ga4⟩ := pR_inv ga3
    obtain ⟨sp, S4, rfl, ga5⟩ := pI_inv ga4
    obtain ⟨k0, i0, S5, rfl, ga6⟩ := pR_inv ga5
    obtain ⟨q0, hk0, ga7⟩ := pO_inv ga6
    obtain ⟨q1, hk1, ga8⟩ := pO_inv ga7
    obtain ⟨hI, ⟨g1, g2, g3, g4, g5, g6⟩, g7⟩ := pB_inv ga8
    simp only [Bool.and_eq_true] at hI
    have hI0 := isInt_eq hI.1
    have hI1 := isInt_eq hI.2
    have hq : inT (.methodLink r.1.cls k arraycopyName) q = true := hq
    intro ad H locs cells slots ls hD hR
    have hkf := C.2.2.2.2.2.2.1
    obtain ⟨lv0, z0, a0⟩ := arr_live hD (k := k0) (i := i0) (by simp) hk0
    obtain ⟨lv1, z1, a1⟩ := arr_live hD (k := k') (i := i') (by simp) hk1
    have e0 : H[ad k0 i0]? = some (vp_cell (tA k0) (q0.2, .inl (M.1 k0 i0))) := by
      rw [a0, vp_cell_i]; congr 2; funext j; exact mv_I hk0 (by rw [hI0]; rfl)
    have e1 : H[ad k' i']? = some (vp_cell (tA k') (q1.2, .inl (M.1 k' i'))) := by
      rw [a1, vp_cell_i]; congr 2; funext j; exact mv_I hk1 (by rw [hI1]; rfl)
    have t0 := (hkf.2.1 k0 q0 hk0).1
    have t1 := (hkf.2.1 k' q1 hk1).1
    rw [hI0] at t0
    rw [hI1] at t1
    have hR5 := rest_ok (T := S5) (ad := ad) g1
    have hlocals : ((S5.map (cv ad)).map fun v => v.category).sum + (nativeFrameWords "java/lang/System" "arraycopy" 5 + 11) ≤ R.locals := by
      have h64 := C.2.2.2.2.2.2.2.2.2.1
      have : nativeFrameWords "java/lang/System" "arraycopy" 5 = 7 := by decide +kernel
      omega
    have hfr : 1 ≤ R.frames := by have := C.2.2.2.2.2.2.2.2.1; omega
    refine row_copy (l := l) (Zq := Zq) (e := e) (below := below) (meth := meth) (z := z) (cells := cells) (slots := slots) (ty := .int) C.1 C.2.1 (by rw [C.2.2.1, hD.2.2.2.1.1]) C.2.2.2.1 (word_of hw hq rfl) (hw _ wp_acn) (hw _ wp_acs) (hw _ wp_sys) e0 e1 t0 t1 rfl hD.2.1 z1 g2 g3 g4 g5 g6 (fun _ _ => rfl) hfr hlocals hd fun H1 locs1 b1 b2 b3 => ?_
    have hne : ∀ (A : Nat → Int32) (k'' i'' j : Nat), ¬ (k'' = k' ∧ i'' = i') → u2 M.1 k' i' A k'' i'' j = M.1 k'' i'' j := fun A k'' i'' j hh => by unfold u2; rw [if_neg hh]
    have hc : cellR D tA ad (u2 M.1 k' i' (va_cpy (M.1 k0 i0) (M.1 k' i') sp.toNatClampNeg dp.toNatClampNeg x.toNatClampNeg), M.2) H1 k' i' := by
      unfold cellR
      rw [ak_le hk1]
      refine ⟨q1, hk1, ?_⟩
      rw [b1, vp_cell_i]
      congr 2
      funext j
      rw [mv_I hk1 (by rw [hI1]; rfl)]
      simp [u2]
    exact hK _ _ _ _ _ rfl g7 ad H1 locs1 cells slots ls (hD.mem rfl (hD.2.2.1.put lv1 rfl (fun k'' i'' j hh => ⟨hne _ _ _ _ hh, rfl⟩) (fun j hj => hD.2.2.1.2.2 k' i' j lv1 hj) b2 hc) b3 (fun v hv => by simp [hv])) hR
  · obtain ⟨d1, rfl, ga9⟩ := pD_inv h1
    obtain ⟨d2, rfl, ga10⟩ := pD_inv ga9
    obtain ⟨x, S1, rfl, ga11⟩ := pI_inv ga10
    obtain ⟨y2, S2, rfl, ga12⟩ := pI_inv ga11
    obtain ⟨⟨g1, g2, g3⟩, g4⟩ := ga12
    have hq : inT (.methodLink r.1.cls k ciName) q = true := hq
    intro ad H locs cells slots ls hD hR
    have hf2 := C.2.2.2.2.2.2.2.2.1
    have hl2 := C.2.2.2.2.2.2.2.2.2.1
    have cb := callB_of (R := R) (s := s) (args := args) (own := r.1.cls) (index := k) (y := ciName) (bytes := prog_16_method_155_code) (maxL := 2) (ret := none) (ws := .code ciName prog_16_method_155_code 2 none :: lw_g) (rm := { frames := 1, cells := 0, slots := 0, locals := 40 }) (mc := 0) (ms := 0) 2 hw (wsp_good wp_ckc) rfl rfl rfl (hw _ wp_str) (word_of hw hq rfl) (by decide +kernel) ⟨by show 1 + 1 ≤ _; omega, by show 8 + (2 + 11) + 40 ≤ _; omega⟩
    refine row_backN (l := l) (va_runS (l := l) (e := e) (below := below) (meth := meth) (H := H) (locs := locs) (cells := cells) (slots := slots) (g := F0 m pc ls (.int x :: .int y2 :: S2.map (cv ad))) (As := [.int y2, .int x]) (rest := S2.map (cv ad)) ⟨C.1, C.2.1, C.2.2.1, C.2.2.2.1, hw⟩ (met_ck (z := z) y2 x g2 g3) ⟨cb, hw _ wp_cks⟩ ⟨?_, ?_⟩ rfl rfl hD.2.2.2.1.1 rfl (lv_room (rest_ok g1)) hd ⟨?_, ?_⟩) fun w hw2 => ?_
    · intro a U g mk ⟨h1, v, h2, h3⟩
      exact ⟨h1, v, h2.moved (U := U.calling g mk a) (Vm.Alike.refl U.vm), h3⟩
    · intro U hU hW
      obtain ⟨-, -, -, -, -, v, h6, h7⟩ := (PG_at C hD hU hW).1
      exact ⟨rfl, v, h6, h7⟩
    · have := hD.2.2.2.2.2.2.2.1; omega
    · have := hD.2.2.2.2.2.2.2.2; omega
    · subst hw2
      exact hK _ _ _ _ _ rfl g4 ad H locs cells slots ls (hD.stk fun v hv => Or.inl (mem2 v hv)) hR
  · obtain ⟨d', rfl, ga13⟩ := pD_inv h1
    obtain ⟨x, S1, rfl, ga14⟩ := pI_inv ga13
    obtain ⟨y2, S2, rfl, ga15⟩ := pI_inv ga14
    obtain ⟨g1, g4⟩ := ga15
    have hq : inT (.methodLink r.1.cls k Lib.Math.max.name) q = true := hq
    intro ad H locs cells slots ls hD hR
    have h64 := C.2.2.2.2.2.2.2.2.2.1
    have hfr := C.2.2.2.2.2.2.2.2.1
    have h8 := hD.2.2.2.2.2.2.2.1
    have h9 := hD.2.2.2.2.2.2.2.2
    have h5 := rest_ok (T := S2) (ad := ad) g1
    exact va_mmax C.1 C.2.1 (by rw [C.2.2.1, hD.2.2.2.1.1]) C.2.2.2.1 (word_of hw hq rfl) (hw _ wp_maxs) (hw _ wp_math) (hw _ wp_maxc) (by omega) (by omega) (by omega) (by omega) hd (hK _ _ _ _ _ rfl g4 ad H locs cells slots ls (hD.stk (hv1 mem2 trivial)) hR)
  · obtain ⟨d', rfl, ga16⟩ := pD_inv h1
    obtain ⟨x, S1, rfl, ga17⟩ := pI_inv ga16
    obtain ⟨y2, S2, rfl, ga18⟩ := pI_inv ga17
    obtain ⟨g1, g4⟩ := ga18
    have hq : inT (.methodLink r.1.cls k Lib.Math.min.name) q = true := hq
    intro ad H locs cells slots ls hD hR
    have h64 := C.2.2.2.2.2.2.2.2.2.1
    have hfr := C.2.2.2.2.2.2.2.2.1
    have h8 := hD.2.2.2.2.2.2.2.1
    have h9 := hD.2.2.2.2.2.2.2.2
    have h5 := rest_ok (T := S2) (ad := ad) g1
    exact va_mmin C.1 C.2.1 (by rw [C.2.2.1, hD.2.2.2.1.1]) C.2.2.2.1 (word_of hw hq rfl) (hw _ wp_mins) (hw _ wp_math) (hw _ wp_minc) (by omega) (by omega) (by omega) (by omega) hd (hK _ _ _ _ _ rfl g4 ad H locs cells slots ls (hD.stk (hv1 mem2 trivial)) hR)
  · exact h1.elim
end STEP8
end
section
/-! ONE STEP: constructors' calls, new objects -/
section STEP9
variable {gl : Nat} {gx : Nat → Int32} {z : Nat} {D : va_G} {tA : Nat → ClassId} {l : Launch} {p : Program} {e : Env} {R : Room} {s : State} {m : MethodId} {args : Array Value} {below : List Frame} {meth : Method} {c : Code} {Zq : State → Prop} {r : MT} {Q : PO} {d : Nat}
variable {K J : Nat → PL → List AV → List AV → MM → Prop} {pc n : Nat} {P : PL} {L S T : List AV} {M : MM}
theorem go_special {k : Nat} (C : Cx z D tA p R s m args meth c r d) (hK : ∀ pc' P L S M, pc' = pc + n → K pc' P L S M → Go gl gx z D tA l p e R s m args below meth c Zq r Q pc' P L S M) (hd : decode r.2.1 pc = .ok (.invokespecial k, n)) (ho : okI (.invokespecial k) pc n = true) (h : stepI gl gx (Sim gl gx z D tA l) d r.2.2.2.2.2 r.2.2.2.1 r.2.2.2.2.1 r.1.cls Q K J (.invokespecial k) pc P L S M) : Go gl gx z D tA l p e R s m args below meth c Zq r Q pc P L S M := by
  have en : n = 3 := by simpa [okI] using ho
  subst en
  unfold stepI at h
  dsimp only at h
  obtain ⟨⟨w, y, na, nl, rr, np⟩, hm, h1⟩ := pK_inv h
  clear h
  dsimp only at h1
  obtain ⟨q, hq⟩ := C.2.2.2.2.2.2.2.2.2.2.2.1 _ hm
  have hw := C.2.2.2.2.1
  split at h1
  · obtain ⟨k0, i, T1, hT1, h2⟩ := pR_inv h1
    obtain ⟨d', rfl, ⟨g1, g2, g3⟩, g4⟩ := pD_inv h2
    obtain ⟨r', hr, f1, f2, f3, f5⟩ := cOK_spec hq
    subst f3
    have h3n : r'.2.2.2.2.1 ≠ 3 := by rw [f5]; decide
    have hmk := mok_in y r' hr h3n
    obtain ⟨hini, hret⟩ := hmk.2.2.2.2 f5
    intro ad H locs cells slots ls hD hR
    have hS : S = S.take na ++ (aR k0 i :: T1) := by rw [← hT1, List.take_append_drop]
    have hmem : aR k0 i ∈ S := by rw [hS]; simp
    have hA : ∀ v ∈ aR k0 i :: (S.take na).reverse, okA M.2.2 v := by
      intro v hv
      refine hD.2.2.2.2.2.2.1 v ?_
      rcases List.mem_cons.mp hv with rfl | hv
      · exact hmem
      · rw [hS]; exact List.mem_append_left _ (List.mem_reverse.mp hv)
    have hM := met_of (ad := ad) (Q := onR 0 (fun M => K (pc + 3) (P.drop np) L T1 M) (fun _ _ => False)) hr h3n g4 g3 hA
    have hwords : ∀ w ∈ mneed r', w.before args s = true := fun w hw' => hw _ (hmk.1 w hw')
    have hi := hwords (.initialized r'.1.cls) List.mem_cons_self
    have hin := hwords (.instanceMethod r'.1) (by unfold mneed; rw [f5]; simp)
    have cb := callB_of (R := R) (s := s) (args := args) (own := r.1.cls) (index := k) (y := r'.1) (bytes := r'.2.1) (maxL := r'.2.2.1) (ret := none) (ws := wsM r') (ws' := lw_g) (rm := { frames := d', cells := (P.take np).length, slots := psz (P.take np), locals := 64 * d' }) (mc := (P.take np).length) (ms := psz (P.take np)) na hw (wsM_good hr h3n) (by unfold wsM; rw [hret]) rfl rfl hi (word_of hw f1 rfl) ⟨hmk.2.2.1.1, hmk.2.2.1.2, f2⟩ (room_call C.2.2.2.2.2.2.2.2.1 C.2.2.2.2.2.2.2.2.2.1 hmk.2.2.2.1)
    have hrun := va_runI (l := l) (e := e) (below := below) (meth := meth) (H := H) (locs := locs) (cells := cells) (slots := slots) (g := F0 m pc ls (S.map (cv ad))) (As := (S.take na).reverse.map (cv ad)) (b := ad k0 i) (rest := T1.map (cv ad)) ⟨C.1, C.2.1, C.2.2.1, C.2.2.2.1, hw⟩ hM ⟨cb, hini, hin⟩ ⟨PG_blind, fun U hU hW => ⟨rfl, PG_at C hD hU hW⟩⟩ rfl (by rw [List.length_map, List.length_reverse, g2]) hD.2.2.2.1.1
      (by
        show S.map (cv ad) = _
        have e1 := take_rev S na (cv ad)
        rw [hT1] at e1
        exact e1.symm) (lv_room (rest_ok g1)) hd (hcell_of hD)
    exact go_back hD (fun v hv => by rw [hS]; simp [hv]) hR hrun (fun _ => hret) (fun M' hf => hK _ _ _ _ _ rfl hf) (fun v M' hf => hf.elim)
  · obtain ⟨k0, i, T1, hT1, h2⟩ := pR_inv h1
    obtain ⟨d', rfl, ⟨g1, g2, g3⟩, g4⟩ := pD_inv h2
    obtain ⟨r', hr, f1, f2, f3, f5⟩ := cOK_nest hq
    subst f3
    have h3n : r'.2.2.2.2.1 ≠ 3 := by rw [f5]; decide
    have hmk := mok_in y r' hr h3n
    obtain ⟨hini, hret⟩ := hmk.2.2.2.2 f5
    intro ad H locs cells slots ls hD hR
    have hS : S = S.take na ++ (aR k0 i :: T1) := by rw [← hT1, List.take_append_drop]
    have hmem : aR k0 i ∈ S := by rw [hS]; simp
    have hA : ∀ v ∈ aR k0 i :: (S.take na).reverse, okA M.2.2 v := by
      intro v hv
      refine hD.2.2.2.2.2.2.1 v ?_
      rcases List.mem_cons.mp hv with rfl | hv
      · exact hmem
      · rw [hS]; exact List.mem_append_left _ (List.mem_reverse.mp hv)
    have hM := met_of (ad := ad) (Q := onR 0 (fun M => K (pc + 3) (P.drop np) L T1 M) (fun _ _ => False)) hr h3n g4 g3 hA
    have hwords : ∀ w ∈ mneed r', w.before args s = true := fun w hw' => hw _ (hmk.1 w hw')
    have hi := hwords (.initialized r'.1.cls) List.mem_cons_self
    have hin := hwords (.instanceMethod r'.1) (by unfold mneed; rw [f5]; simp)
    have hnw := C.2.2.2.2.2.2.1.2.2.2 _ _ _ _ (inT_mem f1)
    have cb := va_cnB (R := R) (s := s) (args := args) (own := r.1.cls) (host := "StencilHouse") (index := k) (y := r'.1) (bytes := r'.2.1) (maxL := r'.2.2.1) (ret := none) (ws := wsM r') (ws' := lw_g) (rm := { frames := d', cells := (P.take np).length, slots := psz (P.take np), locals := 64 * d' }) (mc := (P.take np).length) (ms := psz (P.take np)) na hw (wsM_good hr h3n) (by unfold wsM; rw [hret]) rfl rfl hnw hi ⟨hmk.2.2.1.1, hmk.2.2.1.2, f2⟩ (room_call C.2.2.2.2.2.2.2.2.1 C.2.2.2.2.2.2.2.2.2.1 hmk.2.2.2.1)
    have hrun := va_runIN (l := l) (e := e) (below := below) (meth := meth) (H := H) (locs := locs) (cells := cells) (slots := slots) (g := F0 m pc ls (S.map (cv ad))) (As := (S.take na).reverse.map (cv ad)) (b := ad k0 i) (rest := T1.map (cv ad)) ⟨C.1, C.2.1, C.2.2.1, C.2.2.2.1, hw⟩ hM ⟨cb, hini, hin⟩ ⟨PG_blind, fun U hU hW => ⟨rfl, PG_at C hD hU hW⟩⟩ rfl (by rw [List.length_map, List.length_reverse, g2]) hD.2.2.2.1.1
      (by
        show S.map (cv ad) = _
        have e1 := take_rev S na (cv ad)
        rw [hT1] at e1
        exact e1.symm) (lv_room (rest_ok g1)) hd (hcell_of hD)
    exact go_back hD (fun v hv => by rw [hS]; simp [hv]) hR hrun (fun _ => hret) (fun M' hf => hK _ _ _ _ _ rfl hf) (fun v M' hf => hf.elim)
  · obtain ⟨d', rfl, g1⟩ := pD_inv h1
    obtain ⟨k0, i, T1, rfl, g2, g3⟩ := pR_inv g1
    have hq : inT (.methodLink r.1.cls k objectInit) q = true := hq
    intro ad H locs cells slots ls hD hR
    have h64 := C.2.2.2.2.2.2.2.2.2.1
    have hfr := C.2.2.2.2.2.2.2.2.1
    have h5 := rest_ok (T := T1) (ad := ad) g2
    refine W.objInit C.1 C.2.1 C.2.2.2.1 (word_of hw hq rfl) (hw _ wp_oii) (hw _ wp_oic) rfl (by show ls.size = _; rw [C.2.2.1, hD.2.2.2.1.1]) rfl hd (by omega) (by show 2 * 0 + _ + 12 ≤ _; omega) ?_
    exact hK _ _ _ _ _ rfl g3 ad H locs cells slots ls (hD.stk fun v hv => Or.inl (mem1 v hv)) hR
  · exact h1.elim
end STEP9
end
section
/-! ONE STEP: new objects -/
section STEP10
variable {gl : Nat} {gx : Nat → Int32} {z : Nat} {D : va_G} {tA : Nat → ClassId} {l : Launch} {p : Program} {e : Env} {R : Room} {s : State} {m : MethodId} {args : Array Value} {below : List Frame} {meth : Method} {c : Code} {Zq : State → Prop} {r : MT} {Q : PO} {d : Nat}
variable {K J : Nat → PL → List AV → List AV → MM → Prop} {pc n : Nat} {P : PL} {L S T : List AV} {M : MM} {X : XT}
def adN (ad : Nat → Nat → Nat) (k i a : Nat) : Nat → Nat → Nat := fun k' i' => if k' = k ∧ i' = i then a else ad k' i'
theorem adN_self {ad : Nat → Nat → Nat} {k i a : Nat} : adN ad k i a k i = a := by simp [adN]
theorem adN_ne {ad : Nat → Nat → Nat} {k i a k' i' : Nat} (h : ¬ (k' = k ∧ i' = i)) : adN ad k i a k' i' = ad k' i' := by unfold adN; rw [if_neg h]
theorem adN_ext {ad : Nat → Nat → Nat} {k i a : Nat} (hl : M.2.2 k i = false) (hs : stk k = false) : Ext M.2.2 ad (adN ad k i a) := by
  intro k' i' h
  refine adN_ne fun q => ?_
  obtain ⟨rfl, rfl⟩ := q
  rcases h with h | h
  · rw [hl] at h; cases h
  · rw [hs] at h; cases h
theorem mk_1 {k i : Nat} : (mk M k i).1 = u2 M.1 k i (fun _ => 0) := rfl
theorem mk_2 {k i : Nat} : (mk M k i).2.1 = u2 M.2.1 k i (fun j => dv (ftk k j)) := rfl
theorem mk_lv {k i k' i' : Nat} : (mk M k i).2.2 k' i' = true ↔ (k' = k ∧ i' = i) ∨ M.2.2 k' i' = true := by
  show u1 M.2.2 k i true k' i' = true ↔ _
  unfold u1
  by_cases h : k' = k ∧ i' = i
  · simp [h]
  · simp [h]
theorem mv_mk {ad : Nat → Nat → Nat} {k i j : Nat} (ht : tyK (ftk k j) = true) : mv ad (mk M k i) k i j = defaultValue (ftk k j) := by
  unfold mv
  have e1 : (mk M k i).1 k i j = 0 := by rw [mk_1]; simp [u2]
  have e2 : (mk M k i).2.1 k i j = dv (ftk k j) := by rw [mk_2]; simp [u2]
  rw [e1, e2]
  revert ht
  cases ftk k j <;> intro ht <;> first | rfl | (exfalso; revert ht; decide)
theorem arrV_congr {cI : ClassId} {N : Nat} {f g : Nat → Value} (h : ∀ j, j < N → f j = g j) : arrV cI N f = arrV cI N g := by
  unfold arrV
  congr 2
  funext j
  exact h j.val j.isLt
theorem cellR.congr2 {ad ad' : Nat → Nat → Nat} {M M1 : MM} {H H1 : Heap} {k i : Nat} (h : cellR D tA ad M H k i) (ha : ad' k i = ad k i) (hq : H1[ad k i]? = H[ad k i]?) (hm : ∀ j, j < sz1 k → mv ad' M1 k i j = mv ad M k i j) : cellR D tA ad' M1 H1 k i := by
  unfold cellR at h ⊢
  rw [ha]
  split at h
  · obtain ⟨q, h1, h2⟩ := h
    refine ⟨q, h1, hq.trans (h2.trans ?_)⟩
    rw [arrV_congr fun j hj => (hm j (by rw [sz1_ak h1]; exact hj)).symm]
  · obtain ⟨q, h1, h2⟩ := h
    exact ⟨q, h1, (h2.kept hq).to fun j hj => (hm j (by rw [sz1_cl h1]; exact hj)).symm⟩
theorem cellR_lt {ad : Nat → Nat → Nat} {H : Heap} {k i : Nat} (h : cellR D tA ad M H k i) : ad k i < H.size := by
  unfold cellR at h
  split at h
  · obtain ⟨q, -, h2⟩ := h
    exact (Array.getElem?_eq_some_iff.mp h2).1
  · obtain ⟨q, -, cell, h2, -⟩ := h
    exact (Array.getElem?_eq_some_iff.mp h2).1
theorem alloc_ok {ad : Nat → Nat → Nat} {H H1 : Heap} {locs : List Loc} {cells slots : Nat} {ls : Array Slot} {k i : Nat} (C : Cx z D tA p R s m args meth c r d) (hD : Dx gl gx z D tA R s r ad H locs cells slots ls ((k, i) :: P) L S M) (hT : ∀ v ∈ T, v ∈ S) (hl : M.2.2 k i = false) (hs : stk k = false) (z1 : H1.size = H.size + 1) (ho : ∀ q, q < H.size → H1[q]? = H[q]?) (hc : cellR D tA (adN ad k i H.size) (mk M k i) H1 k i)
    (hR : Ret z D tA l p e R s m args below meth c Zq r Q M.2.2 ad) : Dx gl gx z D tA R s r (adN ad k i H.size) H1 locs (cells + 1) (slots + sz1 k) ls P L (aR k i :: T) (mk M k i) ∧ Ret z D tA l p e R s m args below meth c Zq r Q (mk M k i).2.2 (adN ad k i H.size) ∧ T.map (cv (adN ad k i H.size)) = T.map (cv ad) := by
  obtain ⟨d1, d2, d3, d4, d5, d6, d7, d8, d9⟩ := hD
  have he : Ext M.2.2 ad (adN ad k i H.size) := adN_ext hl hs
  have hlv : ∀ k' i', M.2.2 k' i' = true → (mk M k i).2.2 k' i' = true := fun k' i' h => mk_lv.mpr (Or.inr h)
  have hne : ∀ k' i', M.2.2 k' i' = true → ¬ (k' = k ∧ i' = i) := by
    rintro k' i' h ⟨rfl, rfl⟩
    rw [hl] at h; cases h
  have hz := C.2.2.2.2.2.2.2.1
  have hsz : z ≤ H.size := Nat.le_trans hz d2.1
  refine ⟨⟨d1.ext he, ?_, ⟨?_, ?_, ?_⟩, lvl_ext he d6 d4, d5, fun v hv => okA_mono hlv (d6 v hv), ?_, ?_, ?_⟩, hR.mono hlv he, ?_⟩
  · exact ⟨by rw [z1]; exact Nat.le_trans d2.1 (Nat.le_succ _), fun q h1 h2 => (ho q (Nat.lt_of_lt_of_le h1 d2.1)).trans (d2.2.1 q h1 h2), d2.2.2⟩
  · intro k' i' h
    by_cases hkk : k' = k ∧ i' = i
    · obtain ⟨rfl, rfl⟩ := hkk
      exact ⟨hs, by rw [adN_self]; exact hsz, hc⟩
    · have hold : M.2.2 k' i' = true := (mk_lv.mp h).resolve_left hkk
      obtain ⟨g1, g2, g3⟩ := d3.1 k' i' hold
      refine ⟨g1, by rw [adN_ne hkk]; exact g2, g3.congr2 (adN_ne hkk) (ho _ (cellR_lt g3)) fun j hj => ?_⟩
      unfold mv
      have e1 : (mk M k i).1 k' i' j = M.1 k' i' j := by rw [mk_1]; unfold u2; rw [if_neg hkk]
      have e2 : (mk M k i).2.1 k' i' j = M.2.1 k' i' j := by rw [mk_2]; unfold u2; rw [if_neg hkk]
      rw [e1, e2, cv_ext he (d3.2.2 k' i' j hold hj)]
  · intro k1 i1 k2 i2 h1 h2 heq
    by_cases hk1 : k1 = k ∧ i1 = i
    · by_cases hk2 : k2 = k ∧ i2 = i
      · exact ⟨hk1.1.trans hk2.1.symm, hk1.2.trans hk2.2.symm⟩
      · exfalso
        rw [adN_ne hk2] at heq
        obtain ⟨rfl, rfl⟩ := hk1
        rw [adN_self] at heq
        have := cellR_lt (d3.1 k2 i2 ((mk_lv.mp h2).resolve_left hk2)).2.2
        omega
    · by_cases hk2 : k2 = k ∧ i2 = i
      · exfalso
        rw [adN_ne hk1] at heq
        obtain ⟨rfl, rfl⟩ := hk2
        rw [adN_self] at heq
        have := cellR_lt (d3.1 k1 i1 ((mk_lv.mp h1).resolve_left hk1)).2.2
        omega
      · rw [adN_ne hk1, adN_ne hk2] at heq
        exact d3.2.1 k1 i1 k2 i2 ((mk_lv.mp h1).resolve_left hk1) ((mk_lv.mp h2).resolve_left hk2) heq
  · intro k' i' j h hj
    by_cases hkk : k' = k ∧ i' = i
    · obtain ⟨rfl, rfl⟩ := hkk
      have e2 : (mk M k' i').2.1 k' i' j = dv (ftk k' j) := by rw [mk_2]; simp [u2]
      rw [e2]
      unfold dv
      split <;> trivial
    · have e2 : (mk M k i).2.1 k' i' j = M.2.1 k' i' j := by rw [mk_2]; unfold u2; rw [if_neg hkk]
      rw [e2]
      exact okA_mono hlv (d3.2.2 k' i' j ((mk_lv.mp h).resolve_left hkk) hj)
  · intro v hv
    rcases List.mem_cons.mp hv with rfl | hv
    · exact Or.inl (mk_lv.mpr (Or.inl ⟨rfl, rfl⟩))
    · exact okA_mono hlv (d7 v (hT v hv))
  · simp only [List.length_cons] at d8
    omega
  · have : psz ((k, i) :: P) = sz1 k + psz P := by simp [psz]
    omega
  · exact List.map_congr_left fun v hv => cv_ext he (d7 v (hT v hv))
theorem aks_ok : aks.all (fun q => decide (q.2 ≤ 200000) && (match q.1 with
  | .int | .byte | .boolean | .object _ => true
  | _ => false)) = true := by decide +kernel
theorem ak_ok {k : Nat} {q : FieldType × Nat} (hk : ak k = some q) : q.2 ≤ 200000 ∧ (q.1 = .int ∨ q.1 = .byte ∨ q.1 = .boolean ∨ ∃ C, q.1 = .object C) := by
  unfold ak at hk
  split at hk
  · have h := List.all_eq_true.mp aks_ok q (List.mem_of_getElem? hk)
    simp only [Bool.and_eq_true, decide_eq_true_eq] at h
    refine ⟨h.1, ?_⟩
    have h2 := h.2
    split at h2
    · rename_i e; exact Or.inl e
    · rename_i e; exact Or.inr (Or.inl e)
    · rename_i e; exact Or.inr (Or.inr (Or.inl e))
    · rename_i C0 e; exact Or.inr (Or.inr (Or.inr ⟨C0, e⟩))
    · cases h2
  · cases hk
theorem tyK_ak {k j : Nat} {q : FieldType × Nat} (hk : ak k = some q) : tyK (ftk k j) = true := by
  rw [ak_ft hk]
  rcases (ak_ok hk).2 with h | h | h | ⟨C0, h⟩ <;> rw [h] <;> rfl
theorem go_alloc {i0 : Instr} (C : Cx z D tA p R s m args meth c r d) (hK : ∀ pc' P L S M, pc' = pc + n → K pc' P L S M → Go gl gx z D tA l p e R s m args below meth c Zq r Q pc' P L S M) (hd : decode r.2.1 pc = .ok (i0, n)) (ho : okI i0 pc n = true) (h : stepI gl gx X d r.2.2.2.2.2 r.2.2.2.1 r.2.2.2.2.1 r.1.cls Q K J i0 pc P L S M) (hi : (∃ k, i0 = .new k) ∨ (∃ k, i0 = .newarray k) ∨ (∃ k, i0 = .anewarray k)) : Go gl gx z D tA l p e R s m args below meth c Zq r Q pc P L S M := by
  have hkf := C.2.2.2.2.2.2.1
  have hw := C.2.2.2.2.1
  rcases hi with ⟨k, rfl⟩ | ⟨k, rfl⟩ | ⟨k, rfl⟩
  · have en : n = 3 := by simpa [okI] using ho
    subst en
    unfold stepI at h
    dsimp only at h
    obtain ⟨kk, i, P', rfl, h1⟩ := pP_inv h
    obtain ⟨c', hm, h2⟩ := pK_inv h1
    obtain ⟨hb, hl, h3⟩ := pB_inv h2
    have hb : kk = c' := Nat.eq_of_beq_eq_true hb
    subst hb
    obtain ⟨ps, hq⟩ := C.2.2.2.2.2.2.2.2.2.2.2.2.2.1 _ hm
    unfold nOK at hq
    dsimp only at hq
    split at hq
    · rename_i q hcq
      have hws := inTs_mem hq
      have w1 := hw _ (lw_g_of (hws (.classLink r.1.cls k q.1) (by simp)) rfl)
      have w2 := hw _ (lw_g_of (hws (.instantiable q.1 q.2.2) (by simp)) rfl)
      have w3 := hw _ (lw_g_of (hws (.initialized q.1) (by simp)) rfl)
      have hk11 : kk < 11 := (List.getElem?_eq_some_iff.mp hcq).1
      have hb20 : Nat.ble 20 kk = false := by
        rcases hq' : Nat.ble 20 kk with _ | _
        · rfl
        · have := Nat.le_of_ble_eq_true hq'
          omega
      have hst : stk kk = false := by
        unfold stk
        rcases hq' : Nat.ble 11 kk with _ | _
        · rfl
        · have := Nat.le_of_ble_eq_true hq'
          omega
      have hsz : sz1 kk = q.2.2 := by
        unfold sz1
        rw [hb20]
        show (classes.getD kk _).2.2 = _
        rw [List.getD_eq_getElem?_getD, hcq]
        rfl
      intro ad H locs cells slots ls hD hR
      have hKn := hkf.1.1 kk q hcq
      have h8 := hD.2.2.2.2.2.2.2.1
      have h9 := hD.2.2.2.2.2.2.2.2
      have hp2 : psz ((kk, i) :: P') = sz1 kk + psz P' := by simp [psz]
      simp only [List.length_cons] at h8
      refine W.newcK C.1 C.2.1 C.2.2.2.1 w1 w2 w3 rfl hd (by omega) (by omega) hKn.2.1 rfl fun H1 kC hkC e1 z1 o1 => ?_
      have ht := u_born (fun j => ftk kk j) hw (uwg kk q hcq) hKn hkC e1 (tyg kk q hcq)
      have hc : cellR D tA (adN ad kk i H.size) (mk M kk i) H1 kk i := by
        unfold cellR
        rw [hb20, adN_self]
        exact ⟨q, hcq, ht.to fun j _ => (mv_mk (tyK_at hb20)).symm⟩
      obtain ⟨a1, a2, a3⟩ := alloc_ok C hD (fun v hv => hv) hl hst z1 o1 hc hR
      rw [hsz] at a1
      have := hK _ _ _ _ _ rfl h3 _ H1 locs (cells + 1) (slots + q.2.2) ls a1 a2
      rw [List.map_cons, a3] at this
      have e2 : cv (adN ad kk i H.size) (aR kk i) = .ref H.size := congrArg Value.ref adN_self
      rw [e2] at this
      exact this
    · cases hq
  · have en : n = 2 := by simpa [okI] using ho
    subst en
    unfold stepI at h
    dsimp only at h
    obtain ⟨x, S1, rfl, h1⟩ := pI_inv h
    obtain ⟨kk, i, P', rfl, h2⟩ := pP_inv h1
    obtain ⟨q, hak, ⟨hty, rfl⟩, hl, h3⟩ := pO_inv h2
    intro ad H locs cells slots ls hD hR
    obtain ⟨hN, hT⟩ := ak_ok hak
    have h8 := hD.2.2.2.2.2.2.2.1
    have h9 := hD.2.2.2.2.2.2.2.2
    have hp2 : psz ((kk, i) :: P') = sz1 kk + psz P' := by simp [psz]
    have hsz := sz1_ak hak
    simp only [List.length_cons] at h8
    have harr : (Cond.arrayClass (newarray.typeOf k)).before args s = true ∧ componentBytes q.1 ≤ 8 ∧ s.vm.findClass ("[" ++ q.1.toString) = some (tA kk) := by
      have hra := (hkf.2.1 kk q hak).2
      rw [hty]
      rcases hT with h | h | h | ⟨C0, h⟩
      · rw [h] at hra ⊢; exact ⟨hw _ wp_arr_int, by decide, hra⟩
      · rw [h] at hra ⊢; exact ⟨hw _ wp_arr_byte, by decide, hra⟩
      · rw [h] at hra ⊢; exact ⟨hw _ wp_arr_boolean, by decide, hra⟩
      · rw [h] at hty; cases k <;> cases hty
    refine va_newaK (l := l) C.1 C.2.1 harr.1 rfl hd rfl (nI_pos (n := q.2) (by omega)) (nI_clamp (n := q.2) (by omega)) (by rw [hty]; have := Nat.mul_le_mul hN harr.2.1; omega) (by omega) (by omega) rfl fun H1 cA e1 z1 o1 _ hfc => ?_
    rw [hty] at hfc e1
    have hcA : cA = tA kk := Option.some.inj (hfc.symm.trans harr.2.2)
    subst hcA
    have hc : cellR D tA (adN ad kk i H.size) (mk M kk i) H1 kk i := by
      unfold cellR
      rw [ak_le hak, adN_self]
      refine ⟨q, hak, ?_⟩
      rw [e1]
      congr 2
      funext j
      rw [mv_mk (tyK_ak hak), ak_ft hak]
    obtain ⟨a1, a2, a3⟩ := alloc_ok C hD mem1 hl (ak_st hak) z1 o1 hc hR
    rw [hsz] at a1
    have := hK _ _ _ _ _ rfl h3 _ H1 locs (cells + 1) (slots + q.2) ls a1 a2
    rw [List.map_cons, a3] at this
    have e2 : cv (adN ad kk i H.size) (aR kk i) = .ref H.size := congrArg Value.ref adN_self
    rw [e2] at this
    exact this
  · have en : n = 3 := by simpa [okI] using ho
    subst en
    unfold stepI at h
    dsimp only at h
    obtain ⟨x, S1, rfl, h1⟩ := pI_inv h
    obtain ⟨kk, i, P', rfl, h2⟩ := pP_inv h1
    obtain ⟨q, hak, ⟨hty, rfl⟩, hl, h3⟩ := pO_inv h2
    obtain ⟨v', hm, hv'⟩ := pK_inv (f := fun v => v = q.1) (show pK _ k _ from by unfold pK; rw [hty])
    subst hv'
    obtain ⟨w, hq⟩ := C.2.2.2.2.2.2.2.2.2.2.2.2.2.2.1 _ hm
    unfold aOK at hq
    dsimp only at hq
    split at hq
    · rename_i C0 hC0
      simp only [Bool.and_eq_true, decide_eq_true_eq] at hq
      obtain ⟨f1, f2⟩ := hq
      intro ad H locs cells slots ls hD hR
      obtain ⟨hN, -⟩ := ak_ok hak
      have h8 := hD.2.2.2.2.2.2.2.1
      have h9 := hD.2.2.2.2.2.2.2.2
      have hp2 : psz ((kk, i) :: P') = sz1 kk + psz P' := by simp [psz]
      have hsz := sz1_ak hak
      simp only [List.length_cons] at h8
      have hra := (hkf.2.1 kk q hak).2
      rw [hC0] at hra
      obtain ⟨kA, comp, -, -, -, hfc⟩ := hra
      have hcl : (Int32.ofNat q.2).toNatClampNeg = q.2 := nI_clamp (n := q.2) (by omega)
      refine W.anew (l := l) C.1 C.2.1 C.2.2.2.1 (word_of hw f1 rfl) (va_AO.use (hkf.2.2.1 C0 f2)) rfl hd rfl (nI_pos (n := q.2) (by omega)) (by rw [hcl]; omega) (by omega) (by rw [hcl]; omega) fun cA kA' comp' g1 g2 g3 g4 => ?_
      have hcA : cA = tA kk := Option.some.inj (g1.symm.trans hfc)
      subst hcA
      rw [hcl]
      generalize hH1 : H.push ({ cls := tA kk, slots := Array.replicate q.2 .null, vm := .none } : Cell) = H1
      have z1 : H1.size = H.size + 1 := by rw [← hH1, Array.size_push]
      have e1 : H1[H.size]? = some (arrV (tA kk) q.2 (fun _ => .null)) := by rw [← hH1, Array.getElem?_push_size, ← arrV_new]
      have o1 : ∀ x, x < H.size → H1[x]? = H[x]? := fun x hx => by rw [← hH1, Array.getElem?_push, if_neg (Nat.ne_of_lt hx)]
      have hc : cellR D tA (adN ad kk i H.size) (mk M kk i) H1 kk i := by
        unfold cellR
        rw [ak_le hak, adN_self]
        refine ⟨q, hak, ?_⟩
        rw [e1]
        congr 2
        funext j
        rw [mv_mk (tyK_ak hak), ak_ft hak, hC0]
        rfl
      obtain ⟨a1, a2, a3⟩ := alloc_ok C hD mem1 hl (ak_st hak) z1 o1 hc hR
      rw [hsz] at a1
      have := hK _ _ _ _ _ rfl h3 _ H1 locs (cells + 1) (slots + q.2) ls a1 a2
      rw [List.map_cons, a3] at this
      have e2 : cv (adN ad kk i H.size) (aR kk i) = .ref H.size := congrArg Value.ref adN_self
      rw [e2] at this
      exact this
    · cases hq
end STEP10
end
section
/-! A RUN of the abstract machine is a run of the machine -/
section RUN
variable {gl : Nat} {gx : Nat → Int32} {z : Nat} {D : va_G} {tA : Nat → ClassId} {l : Launch} {p : Program} {e : Env} {R : Room} {s : State} {m : MethodId} {args : Array Value} {below : List Frame} {meth : Method} {c : Code} {Zq : State → Prop} {r : MT} {Q : PO} {d : Nat}
variable {K J : Nat → PL → List AV → List AV → MM → Prop} {pc n : Nat} {P : PL} {L S T : List AV} {M : MM}
def codeAt (b : ByteArray) : Nat → List Instr → Bool
  | _, [] => true
  | pc, i :: is => match decode b pc with
    | .ok (i', n) => decide (i' = i) && okI i pc n && codeAt b (pc + n) is
    | _ => false
theorem go_step {i : Instr} (hmk : r.2.2.2.2.1 = 2 → r.1.name = "<init>") (C : Cx z D tA p R s m args meth c r d) (hK : ∀ pc' P L S M, pc' = pc + n → K pc' P L S M → Go gl gx z D tA l p e R s m args below meth c Zq r Q pc' P L S M) (hJ : ∀ pc P L S M, J pc P L S M → Go gl gx z D tA l p e R s m args below meth c Zq r Q pc P L S M) (hd : decode r.2.1 pc = .ok (i, n)) (ho : okI i pc n = true) (h : stepI gl gx (Sim gl gx z D tA l) d r.2.2.2.2.2 r.2.2.2.1 r.2.2.2.2.1 r.1.cls Q K J i pc P L S M) : Go gl gx z D tA l p e R s m args below meth c Zq r Q pc P L S M := by
  cases i
  case aload_n k => exact go_loads C hK hd ho h (by simp)
  case aload k => exact go_loads C hK hd ho h (by simp)
  case iload_n k => exact go_loads C hK hd ho h (by simp)
  case iload k => exact go_loads C hK hd ho h (by simp)
  case lload_n k => exact go_loads C hK hd ho h (by simp)
  case lload k => exact go_loads C hK hd ho h (by simp)
  case astore_n k => exact go_stores C hK hd ho h (by simp)
  case astore k => exact go_stores C hK hd ho h (by simp)
  case istore_n k => exact go_stores C hK hd ho h (by simp)
  case istore k => exact go_stores C hK hd ho h (by simp)
  case lstore k => exact go_stores C hK hd ho h (by simp)
  case iinc k a => exact go_stores C hK hd ho h (by simp)
  case iconst k => exact go_const C hK hd ho h (by simp)
  case bipush k => exact go_const C hK hd ho h (by simp)
  case sipush k => exact go_const C hK hd ho h (by simp)
  case lconst k => exact go_const C hK hd ho h (by simp)
  case aconst_null => exact go_const C hK hd ho h (by simp)
  case iadd => exact go_arith C hK hd ho h (by simp)
  case isub => exact go_arith C hK hd ho h (by simp)
  case imul => exact go_arith C hK hd ho h (by simp)
  case idiv => exact go_arith C hK hd ho h (by simp)
  case irem => exact go_arith C hK hd ho h (by simp)
  case iand => exact go_arith C hK hd ho h (by simp)
  case ior => exact go_arith C hK hd ho h (by simp)
  case ixor => exact go_arith C hK hd ho h (by simp)
  case ishl => exact go_arith C hK hd ho h (by simp)
  case ishr => exact go_arith C hK hd ho h (by simp)
  case iushr => exact go_arith C hK hd ho h (by simp)
  case ineg => exact go_arith C hK hd ho h (by simp)
  case i2l => exact go_arith C hK hd ho h (by simp)
  case i2b => exact go_arith C hK hd ho h (by simp)
  case i2c => exact go_arith C hK hd ho h (by simp)
  case lshl => exact go_arith C hK hd ho h (by simp)
  case lor => exact go_arith C hK hd ho h (by simp)
  case lcmp => exact go_arith C hK hd ho h (by simp)
  case goto o => exact go_branch C hK hJ hd ho h (by simp)
  case if_icmp q o => exact go_branch C hK hJ hd ho h (by simp)
  case ifCond q o => exact go_branch C hK hJ hd ho h (by simp)
  case ifnull o => exact go_branch C hK hJ hd ho h (by simp)
  case ifnonnull o => exact go_branch C hK hJ hd ho h (by simp)
  case tableswitch o lo hi os => exact go_switch C hJ hd ho h (Or.inl ⟨_, _, _, _, rfl⟩)
  case lookupswitch o ps => exact go_switch C hJ hd ho h (Or.inr ⟨_, _, rfl⟩)
  case dup => exact go_stack C hK hd ho h (by simp)
  case dup2 => exact go_stack C hK hd ho h (by simp)
  case pop => exact go_stack C hK hd ho h (by simp)
  case ldc k => exact go_pool C hK hd ho h (by simp)
  case ldc_w k => exact go_pool C hK hd ho h (by simp)
  case ldc2_w k => exact go_pool C hK hd ho h (by simp)
  case getstatic k => exact go_pool C hK hd ho h (by simp)
  case getfield k => exact go_getfield C hK hd ho h
  case putfield k => exact go_putfield C hmk hK hd ho h
  case iaload => exact go_loadA C hK hd ho h (by simp)
  case baload => exact go_loadA C hK hd ho h (by simp)
  case aaload => exact go_loadA C hK hd ho h (by simp)
  case arraylength => exact go_loadA C hK hd ho h (by simp)
  case iastore => exact go_storeA C hK hd ho h (by simp)
  case bastore => exact go_storeA C hK hd ho h (by simp)
  case aastore => exact go_storeA C hK hd ho h (by simp)
  case new k => exact go_alloc C hK hd ho h (by simp)
  case newarray k => exact go_alloc C hK hd ho h (by simp)
  case anewarray k => exact go_alloc C hK hd ho h (by simp)
  case ireturn => exact go_return hd ho h (by simp)
  case areturn => exact go_return hd ho h (by simp)
  case return_ => exact go_return hd ho h (by simp)
  case invokevirtual k => exact go_virtual C hK hd ho h
  case invokestatic k => exact go_static C hK hd ho h
  case invokespecial k => exact go_special C hK hd ho h
  all_goals exact False.elim h
theorem sim_run {y : Nat} {B : List (Nat × List Instr)} (hr : mt y = some r) (hB : B.all (fun e => codeAt r.2.1 e.1 e.2) = true) (hmk : r.2.2.2.2.1 = 2 → r.1.name = "<init>") (C : Cx z D tA p R s m args meth c r d) :
    ∀ (f : Nat) (is : List Instr) (pc : Nat) (P : PL) (L S : List AV) (M : MM), codeAt r.2.1 pc is = true → runB gl gx (Sim gl gx z D tA l) d r.2.2.2.2.2 r.2.2.2.1 r.2.2.2.2.1 r.1.cls Q y B f is pc P L S M → Go gl gx z D tA l p e R s m args below meth c Zq r Q pc P L S M := by
  intro f
  induction f with
  | zero => intro is pc P L S M _ h; exact h p e R s m args below meth c Zq r hr C
  | succ f ih =>
    intro is pc P L S M hc h
    cases is with
    | nil =>
      unfold runB at h
      split at h
      · rename_i js hj
        refine ih js pc P L S M ?_ h
        have hm : (pc, js) ∈ B := by
          clear h hB ih
          induction B with
          | nil => cases hj
          | cons a B ih2 =>
            obtain ⟨k', v'⟩ := a
            by_cases hk : pc = k'
            · subst hk
              simp [List.lookup] at hj
              subst hj
              exact List.mem_cons_self
            · have hk2 : (pc == k') = false := by simpa using hk
              simp [List.lookup, hk2] at hj
              exact List.mem_cons_of_mem _ (ih2 hj)
        exact List.all_eq_true.mp hB (pc, js) hm
      · exact h p e R s m args below meth c Zq r hr C
    | cons i is =>
      unfold codeAt at hc
      split at hc
      · rename_i i' n hd
        simp only [Bool.and_eq_true, decide_eq_true_eq] at hc
        obtain ⟨⟨rfl, ho⟩, hc2⟩ := hc
        exact go_step hmk C (fun pc' P L S M e hk => ih is pc' P L S M (by rw [e]; exact hc2) hk) (fun pc P L S M hj => ih [] pc P L S M rfl hj) hd ho h
      · cases hc
end RUN
/-! THE LEAST that runs allow: a place, a memory and what is wanted behind it -/
def Mono (X : XT) : Prop := ∀ d P y pc L S M (Q Q' : PO), (∀ v M, Q v M → Q' v M) → X d P y pc L S M Q → X d P y pc L S M Q'
def Closed (gl : Nat) (gx : Nat → Int32) (X : XT) : Prop := ∀ (y : Nat) (r : MT) (B : List (Nat × List Instr)) (f d : Nat) (is : List Instr) (P : PL) (pc : Nat) (L S : List AV) (M : MM) (Q : PO), mt y = some r → B.all (fun e => codeAt r.2.1 e.1 e.2) = true → codeAt r.2.1 pc is = true → runB gl gx X d r.2.2.2.2.2 r.2.2.2.1 r.2.2.2.2.1 r.1.cls Q y B f is pc P L S M → X d P y pc L S M Q
def Wp (gl : Nat) (gx : Nat → Int32) : XT := fun d P y pc L S M Q => ∀ X : XT, Mono X → Closed gl gx X → X d P y pc L S M Q
theorem Wp_mono {gl : Nat} {gx : Nat → Int32} : Mono (Wp gl gx) := fun d P y pc L S M Q Q' h w X hm hc => hm _ _ _ _ _ _ _ _ _ h (w X hm hc)
theorem Sim_mono {gl : Nat} {gx : Nat → Int32} {z : Nat} {D : va_G} {tA : Nat → ClassId} {l : Launch} : Mono (Sim gl gx z D tA l) := by
  intro d P y pc L S M Q Q' h w p e R s m args below meth c Zq r hr C ad H locs cells slots ls hD hR
  exact w p e R s m args below meth c Zq r hr C ad H locs cells slots ls hD fun v M' ad' H' locs' cells' slots' pc' ls' g1 => hR v M' ad' H' locs' cells' slots' pc' ls' (h v M' g1)
theorem Sim_closed {gl : Nat} {gx : Nat → Int32} {z : Nat} {D : va_G} {tA : Nat → ClassId} {l : Launch} : Closed gl gx (Sim gl gx z D tA l) := by
  intro y r B f d is P pc L S M Q hr hB hc h p e R s m args below meth c Zq r' hr' C
  cases hr.symm.trans hr'
  refine sim_run hr hB (fun h2 => ?_) C f is pc P L S M hc h
  exact ((mok_in y r hr (by rw [h2]; decide)).2.2.2.2 h2).1
theorem Wp_sim {gl : Nat} {gx : Nat → Int32} {z : Nat} {D : va_G} {tA : Nat → ClassId} {l : Launch} {d : Nat} {P : PL} {y pc : Nat} {L S : List AV} {M : MM} {Q : PO} (h : Wp gl gx d P y pc L S M Q) : Sim gl gx z D tA l d P y pc L S M Q := h _ Sim_mono Sim_closed
end
section
/-! RUNS COMPOSE -/
section MONO
theorem pI_mono {S : List AV} {f g : Int32 → List AV → Prop} (h : pI S f) (m : ∀ x T, f x T → g x T) : pI S g := by
  obtain ⟨x, T, rfl, h⟩ := pI_inv h
  exact m x T h
theorem pL_mono {S : List AV} {f g : Int64 → List AV → Prop} (h : pL S f) (m : ∀ x T, f x T → g x T) : pL S g := by
  obtain ⟨x, T, rfl, h⟩ := pL_inv h
  exact m x T h
theorem pR_mono {S : List AV} {f g : Nat → Nat → List AV → Prop} (h : pR S f) (m : ∀ c i T, f c i T → g c i T) : pR S g := by
  obtain ⟨c, i, T, rfl, h⟩ := pR_inv h
  exact m c i T h
theorem pA_mono {S : List AV} {f g : AV → List AV → Prop} (h : pA S f) (m : ∀ v T, f v T → g v T) : pA S g := by
  rcases pA_inv h with ⟨c, i, T, rfl, h⟩ | ⟨T, rfl, h⟩
  · exact m _ T h
  · exact m _ T h
theorem pV_mono {S : List AV} {f g : AV → List AV → Prop} (h : pV S f) (m : ∀ v T, f v T → g v T) : pV S g := by
  obtain ⟨v, T, rfl, h⟩ := pV_inv h
  exact m v T h
theorem pN_mono {S : List AV} {f g f' g' : List AV → Prop} (h : pN S f g) (m : ∀ T, f T → f' T) (m' : ∀ T, g T → g' T) : pN S f' g' := by
  unfold pN at h ⊢
  split at h
  · exact m _ h
  · exact m' _ h
  · exact h.elim
theorem pK_mono {α : Type} {t : List (Nat × α)} {k : Nat} {f g : α → Prop} (h : pK t k f) (m : ∀ v, f v → g v) : pK t k g := by
  unfold pK at h ⊢
  split at h
  · rename_i v hv
    exact m v h
  · exact h.elim
theorem pB_mono {b : Bool} {A B : Prop} (h : pB b A) (m : A → B) : pB b B := by
  obtain ⟨rfl, h⟩ := pB_inv h
  exact m h
theorem pO_mono {α : Type} {o : Option α} {f g : α → Prop} (h : pO o f) (m : ∀ v, f v → g v) : pO o g := by
  obtain ⟨v, rfl, h⟩ := pO_inv h
  exact m v h
theorem pP_mono {P : PL} {f g : Nat → Nat → PL → Prop} (h : pP P f) (m : ∀ c i P', f c i P' → g c i P') : pP P g := by
  obtain ⟨c, i, P', rfl, h⟩ := pP_inv h
  exact m c i P' h
theorem pD_mono {d : Nat} {f g : Nat → Prop} (h : pD d f) (m : ∀ d, f d → g d) : pD d g := by
  obtain ⟨d', rfl, h⟩ := pD_inv h
  exact m d' h
theorem p1_mono {v : AV} {f g : AV → Prop} (h : p1 v f) (m : ∀ w, f w → g w) : p1 v g := by
  unfold p1 at h ⊢
  split at h <;> first | exact m _ h | exact h.elim
theorem sL_mono {L : List AV} {k : Nat} {v : AV} {f g : List AV → Prop} (h : sL L k v f) (m : ∀ L, f L → g L) : sL L k v g := by
  unfold sL at h ⊢
  split at h
  · cases k with
    | zero => exact m _ h
    | succ j =>
      dsimp only at h ⊢
      split at h
      · exact h.elim
      · exact m _ h
  · exact h.elim
theorem sL2_mono {L : List AV} {k : Nat} {v : Int64} {f g : List AV → Prop} (h : sL2 L k v f) (m : ∀ L, f L → g L) : sL2 L k v g := by
  unfold sL2 at h ⊢
  split at h
  · cases k with
    | zero => exact m _ h
    | succ j =>
      dsimp only at h ⊢
      split at h
      · exact h.elim
      · exact m _ h
  · exact h.elim
theorem brc_mono {c : Jvm.ClassFile.Cond} {x y : Int32} {a b a' b' : Prop} (h : brc c x y a b) (m : a → a') (m' : b → b') : brc c x y a' b' := by
  cases c <;> exact ⟨fun q => m (h.1 q), fun q => m' (h.2 q)⟩
theorem swT_mono {x : Int32} {pc : Nat} {J J' : Nat → Prop} (m : ∀ t, J t → J' t) : ∀ {os : List Int} {lo : Int}, swT x pc J lo os → swT x pc J' lo os := by
  intro os
  induction os with
  | nil => intro lo h; trivial
  | cons o os ih => intro lo h; exact ⟨fun q => m _ (h.1 q), ih h.2⟩
theorem swL_mono {x : Int32} {pc : Nat} {J J' : Nat → Prop} {dflt : Int} (m : ∀ t, J t → J' t) : ∀ {os : List (Int × Int)}, swL x pc J dflt os → swL x pc J' dflt os := by
  intro os
  induction os with
  | nil => intro h; exact m _ h
  | cons o os ih => intro h; exact ⟨fun q => m _ (h.1 q), fun q => ih (h.2 q)⟩
theorem onR_mono {r : Nat} {fv gv : MM → Prop} {f g : AV → MM → Prop} (m0 : ∀ M, fv M → gv M) (m : ∀ v M, f v M → g v M) : ∀ v M, onR r fv f v M → onR r gv g v M := by
  intro v M h
  match r with
  | 0 => exact m0 M h
  | 1 =>
    change onI _ v M at h
    show onI _ v M
    unfold onI at h ⊢
    split at h
    · exact m _ _ h
    · exact h.elim
  | k + 2 =>
    have h : onA k (fun M => f aN M) (fun j M => f (aR k j) M) v M := h
    show onA k (fun M => g aN M) (fun j M => g (aR k j) M) v M
    unfold onA at h ⊢
    split at h
    · exact ⟨h.1, m _ _ h.2⟩
    · exact m _ _ h
    · exact h.elim
theorem stepI_mono {gl : Nat} {gx : Nat → Int32} {X X' : XT} {d : Nat} {R : LK} {rt : Option FieldType} {hw : Nat} {oc : String} {Q : PO} {K K' J J' : Nat → PL → List AV → List AV → MM → Prop} {i : Instr} {pc : Nat} {P : PL} {L S : List AV} {M : MM} (hm : Mono X') (hX : ∀ d P y pc L S M Q, X d P y pc L S M Q → X' d P y pc L S M Q) (hK : ∀ pc P L S M, K pc P L S M → K' pc P L S M) (hJ : ∀ pc P L S M, J pc P L S M → J' pc P L S M)
    (h : stepI gl gx X d R rt hw oc Q K J i pc P L S M) : stepI gl gx X' d R rt hw oc Q K' J' i pc P L S M := by
  cases i
  case tableswitch o lo hi os => exact pI_mono h fun x T h => ⟨fun q => hJ _ _ _ _ _ (h.1 q), swT_mono (fun t => hJ _ _ _ _ _) h.2⟩
  case lookupswitch o ps => exact pI_mono h fun x T h => swL_mono (fun t => hJ _ _ _ _ _) h
  case if_icmp c o => exact pI_mono h fun y T h => pI_mono h fun x T h => brc_mono h (hJ _ _ _ _ _) (hK _ _ _ _ _)
  case ifCond c o => exact pI_mono h fun x T h => brc_mono h (hJ _ _ _ _ _) (hK _ _ _ _ _)
  case ifnull o => exact pN_mono h (fun T => hK _ _ _ _ _) (fun T => hJ _ _ _ _ _)
  case ifnonnull o => exact pN_mono h (fun T => hJ _ _ _ _ _) (fun T => hK _ _ _ _ _)
  case goto o => exact hJ _ _ _ _ _ h
  case iconst n => exact hK _ _ _ _ _ h
  case bipush n => exact hK _ _ _ _ _ h
  case sipush n => exact hK _ _ _ _ _ h
  case lconst n => exact hK _ _ _ _ _ h
  case aconst_null => exact hK _ _ _ _ _ h
  case aload_n k =>
    unfold stepI at h ⊢
    dsimp only at h ⊢
    exact pA_mono (S := [gL L k.val]) h fun v T h => hK _ _ _ _ _ h
  case aload k =>
    unfold stepI at h ⊢
    dsimp only at h ⊢
    exact pA_mono (S := [gL L k]) h fun v T h => hK _ _ _ _ _ h
  case iload_n k => exact pI_mono (S := [gL L k.val]) h fun v T h => hK _ _ _ _ _ h
  case iload k => exact pI_mono (S := [gL L k]) h fun v T h => hK _ _ _ _ _ h
  case lload_n k => exact pL_mono (S := [gL L k.val]) h fun v T h => hK _ _ _ _ _ h
  case lload k => exact pL_mono (S := [gL L k]) h fun v T h => hK _ _ _ _ _ h
  case astore_n k =>
    unfold stepI at h ⊢
    dsimp only at h ⊢
    exact pA_mono (S := S) h fun v T h => sL_mono h fun L h => hK _ _ _ _ _ h
  case astore k =>
    unfold stepI at h ⊢
    dsimp only at h ⊢
    exact pA_mono (S := S) h fun v T h => sL_mono h fun L h => hK _ _ _ _ _ h
  case istore_n k => exact pI_mono h fun v T h => sL_mono h fun L h => hK _ _ _ _ _ h
  case istore k => exact pI_mono h fun v T h => sL_mono h fun L h => hK _ _ _ _ _ h
  case lstore k => exact pL_mono h fun v T h => sL2_mono h fun L h => hK _ _ _ _ _ h
  case iinc k n => exact pI_mono (S := [gL L k]) h fun v T h => sL_mono h fun L h => hK _ _ _ _ _ h
  case ldc k => exact pK_mono h fun v h => p1_mono h fun v h => hK _ _ _ _ _ h
  case ldc_w k => exact pK_mono h fun v h => pI_mono h fun x T h => hK _ _ _ _ _ h
  case ldc2_w k => exact pK_mono h fun v h => pL_mono h fun x T h => hK _ _ _ _ _ h
  case iadd => exact pI_mono h fun y T h => pI_mono h fun x T h => hK _ _ _ _ _ h
  case isub => exact pI_mono h fun y T h => pI_mono h fun x T h => hK _ _ _ _ _ h
  case imul => exact pI_mono h fun y T h => pI_mono h fun x T h => hK _ _ _ _ _ h
  case idiv => exact pI_mono h fun y T h => pI_mono h fun x T h => ⟨h.1, hK _ _ _ _ _ h.2⟩
  case irem => exact pI_mono h fun y T h => pI_mono h fun x T h => ⟨h.1, hK _ _ _ _ _ h.2⟩
  case iand => exact pI_mono h fun y T h => pI_mono h fun x T h => hK _ _ _ _ _ h
  case ior => exact pI_mono h fun y T h => pI_mono h fun x T h => hK _ _ _ _ _ h
  case ixor => exact pI_mono h fun y T h => pI_mono h fun x T h => hK _ _ _ _ _ h
  case ishl => exact pI_mono h fun y T h => pI_mono h fun x T h => hK _ _ _ _ _ h
  case ishr => exact pI_mono h fun y T h => pI_mono h fun x T h => hK _ _ _ _ _ h
  case iushr => exact pI_mono h fun y T h => pI_mono h fun x T h => hK _ _ _ _ _ h
  case ineg => exact pI_mono h fun y T h => hK _ _ _ _ _ h
  case i2l => exact pI_mono h fun y T h => hK _ _ _ _ _ h
  case i2b => exact pI_mono h fun y T h => hK _ _ _ _ _ h
  case i2c => exact pI_mono h fun y T h => hK _ _ _ _ _ h
  case lshl => exact pI_mono h fun y T h => pL_mono h fun x T h => hK _ _ _ _ _ h
  case lor => exact pL_mono h fun y T h => pL_mono h fun x T h => hK _ _ _ _ _ h
  case lcmp => exact pL_mono h fun y T h => pL_mono h fun x T h => hK _ _ _ _ _ h
  case dup => exact pV_mono (S := S) h fun v T h => p1_mono h fun v h => hK _ _ _ _ _ h
  case dup2 => exact pV_mono (S := S) h fun w T h => pV_mono h fun v T h => p1_mono h fun w h => p1_mono h fun v h => hK _ _ _ _ _ h
  case pop => exact pV_mono (S := S) h fun v T h => p1_mono h fun v h => hK _ _ _ _ _ h
  case getstatic k => exact pK_mono h fun v h => p1_mono h fun v h => hK _ _ _ _ _ h
  case getfield k =>
    unfold stepI at h ⊢
    dsimp only at h ⊢
    refine pR_mono h fun c i T h => pK_mono h fun e h => pB_mono h fun h => ?_
    split at h
    · exact hK _ _ _ _ _ h
    · exact hK _ _ _ _ _ h
  case putfield k =>
    unfold stepI at h ⊢
    dsimp only at h ⊢
    refine pV_mono h fun v T h => pR_mono h fun c i T h => pK_mono h fun e h => pB_mono h fun h => pB_mono h fun h => ?_
    split at h
    · refine pI_mono h fun x T h => ?_
      split at h
      · exact hK _ _ _ _ _ h
      · exact ⟨h.1, hK _ _ _ _ _ h.2⟩
    · split at h
      · exact pL_mono h fun x T h => hK _ _ _ _ _ h
      · exact pA_mono h fun x T h => hK _ _ _ _ _ h
  case iaload =>
    unfold stepI at h ⊢
    dsimp only at h ⊢
    refine pI_mono h fun j T h => pR_mono h fun c i T h => ?_
    split at h
    · exact pB_mono h fun h => ⟨h.1, hK _ _ _ _ _ h.2⟩
    · split at h
      · exact ⟨h.1, hK _ _ _ _ _ h.2⟩
      · exact pB_mono h fun h => ⟨h.1, hK _ _ _ _ _ h.2⟩
  case baload =>
    unfold stepI at h ⊢
    dsimp only at h ⊢
    refine pI_mono h fun j T h => pR_mono h fun c i T h => ?_
    split at h
    · exact pB_mono h fun h => ⟨h.1, hK _ _ _ _ _ h.2⟩
    · exact pB_mono h fun h => ⟨h.1, hK _ _ _ _ _ h.2⟩
  case aaload =>
    unfold stepI at h ⊢
    dsimp only at h ⊢
    refine pI_mono h fun j T h => pR_mono h fun c i T h => pO_mono h fun q h => ?_
    split at h
    · exact ⟨h.1, hK _ _ _ _ _ h.2⟩
    · exact h.elim
  case iastore =>
    unfold stepI at h ⊢
    dsimp only at h ⊢
    exact pI_mono h fun x T h => pI_mono h fun j T h => pR_mono h fun c i T h => pO_mono h fun q h => pB_mono h fun h => ⟨h.1, hK _ _ _ _ _ h.2⟩
  case bastore =>
    unfold stepI at h ⊢
    dsimp only at h ⊢
    exact pI_mono h fun x T h => pI_mono h fun j T h => pR_mono h fun c i T h => pO_mono h fun q h => pB_mono h fun h => ⟨h.1, hK _ _ _ _ _ h.2⟩
  case aastore =>
    unfold stepI at h ⊢
    dsimp only at h ⊢
    refine pR_mono h fun c' i' T h => pI_mono h fun j T h => pR_mono h fun c i T h => pO_mono h fun q h => ?_
    split at h
    · exact ⟨h.1, h.2.1, hK _ _ _ _ _ h.2.2⟩
    · exact h.elim
  case arraylength =>
    unfold stepI at h ⊢
    dsimp only at h ⊢
    refine pR_mono h fun c i T h => ?_
    split at h
    · exact hK _ _ _ _ _ h
    · split at h
      · exact hK _ _ _ _ _ h
      · exact pB_mono h fun h => hK _ _ _ _ _ h
  case new k =>
    unfold stepI at h ⊢
    dsimp only at h ⊢
    exact pP_mono h fun c i P h => pK_mono h fun c' h => pB_mono h fun h => ⟨h.1, hK _ _ _ _ _ h.2⟩
  case newarray k => exact pI_mono h fun x T h => pP_mono h fun c i P h => pO_mono h fun q h => ⟨h.1, h.2.1, hK _ _ _ _ _ h.2.2⟩
  case anewarray k => exact pI_mono h fun x T h => pP_mono h fun c i P h => pO_mono h fun q h => ⟨h.1, h.2.1, hK _ _ _ _ _ h.2.2⟩
  case ireturn => exact h
  case areturn => exact h
  case return_ => exact h
  case invokevirtual k =>
    unfold stepI at h ⊢
    dsimp only at h ⊢
    exact pK_mono h fun e h => pR_mono h fun c i T h => pB_mono h fun h => pD_mono h fun d h => ⟨h.1, hm _ _ _ _ _ _ _ _ _ (onR_mono (fun M => hK _ _ _ _ _) (fun v M => hK _ _ _ _ _)) (hX _ _ _ _ _ _ _ _ h.2)⟩
  case invokestatic k =>
    unfold stepI at h ⊢
    dsimp only at h ⊢
    refine pK_mono h fun e h => ?_
    split at h
    · exact pD_mono h fun d h => ⟨h.1, hm _ _ _ _ _ _ _ _ _ (onR_mono (fun M => hK _ _ _ _ _) (fun v M => hK _ _ _ _ _)) (hX _ _ _ _ _ _ _ _ h.2)⟩
    · exact pD_mono h fun d h => pI_mono h fun n T h => pI_mono h fun n T h => pR_mono h fun n _ T h => pI_mono h fun n T h => pR_mono h fun n _ T h => pO_mono h fun q h => pO_mono h fun q h => pB_mono h fun h => ⟨h.1, hK _ _ _ _ _ h.2⟩
    · exact pD_mono h fun d h => pD_mono h fun d h => pI_mono h fun n T h => pI_mono h fun n T h => ⟨h.1, hK _ _ _ _ _ h.2⟩
    · exact pD_mono h fun d h => pI_mono h fun n T h => pI_mono h fun n T h => ⟨h.1, hK _ _ _ _ _ h.2⟩
    · exact pD_mono h fun d h => pI_mono h fun n T h => pI_mono h fun n T h => ⟨h.1, hK _ _ _ _ _ h.2⟩
    · exact h.elim
  case invokespecial k =>
    unfold stepI at h ⊢
    dsimp only at h ⊢
    refine pK_mono h fun e h => ?_
    split at h
    · exact pR_mono h fun c i T h => pD_mono h fun d h => ⟨h.1, hm _ _ _ _ _ _ _ _ _ (fun v M => hK _ _ _ _ _) (hX _ _ _ _ _ _ _ _ h.2)⟩
    · exact pR_mono h fun c i T h => pD_mono h fun d h => ⟨h.1, hm _ _ _ _ _ _ _ _ _ (fun v M => hK _ _ _ _ _) (hX _ _ _ _ _ _ _ _ h.2)⟩
    · exact pD_mono h fun d h => pR_mono h fun c i T h => ⟨h.1, hK _ _ _ _ _ h.2⟩
    · exact h.elim
  all_goals exact False.elim h
theorem runB_mono {gl : Nat} {gx : Nat → Int32} {X X' : XT} {d : Nat} {R : LK} {rt : Option FieldType} {hw : Nat} {oc : String} {Q : PO} {y : Nat} {B : List (Nat × List Instr)} (hm : Mono X') (hX : ∀ d P y pc L S M Q, X d P y pc L S M Q → X' d P y pc L S M Q) :
    ∀ (f : Nat) (is : List Instr) (pc : Nat) (P : PL) (L S : List AV) (M : MM), runB gl gx X d R rt hw oc Q y B f is pc P L S M → runB gl gx X' d R rt hw oc Q y B f is pc P L S M := by
  intro f
  induction f with
  | zero => intro is pc P L S M h; exact hX _ _ _ _ _ _ _ _ h
  | succ f ih =>
    intro is pc P L S M h
    cases is with
    | nil =>
      unfold runB at h ⊢
      split at h
      · exact ih _ _ _ _ _ _ h
      · exact hX _ _ _ _ _ _ _ _ h
    | cons i is => exact stepI_mono hm hX (fun pc P L S M => ih is pc P L S M) (fun pc P L S M => ih [] pc P L S M) h
/-- a run through pieces of a method's code: all that it leaves to, is a run again -/
theorem wpT {gl : Nat} {gx : Nat → Int32} {y d pc : Nat} {P : PL} {L S : List AV} {M : MM} {Q : PO} (r : MT) (hr : mt y = some r) (is : List Instr) (hc : codeAt r.2.1 pc is = true) (B : List (Nat × List Instr)) (hB : B.all (fun e => codeAt r.2.1 e.1 e.2) = true) (f : Nat) (h : runB gl gx (Wp gl gx) d r.2.2.2.2.2 r.2.2.2.1 r.2.2.2.2.1 r.1.cls Q y B f is pc P L S M) : Wp gl gx d P y pc L S M Q := by
  intro X hm hcl
  exact hcl y r B f d is P pc L S M Q hr hB hc (runB_mono hm (fun d P y pc L S M Q w => w X hm hcl) f is pc P L S M h)
end MONO
end
section
/-! THE REFERENCES of the standing world: the wall's shop, whether the tokens have the tape, which images are there -/
abbrev WS : Type := Nat × Bool × (Nat → Bool) × Int64
def RS (w : WS) : MR := fun c i k => match c with
  | 0 => (match k with | 1 => aR 29 i | _ => aN)
  | 1 => (match k with | 1 => aR 31 i | 2 => aR 32 i | 3 => aR 33 i | _ => aN)
  | 2 => (match k with | 0 => aR 42 0 | 1 => aR 43 0 | 2 => aR 44 0 | 3 => aR 45 0 | 4 => aR 46 0 | _ => aN)
  | 3 => (match k with | 0 => aR 30 i | _ => aN)
  | 4 => (match k with | 0 => aR 5 8 | 1 => aR 0 8 | 2 => aR 3 8 | 3 => aR 1 8 | 6 => aR 6 0 | 7 => aR 34 0 | 8 => aR 35 0 | _ => aN)
  | 5 => (match k with | 4 => aR 26 i | 5 => aR 27 i | 6 => aR 28 i | _ => aN)
  | 6 => (match k with | 0 => (match i with | 0 => (match w.2.1 with | true => aR 20 0 | false => aR 36 0) | _ => aN) | _ => aN)
  | 7 => (match k with | 0 => aR 20 i | 4 => aR 21 i | 5 => aR 22 i | 6 => aR 23 i | 7 => aR 24 i | 8 => aR 25 i | _ => aN)
  | 8 => (match k with | 0 => (match i with | 0 => aR 5 w.1 | _ => aN) | 1 => aR 37 0 | 2 => aR 38 0 | 3 => aR 39 0 | 4 => aR 40 0 | 5 => aR 41 0 | _ => aN)
  | 9 => (match k with | 0 => aR 7 0 | 1 => aR 47 0 | 2 => aR 4 0 | 3 => aR 8 0 | 4 => aR 2 0 | _ => aN)
  | 10 => (match k with
    | 1 => aR 50 0 | 2 => aR 51 0 | 3 => aR 52 0 | 4 => aR 53 0 | 5 => aR 54 0 | 6 => aR 55 0 | 7 => aR 56 0 | 8 => aR 57 0 | 9 => aR 58 0 | 15 => (match i with | 0 => aL w.2.2.2 | _ => aN) | 19 => aR 59 0 | 20 => aR 60 0
    | 29 => aR 61 0 | 30 => aR 62 0 | 31 => aR 63 0 | 32 => aR 64 0 | 33 => aR 65 0 | 34 => aR 66 0 | 39 => aR 67 0 | 40 => aR 68 0 | 41 => aR 69 0 | 42 => aR 70 0 | 48 => aR 71 0 | 50 => aR 72 0 | _ => aN)
  | 22 => aR 5 (2 * i + k)
  | 23 => aR 0 (2 * i + k)
  | 24 => aR 3 (2 * i + k)
  | 25 => aR 1 (2 * i + k)
  | 47 => (match i with | 0 => (match w.2.2.1 k with | true => aR 7 (k + 1) | false => aN) | _ => aN)
  | _ => aN
/-- a truth as a number -/
def b2 (p : Prop) [Decidable p] : Int32 := if p then 1 else 0
theorem nb_b2 {p : Prop} [Decidable p] : narrow .boolean (.int (b2 p)) = .int (b2 p) := by unfold b2; split <;> rfl
theorem pf_bool {p : Prop} [Decidable p] : narrow .boolean (.int (b2 p)) = .int (b2 p) ∧ fits .boolean (.int (b2 p)) = true := by unfold b2; split <;> exact ⟨rfl, rfl⟩
theorem b2_0 {p : Prop} [Decidable p] (h : b2 p = 0) : ¬ p := by unfold b2 at h; split at h <;> first | (exact absurd h (by decide)) | assumption
theorem b2_n {p : Prop} [Decidable p] (h : ¬ b2 p = 0) : p := by unfold b2 at h; split at h <;> first | assumption | (exact absurd rfl h)
theorem ite_t {α : Type} {c : Prop} [Decidable c] {a b : α} (P : α → Prop) (q : c) (h : P (if c then a else b)) : P a := by rw [if_pos q] at h; exact h
theorem ite_f {α : Type} {c : Prop} [Decidable c] {a b : α} (P : α → Prop) (q : ¬ c) (h : P (if c then a else b)) : P b := by rw [if_neg q] at h; exact h
def irem (x y : Int32) : Int32 := x - x / y * y
def ushr (x y : Int32) : Int32 := (x.toUInt32 >>> (y.toUInt32 &&& Int32.toUInt32 31)).toInt32
def imax (x y : Int32) : Int32 := if x < y then y else x
def imin (x y : Int32) : Int32 := if y < x then y else x
theorem onI_imp {f g : Int32 → MM → Prop} (m : ∀ x M, f x M → g x M) : ∀ v M, onI f v M → onI g v M := by
  intro v M h
  unfold onI at h ⊢
  split at h
  · exact m _ _ h
  · exact h.elim
def STA12 : List Int32 := [0, 4, 10, 11, 13]
def STA13 : List Int32 := [2, 1, -1, 2, 2, 1, 1, 3, 3, 1, -1, 3, 2]
def STA14 : List Int32 := [1, 1, 0, 0, 0, 0, 0, 0, 0, 0, 1, 0, 0, 1, 0, 0, 0, 0, 0, 0, 0, 0, 0, 0, 0, 0, 0, 1, 0, 0, 0, 0, 0, 0, 0, 0, 0, 0, 0]
def STA15 : List Int32 := [5, 5, 0, 10, 0, 0, 31, 0, 0, 5, 9, 0, 5, 9, 0, 5, 0, 0, 5, 0, 0, 5, 4, 4, 5, 4, 4, 9, 0, 0, 9, 0, 0, 4, 4, 5, 4, 4, 0]
theorem mv9 {α : Type} (P : α → Prop) {v a : α} (e : v = a) (h : P v) : P a := e ▸ h
theorem b2_t {c : Prop} [Decidable c] (q : c) : b2 c = 1 := if_pos q
theorem b2_f {c : Prop} [Decidable c] (q : ¬ c) : b2 c = 0 := if_neg q
theorem b2n_t {c : Prop} [Decidable c] (q : c) : b2 (¬ c) = 0 := if_neg fun z => z q
theorem b2n_f {c : Prop} [Decidable c] (q : ¬ c) : b2 (¬ c) = 1 := if_pos q
theorem b2a_t {c p : Prop} [Decidable c] [Decidable p] (q : c) : b2 (c ∧ p) = b2 p := by simp [b2, q]
theorem b2a_f {c p : Prop} [Decidable c] [Decidable p] (q : ¬ c) : b2 (c ∧ p) = 0 := by simp [b2, q]
theorem b2na_t {c p : Prop} [Decidable c] [Decidable p] (q : c) : b2 (¬ c ∧ p) = 0 := by simp [b2, q]
theorem b2na_f {c p : Prop} [Decidable c] [Decidable p] (q : ¬ c) : b2 (¬ c ∧ p) = b2 p := by simp [b2, q]
theorem b2o_t {c p : Prop} [Decidable c] [Decidable p] (q : c) : b2 (c ∨ p) = 1 := by simp [b2, q]
theorem b2o_f {c p : Prop} [Decidable c] [Decidable p] (q : ¬ c) : b2 (c ∨ p) = b2 p := by simp [b2, q]
theorem b2no_t {c p : Prop} [Decidable c] [Decidable p] (q : c) : b2 (¬ c ∨ p) = b2 p := by simp [b2, q]
theorem b2no_f {c p : Prop} [Decidable c] [Decidable p] (q : ¬ c) : b2 (¬ c ∨ p) = 1 := by simp [b2, q]

theorem u3_eq {α : Type} {f g : Nat → Nat → Nat → α} {c i k : Nat} {v : α} (h1 : g c i k = v) (h2 : ∀ c' i' k', ¬ (c' = c ∧ i' = i ∧ k' = k) → f c' i' k' = g c' i' k') : u3 f c i k v = g := by
  funext c' i' k'
  by_cases h : c' = c ∧ i' = i ∧ k' = k
  · obtain ⟨rfl, rfl, rfl⟩ := h
    rw [h1]; simp [u3]
  · rw [← h2 c' i' k' h]
    simp only [u3, if_neg h]
theorem rs_shop {w : WS} {j : Nat} : u3 (RS w) 8 0 0 (aR 5 j) = RS (j, w.2) := by
  refine u3_eq ?_ ?_
  · rfl
  intro c i k h
  unfold RS
  split <;> try rfl
  split <;> try rfl
  cases i <;> try rfl
  exact absurd ⟨rfl, rfl, rfl⟩ h
theorem rs_tape {w : WS} : u3 (RS w) 6 0 0 (aR 20 0) = RS (w.1, true, w.2.2) := by
  refine u3_eq ?_ ?_
  · rfl
  intro c i k h
  unfold RS
  split <;> try rfl
  split <;> try rfl
  cases i <;> try rfl
  exact absurd ⟨rfl, rfl, rfl⟩ h
theorem rs_word {w : WS} {v : Int64} : u3 (RS w) 10 0 15 (aL v) = RS (w.1, w.2.1, w.2.2.1, v) := by
  refine u3_eq ?_ ?_
  · rfl
  intro c i k h
  unfold RS
  split <;> try rfl
  split <;> try rfl
  cases i <;> try rfl
  exact absurd ⟨rfl, rfl, rfl⟩ h
theorem rs_image {w : WS} {n : Nat} : u3 (RS w) 47 0 n (aR 7 (n + 1)) = RS (w.1, w.2.1, (fun k => if k = n then true else w.2.2.1 k), w.2.2.2) := by
  apply u3_eq
  · simp [RS]
  intro c i k h
  unfold RS
  split <;> try rfl
  split <;> try rfl
  by_cases e : k = n
  · subst e; exact absurd ⟨rfl, rfl, rfl⟩ h
  · simp [e]
end
section
/-! SHOPS (the class): rules by program, loops by hand -/
def foldN {α : Type} (f : Nat → α → α) (a : α) : Nat → α
  | 0 => a
  | n + 1 => f n (foldN f a n)
theorem up_loop {α : Type} {n : Nat} {f : Nat → α → α} {a : α} {W : Nat → α → Prop} (hs : ∀ k, k < n → W (k + 1) (f k (foldN f a k)) → W k (foldN f a k)) (he : W n (foldN f a n)) : W 0 a := by
  have h : ∀ k, k ≤ n → W (n - k) (foldN f a (n - k)) := by
    intro k
    induction k with
    | zero => intro _; exact he
    | succ k ih =>
      intro hk
      have h1 := ih (by omega)
      have e : n - k = (n - (k + 1)) + 1 := by omega
      rw [e] at h1
      exact hs _ (by omega) h1
  have := h n (Nat.le_refl n)
  rw [Nat.sub_self] at this
  exact this
/-- a bit of a set -/
abbrev bt (x : Int32) (k : Nat) : Prop := ¬ (x >>> (nI k &&& 31)) &&& 1 = 0
/-- a small number -/
def sm (m : Nat) (x : Int32) : Prop := ∃ n, n ≤ m ∧ x = nI n
theorem sm_cl {m : Nat} {x : Int32} (h : sm m x) (hm : m < 2 ^ 31) : x.toNatClampNeg ≤ m ∧ x = nI x.toNatClampNeg := by
  obtain ⟨n, h1, rfl⟩ := h
  rw [nI_clamp (by omega)]
  exact ⟨h1, rfl⟩
abbrev nt (x : Int32) : Nat := x.toNatClampNeg
/-- a shop's sizes are what they may be -/
def SH (mi : MI) (i : Nat) : Prop := (∃ n, 1 ≤ n ∧ n ≤ 5 ∧ mi 5 i 0 = nI n) ∧ (∃ n, 1 ≤ n ∧ n ≤ 5 ∧ mi 5 i 1 = nI n) ∧ sm 6 (mi 5 i 3)
abbrev row_86 : MT := (⟨"StencilHouse$Shop", "clear", "()V"⟩, prog_8_method_2_code, 2, none, 1, lk_6)
set_option maxRecDepth 20000 in
theorem mt_86 : mt 86 = some row_86 := rfl
abbrev row_87 : MT := (⟨"StencilHouse$Shop", "copyFrom", "(LStencilHouse$Shop;)V"⟩, prog_8_method_3_code, 2, none, 1, lk_6)
set_option maxRecDepth 20000 in
theorem mt_87 : mt 87 = some row_87 := rfl
abbrev row_88 : MT := (⟨"StencilHouse$Shop", "measure", "()V"⟩, prog_8_method_4_code, 2, none, 1, lk_6)
set_option maxRecDepth 20000 in
theorem mt_88 : mt 88 = some row_88 := rfl
abbrev row_89 : MT := (⟨"StencilHouse$Shop", "openSheets", "()V"⟩, prog_8_method_5_code, 2, none, 1, lk_6)
set_option maxRecDepth 20000 in
theorem mt_89 : mt 89 = some row_89 := rfl
abbrev row_90 : MT := (⟨"StencilHouse$Shop", "hasSheet", "(I)Z"⟩, prog_8_method_6_code, 2, some .boolean, 1, lk_6)
set_option maxRecDepth 20000 in
theorem mt_90 : mt 90 = some row_90 := rfl
abbrev row_91 : MT := (⟨"StencilHouse$Shop", "hasCell", "(I)Z"⟩, prog_8_method_7_code, 2, some .boolean, 1, lk_6)
set_option maxRecDepth 20000 in
theorem mt_91 : mt 91 = some row_91 := rfl
abbrev row_92 : MT := (⟨"StencilHouse$Shop", "hasPlace", "(II)Z"⟩, prog_8_method_8_code, 3, some .boolean, 1, lk_6)
set_option maxRecDepth 20000 in
theorem mt_92 : mt 92 = some row_92 := rfl
abbrev row_93 : MT := (⟨"StencilHouse$Shop", "isOpen", "(II)Z"⟩, prog_8_method_9_code, 3, some .boolean, 1, lk_6)
set_option maxRecDepth 20000 in
theorem mt_93 : mt 93 = some row_93 := rfl
abbrev row_94 : MT := (⟨"StencilHouse$Shop", "everySheet", "()I"⟩, prog_8_method_10_code, 1, some .int, 1, lk_6)
set_option maxRecDepth 20000 in
theorem mt_94 : mt 94 = some row_94 := rfl
abbrev row_95 : MT := (⟨"StencilHouse$Shop", "union", "(I)I"⟩, prog_8_method_11_code, 4, some .int, 1, lk_6)
set_option maxRecDepth 20000 in
theorem mt_95 : mt 95 = some row_95 := rfl
abbrev row_96 : MT := (⟨"StencilHouse$Shop", "beside", "(I)I"⟩, prog_8_method_12_code, 2, some .int, 1, lk_6)
set_option maxRecDepth 20000 in
theorem mt_96 : mt 96 = some row_96 := rfl
abbrev row_97 : MT := (⟨"StencilHouse$Shop", "toRight", "(I)I"⟩, prog_8_method_13_code, 2, some .int, 1, lk_6)
set_option maxRecDepth 20000 in
theorem mt_97 : mt 97 = some row_97 := rfl
abbrev row_98 : MT := (⟨"StencilHouse$Shop", "falling", "(I)I"⟩, prog_8_method_14_code, 3, some .int, 1, lk_6)
set_option maxRecDepth 20000 in
theorem mt_98 : mt 98 = some row_98 := rfl
abbrev row_99 : MT := (⟨"StencilHouse$Shop", "grown", "(II)I"⟩, prog_8_method_15_code, 6, some .int, 1, lk_6)
set_option maxRecDepth 20000 in
theorem mt_99 : mt 99 = some row_99 := rfl
abbrev row_100 : MT := (⟨"StencilHouse$Shop", "opened", "(I)I"⟩, prog_8_method_16_code, 2, some .int, 1, lk_6)
set_option maxRecDepth 20000 in
theorem mt_100 : mt 100 = some row_100 := rfl
abbrev row_101 : MT := (⟨"StencilHouse$Shop", "slid", "(III)I"⟩, prog_8_method_17_code, 6, some .int, 1, lk_6)
set_option maxRecDepth 20000 in
theorem mt_101 : mt 101 = some row_101 := rfl
abbrev row_102 : MT := (⟨"StencilHouse$Shop", "flipped", "(I)I"⟩, prog_8_method_18_code, 6, some .int, 1, lk_6)
set_option maxRecDepth 20000 in
theorem mt_102 : mt 102 = some row_102 := rfl
abbrev row_103 : MT := (⟨"StencilHouse$Shop", "turned", "(I)I"⟩, prog_8_method_19_code, 5, some .int, 1, lk_6)
set_option maxRecDepth 20000 in
theorem mt_103 : mt 103 = some row_103 := rfl
abbrev row_104 : MT := (⟨"StencilHouse$Shop", "tellSheet", "(I)I"⟩, prog_8_method_20_code, 3, some .int, 1, lk_6)
set_option maxRecDepth 20000 in
theorem mt_104 : mt 104 = some row_104 := rfl
theorem r_X6_hasSheet_0 {gl : Nat} {gx : Nat → Int32} {d : Nat} {P : PL} {Q : PO} {mi : MI} {w : WS} {lv : LV} {i : Nat} {x1 : Int32} (h : Q (aI (b2 (¬ (x1 < 0) ∧ (¬ ((mi 5 i 3) ≤ x1) ∧ (¬ (6 ≤ x1)))))) (mi, RS w, lv)) : Wp gl gx d P 90 0 [aR 5 i, aI x1] [] (mi, RS w, lv) Q := 
  wpT row_90 mt_90 [.iload_n 1, .ifCond .lt 21] (by decide +kernel) [(22, [.iconst 0, .ireturn]), (4, [.iload_n 1, .aload_n 0, .getfield 21, .if_icmp .ge 13]), (12, [.iload_n 1, .bipush 6, .if_icmp .ge 7]), (18, [.iconst 1, .goto 4]), (23, [.ireturn])] (by decide +kernel) 48 (And.intro (fun q1 => And.intro rfl (mv9 (fun v => Q (aI v) (mi, RS w, lv)) (show (b2 (¬ (x1 < 0) ∧ (¬ ((mi 5 i 3) ≤ x1) ∧ (¬ (6 ≤ x1))))) = 0 from b2na_t (show x1 < 0 from q1)) h)) (fun q2 => And.intro (fun q3 => And.intro rfl (mv9 (fun v => Q (aI v) (mi, RS w, lv)) (show (b2 (¬ ((mi 5 i 3) ≤ x1) ∧ (¬ (6 ≤ x1)))) = 0 from b2na_t (show (mi 5 i 3) ≤ x1 from q3)) (mv9 (fun v => Q (aI v) (mi, RS w, lv)) (show (b2 (¬ (x1 < 0) ∧ (¬ ((mi 5 i 3) ≤ x1) ∧ (¬ (6 ≤ x1))))) = (b2 (¬ ((mi 5 i 3) ≤ x1) ∧ (¬ (6 ≤ x1)))) from b2na_f (show ¬ (x1 < 0) from q2)) h))) (fun q4 => And.intro (fun q5 => And.intro rfl (mv9 (fun v => Q (aI v) (mi, RS w, lv)) (show (b2 (¬ (6 ≤ x1))) = 0 from b2n_t (show 6 ≤ x1 from q5)) (mv9 (fun v => Q (aI v) (mi, RS w, lv)) (show (b2 (¬ ((mi 5 i 3) ≤ x1) ∧ (¬ (6 ≤ x1)))) = (b2 (¬ (6 ≤ x1))) from b2na_f (show ¬ ((mi 5 i 3) ≤ x1) from q4)) (mv9 (fun v => Q (aI v) (mi, RS w, lv)) (show (b2 (¬ (x1 < 0) ∧ (¬ ((mi 5 i 3) ≤ x1) ∧ (¬ (6 ≤ x1))))) = (b2 (¬ ((mi 5 i 3) ≤ x1) ∧ (¬ (6 ≤ x1)))) from b2na_f (show ¬ (x1 < 0) from q2)) h)))) (fun q6 => And.intro rfl (mv9 (fun v => Q (aI v) (mi, RS w, lv)) (show (b2 (¬ (6 ≤ x1))) = 1 from b2n_f (show ¬ (6 ≤ x1) from q6)) (mv9 (fun v => Q (aI v) (mi, RS w, lv)) (show (b2 (¬ ((mi 5 i 3) ≤ x1) ∧ (¬ (6 ≤ x1)))) = (b2 (¬ (6 ≤ x1))) from b2na_f (show ¬ ((mi 5 i 3) ≤ x1) from q4)) (mv9 (fun v => Q (aI v) (mi, RS w, lv)) (show (b2 (¬ (x1 < 0) ∧ (¬ ((mi 5 i 3) ≤ x1) ∧ (¬ (6 ≤ x1))))) = (b2 (¬ ((mi 5 i 3) ≤ x1) ∧ (¬ (6 ≤ x1)))) from b2na_f (show ¬ (x1 < 0) from q2)) h)))))))

abbrev f_X6_hasSheet (mi : MI) (i : Nat) (x1 : Int32) : Int32 := b2 (¬ (x1 < 0) ∧ (¬ ((mi 5 i 3) ≤ x1) ∧ (¬ (6 ≤ x1))))
theorem s_X6_hasSheet {gl : Nat} {gx : Nat → Int32} {d : Nat} {P : PL} {Q : PO} {mi : MI} {w : WS} {lv : LV} {i : Nat} {x1 : Int32} (h : Q (aI (f_X6_hasSheet mi i x1)) (mi, RS w, lv)) : Wp gl gx d P 90 0 [aR 5 i, aI x1] [] (mi, RS w, lv) Q := r_X6_hasSheet_0 h

theorem r_X6_hasCell_0 {gl : Nat} {gx : Nat → Int32} {d : Nat} {P : PL} {Q : PO} {mi : MI} {w : WS} {lv : LV} {i : Nat} {x1 : Int32} (h : Q (aI (b2 (¬ (x1 < 0) ∧ (¬ (((mi 5 i 0) * (mi 5 i 1)) ≤ x1))))) (mi, RS w, lv)) : Wp gl gx d P 91 0 [aR 5 i, aI x1] [] (mi, RS w, lv) Q := 
  wpT row_91 mt_91 [.iload_n 1, .ifCond .lt 20] (by decide +kernel) [(21, [.iconst 0, .ireturn]), (4, [.iload_n 1, .aload_n 0, .getfield 9, .aload_n 0, .getfield 15, .imul, .if_icmp .ge 7]), (17, [.iconst 1, .goto 4]), (22, [.ireturn])] (by decide +kernel) 48 (And.intro (fun q7 => And.intro rfl (mv9 (fun v => Q (aI v) (mi, RS w, lv)) (show (b2 (¬ (x1 < 0) ∧ (¬ (((mi 5 i 0) * (mi 5 i 1)) ≤ x1)))) = 0 from b2na_t (show x1 < 0 from q7)) h)) (fun q8 => And.intro (fun q9 => And.intro rfl (mv9 (fun v => Q (aI v) (mi, RS w, lv)) (show (b2 (¬ (((mi 5 i 0) * (mi 5 i 1)) ≤ x1))) = 0 from b2n_t (show ((mi 5 i 0) * (mi 5 i 1)) ≤ x1 from q9)) (mv9 (fun v => Q (aI v) (mi, RS w, lv)) (show (b2 (¬ (x1 < 0) ∧ (¬ (((mi 5 i 0) * (mi 5 i 1)) ≤ x1)))) = (b2 (¬ (((mi 5 i 0) * (mi 5 i 1)) ≤ x1))) from b2na_f (show ¬ (x1 < 0) from q8)) h))) (fun q10 => And.intro rfl (mv9 (fun v => Q (aI v) (mi, RS w, lv)) (show (b2 (¬ (((mi 5 i 0) * (mi 5 i 1)) ≤ x1))) = 1 from b2n_f (show ¬ (((mi 5 i 0) * (mi 5 i 1)) ≤ x1) from q10)) (mv9 (fun v => Q (aI v) (mi, RS w, lv)) (show (b2 (¬ (x1 < 0) ∧ (¬ (((mi 5 i 0) * (mi 5 i 1)) ≤ x1)))) = (b2 (¬ (((mi 5 i 0) * (mi 5 i 1)) ≤ x1))) from b2na_f (show ¬ (x1 < 0) from q8)) h)))))

abbrev f_X6_hasCell (mi : MI) (i : Nat) (x1 : Int32) : Int32 := b2 (¬ (x1 < 0) ∧ (¬ (((mi 5 i 0) * (mi 5 i 1)) ≤ x1)))
theorem s_X6_hasCell {gl : Nat} {gx : Nat → Int32} {d : Nat} {P : PL} {Q : PO} {mi : MI} {w : WS} {lv : LV} {i : Nat} {x1 : Int32} (h : Q (aI (f_X6_hasCell mi i x1)) (mi, RS w, lv)) : Wp gl gx d P 91 0 [aR 5 i, aI x1] [] (mi, RS w, lv) Q := r_X6_hasCell_0 h

theorem r_X6_hasPlace_0 {gl : Nat} {gx : Nat → Int32} {d : Nat} {P : PL} {Q : PO} {mi : MI} {w : WS} {lv : LV} {i : Nat} {x1 : Int32} {x2 : Int32} (h : Q (aI (b2 (¬ (x1 < 0) ∧ (¬ ((mi 5 i 0) ≤ x1) ∧ (¬ (x2 < 0) ∧ (¬ ((mi 5 i 1) ≤ x2))))))) (mi, RS w, lv)) : Wp gl gx d P 92 0 [aR 5 i, aI x1, aI x2] [] (mi, RS w, lv) Q := 
  wpT row_92 mt_92 [.iload_n 1, .ifCond .lt 27] (by decide +kernel) [(28, [.iconst 0, .ireturn]), (4, [.iload_n 1, .aload_n 0, .getfield 9, .if_icmp .ge 19]), (12, [.iload_n 2, .ifCond .lt 15]), (16, [.iload_n 2, .aload_n 0, .getfield 15, .if_icmp .ge 7]), (24, [.iconst 1, .goto 4]), (29, [.ireturn])] (by decide +kernel) 54 (And.intro (fun q11 => And.intro rfl (mv9 (fun v => Q (aI v) (mi, RS w, lv)) (show (b2 (¬ (x1 < 0) ∧ (¬ ((mi 5 i 0) ≤ x1) ∧ (¬ (x2 < 0) ∧ (¬ ((mi 5 i 1) ≤ x2)))))) = 0 from b2na_t (show x1 < 0 from q11)) h)) (fun q12 => And.intro (fun q13 => And.intro rfl (mv9 (fun v => Q (aI v) (mi, RS w, lv)) (show (b2 (¬ ((mi 5 i 0) ≤ x1) ∧ (¬ (x2 < 0) ∧ (¬ ((mi 5 i 1) ≤ x2))))) = 0 from b2na_t (show (mi 5 i 0) ≤ x1 from q13)) (mv9 (fun v => Q (aI v) (mi, RS w, lv)) (show (b2 (¬ (x1 < 0) ∧ (¬ ((mi 5 i 0) ≤ x1) ∧ (¬ (x2 < 0) ∧ (¬ ((mi 5 i 1) ≤ x2)))))) = (b2 (¬ ((mi 5 i 0) ≤ x1) ∧ (¬ (x2 < 0) ∧ (¬ ((mi 5 i 1) ≤ x2))))) from b2na_f (show ¬ (x1 < 0) from q12)) h))) (fun q14 => And.intro (fun q15 => And.intro rfl (mv9 (fun v => Q (aI v) (mi, RS w, lv)) (show (b2 (¬ (x2 < 0) ∧ (¬ ((mi 5 i 1) ≤ x2)))) = 0 from b2na_t (show x2 < 0 from q15)) (mv9 (fun v => Q (aI v) (mi, RS w, lv)) (show (b2 (¬ ((mi 5 i 0) ≤ x1) ∧ (¬ (x2 < 0) ∧ (¬ ((mi 5 i 1) ≤ x2))))) = (b2 (¬ (x2 < 0) ∧ (¬ ((mi 5 i 1) ≤ x2)))) from b2na_f (show ¬ ((mi 5 i 0) ≤ x1) from q14)) (mv9 (fun v => Q (aI v) (mi, RS w, lv)) (show (b2 (¬ (x1 < 0) ∧ (¬ ((mi 5 i 0) ≤ x1) ∧ (¬ (x2 < 0) ∧ (¬ ((mi 5 i 1) ≤ x2)))))) = (b2 (¬ ((mi 5 i 0) ≤ x1) ∧ (¬ (x2 < 0) ∧ (¬ ((mi 5 i 1) ≤ x2))))) from b2na_f (show ¬ (x1 < 0) from q12)) h)))) (fun q16 => And.intro (fun q17 => And.intro rfl (mv9 (fun v => Q (aI v) (mi, RS w, lv)) (show (b2 (¬ ((mi 5 i 1) ≤ x2))) = 0 from b2n_t (show (mi 5 i 1) ≤ x2 from q17)) (mv9 (fun v => Q (aI v) (mi, RS w, lv)) (show (b2 (¬ (x2 < 0) ∧ (¬ ((mi 5 i 1) ≤ x2)))) = (b2 (¬ ((mi 5 i 1) ≤ x2))) from b2na_f (show ¬ (x2 < 0) from q16)) (mv9 (fun v => Q (aI v) (mi, RS w, lv)) (show (b2 (¬ ((mi 5 i 0) ≤ x1) ∧ (¬ (x2 < 0) ∧ (¬ ((mi 5 i 1) ≤ x2))))) = (b2 (¬ (x2 < 0) ∧ (¬ ((mi 5 i 1) ≤ x2)))) from b2na_f (show ¬ ((mi 5 i 0) ≤ x1) from q14)) (mv9 (fun v => Q (aI v) (mi, RS w, lv)) (show (b2 (¬ (x1 < 0) ∧ (¬ ((mi 5 i 0) ≤ x1) ∧ (¬ (x2 < 0) ∧ (¬ ((mi 5 i 1) ≤ x2)))))) = (b2 (¬ ((mi 5 i 0) ≤ x1) ∧ (¬ (x2 < 0) ∧ (¬ ((mi 5 i 1) ≤ x2))))) from b2na_f (show ¬ (x1 < 0) from q12)) h))))) (fun q18 => And.intro rfl (mv9 (fun v => Q (aI v) (mi, RS w, lv)) (show (b2 (¬ ((mi 5 i 1) ≤ x2))) = 1 from b2n_f (show ¬ ((mi 5 i 1) ≤ x2) from q18)) (mv9 (fun v => Q (aI v) (mi, RS w, lv)) (show (b2 (¬ (x2 < 0) ∧ (¬ ((mi 5 i 1) ≤ x2)))) = (b2 (¬ ((mi 5 i 1) ≤ x2))) from b2na_f (show ¬ (x2 < 0) from q16)) (mv9 (fun v => Q (aI v) (mi, RS w, lv)) (show (b2 (¬ ((mi 5 i 0) ≤ x1) ∧ (¬ (x2 < 0) ∧ (¬ ((mi 5 i 1) ≤ x2))))) = (b2 (¬ (x2 < 0) ∧ (¬ ((mi 5 i 1) ≤ x2)))) from b2na_f (show ¬ ((mi 5 i 0) ≤ x1) from q14)) (mv9 (fun v => Q (aI v) (mi, RS w, lv)) (show (b2 (¬ (x1 < 0) ∧ (¬ ((mi 5 i 0) ≤ x1) ∧ (¬ (x2 < 0) ∧ (¬ ((mi 5 i 1) ≤ x2)))))) = (b2 (¬ ((mi 5 i 0) ≤ x1) ∧ (¬ (x2 < 0) ∧ (¬ ((mi 5 i 1) ≤ x2))))) from b2na_f (show ¬ (x1 < 0) from q12)) h)))))))))

abbrev f_X6_hasPlace (mi : MI) (i : Nat) (x1 : Int32) (x2 : Int32) : Int32 := b2 (¬ (x1 < 0) ∧ (¬ ((mi 5 i 0) ≤ x1) ∧ (¬ (x2 < 0) ∧ (¬ ((mi 5 i 1) ≤ x2)))))
theorem s_X6_hasPlace {gl : Nat} {gx : Nat → Int32} {d : Nat} {P : PL} {Q : PO} {mi : MI} {w : WS} {lv : LV} {i : Nat} {x1 : Int32} {x2 : Int32} (h : Q (aI (f_X6_hasPlace mi i x1 x2)) (mi, RS w, lv)) : Wp gl gx d P 92 0 [aR 5 i, aI x1, aI x2] [] (mi, RS w, lv) Q := r_X6_hasPlace_0 h

theorem r_X6_everySheet_0 {gl : Nat} {gx : Nat → Int32} {d : Nat} {P : PL} {Q : PO} {mi : MI} {w : WS} {lv : LV} {i : Nat} (h : Q (aI (((1 : Int32) <<< ((mi 5 i 3) &&& 31)) - 1)) (mi, RS w, lv)) : Wp gl gx d P 94 0 [aR 5 i] [] (mi, RS w, lv) Q := 
  wpT row_94 mt_94 [.iconst 1, .aload_n 0, .getfield 21, .ishl, .iconst 1, .isub, .ireturn] (by decide +kernel) [] (by decide +kernel) 34 (h)

def f_X6_everySheet (mi : MI) (i : Nat) : Int32 := ((1 : Int32) <<< ((mi 5 i 3) &&& 31)) - 1
theorem s_X6_everySheet {gl : Nat} {gx : Nat → Int32} {d : Nat} {P : PL} {Q : PO} {mi : MI} {w : WS} {lv : LV} {i : Nat} (h : Q (aI (f_X6_everySheet mi i)) (mi, RS w, lv)) : Wp gl gx d P 94 0 [aR 5 i] [] (mi, RS w, lv) Q := r_X6_everySheet_0 h

theorem r_X6_toRight_0 {gl : Nat} {gx : Nat → Int32} {d : Nat} {P : PL} {Q : PO} {mi : MI} {w : WS} {lv : LV} {i : Nat} {x1 : Int32} (h : Q (aI ((x1 &&& ((mi 5 i 9) ^^^ (-1))) <<< (1 &&& 31))) (mi, RS w, lv)) : Wp gl gx d P 97 0 [aR 5 i, aI x1] [] (mi, RS w, lv) Q := 
  wpT row_97 mt_97 [.iload_n 1, .aload_n 0, .getfield 40, .iconst (.negSucc 0), .ixor, .iand, .iconst 1, .ishl, .ireturn] (by decide +kernel) [] (by decide +kernel) 38 (h)

def f_X6_toRight (mi : MI) (i : Nat) (x1 : Int32) : Int32 := (x1 &&& ((mi 5 i 9) ^^^ (-1))) <<< (1 &&& 31)
theorem s_X6_toRight {gl : Nat} {gx : Nat → Int32} {d : Nat} {P : PL} {Q : PO} {mi : MI} {w : WS} {lv : LV} {i : Nat} {x1 : Int32} (h : Q (aI (f_X6_toRight mi i x1)) (mi, RS w, lv)) : Wp gl gx d P 97 0 [aR 5 i, aI x1] [] (mi, RS w, lv) Q := r_X6_toRight_0 h

theorem r_X6_beside_0 {gl : Nat} {gx : Nat → Int32} {d : Nat} {P : PL} {Q : PO} {mi : MI} {w : WS} {lv : LV} {i : Nat} {x1 : Int32} (h : Q (aI (((((f_X6_toRight mi i x1) ||| (ushr (x1 &&& ((mi 5 i 8) ^^^ (-1))) 1)) ||| (x1 <<< ((mi 5 i 0) &&& 31))) ||| (ushr x1 (mi 5 i 0))) &&& (mi 5 i 7))) (mi, RS w, lv)) : Wp gl gx (d + 1) P 96 0 [aR 5 i, aI x1] [] (mi, RS w, lv) Q := 
  wpT row_96 mt_96 [.aload_n 0, .iload_n 1, .invokevirtual 56] (by decide +kernel) [(5, [.iload_n 1, .aload_n 0, .getfield 37, .iconst (.negSucc 0), .ixor, .iand, .iconst 1, .iushr, .ior, .iload_n 1, .aload_n 0, .getfield 9, .ishl, .ior, .iload_n 1, .aload_n 0, .getfield 9, .iushr, .ior, .aload_n 0, .getfield 34, .iand, .ireturn])] (by decide +kernel) 72 (And.intro ⟨Nat.le_of_ble_eq_true rfl, rfl, rfl⟩ (s_X6_toRight (d := d) (h)))

def f_X6_beside (mi : MI) (i : Nat) (x1 : Int32) : Int32 := ((((f_X6_toRight mi i x1) ||| (ushr (x1 &&& ((mi 5 i 8) ^^^ (-1))) 1)) ||| (x1 <<< ((mi 5 i 0) &&& 31))) ||| (ushr x1 (mi 5 i 0))) &&& (mi 5 i 7)
theorem s_X6_beside {gl : Nat} {gx : Nat → Int32} {d : Nat} {P : PL} {Q : PO} {mi : MI} {w : WS} {lv : LV} {i : Nat} {x1 : Int32} (h : Q (aI (f_X6_beside mi i x1)) (mi, RS w, lv)) : Wp gl gx (d + 1) P 96 0 [aR 5 i, aI x1] [] (mi, RS w, lv) Q := r_X6_beside_0 h

theorem r_X6_isOpen_0 {gl : Nat} {gx : Nat → Int32} {d : Nat} {P : PL} {Q : PO} {mi : MI} {w : WS} {lv : LV} {i : Nat} {x1 : Int32} {x2 : Int32} (h : (vp_in x1 6) ∧ (Q (aI (b2 (¬ ((((mi 28 i x1.toNatClampNeg) >>> (x2 &&& 31)) &&& 1) = 0)))) (mi, RS w, lv))) : Wp gl gx d P 93 0 [aR 5 i, aI x1, aI x2] [] (mi, RS w, lv) Q := 
  wpT row_93 mt_93 [.aload_n 0, .getfield 31, .iload_n 1, .iaload] (by decide +kernel) [(6, [.iload_n 2, .ishr, .iconst 1, .iand, .ifCond .eq 7]), (17, [.iconst 0, .ireturn]), (13, [.iconst 1, .goto 4]), (18, [.ireturn])] (by decide +kernel) 48 (And.intro h.1 (And.intro (fun q19 => And.intro rfl (mv9 (fun v => Q (aI v) (mi, RS w, lv)) (show (b2 (¬ ((((mi 28 i x1.toNatClampNeg) >>> (x2 &&& 31)) &&& 1) = 0))) = 0 from b2n_t (show (((mi 28 i x1.toNatClampNeg) >>> (x2 &&& 31)) &&& 1) = 0 from q19)) h.2)) (fun q20 => And.intro rfl (mv9 (fun v => Q (aI v) (mi, RS w, lv)) (show (b2 (¬ ((((mi 28 i x1.toNatClampNeg) >>> (x2 &&& 31)) &&& 1) = 0))) = 1 from b2n_f (show ¬ ((((mi 28 i x1.toNatClampNeg) >>> (x2 &&& 31)) &&& 1) = 0) from q20)) h.2))))

theorem s_X6_isOpen {gl : Nat} {gx : Nat → Int32} {d : Nat} {P : PL} {Q : PO} {mi : MI} {w : WS} {lv : LV} {i : Nat} {x1 x2 : Int32} (hp : vp_in x1 6) (h : Q (aI (b2 (¬ (((mi 28 i (nt x1)) >>> (x2 &&& 31)) &&& 1) = 0))) (mi, RS w, lv)) : Wp gl gx d P 93 0 [aR 5 i, aI x1, aI x2] [] (mi, RS w, lv) Q := r_X6_isOpen_0 ⟨hp, h⟩
theorem r_X6_grown_5 {gl : Nat} {gx : Nat → Int32} {d : Nat} {P : PL} {Q : PO} {mi : MI} {w : WS} {lv : LV} {i : Nat} {x1 : Int32} {x2 : Int32} {x3 : Int32} {x4 : Int32} {v5 : AV} (h : ((25 ≤ x4) → Q (aI x3) (mi, RS w, lv)) ∧ (¬ (25 ≤ x4) → (¬ (((x3 ||| (f_X6_beside mi i x3)) &&& x2) = x3) → Wp gl gx (d + 2) P 99 5 [aR 5 i, aI x1, aI x2, aI ((x3 ||| (f_X6_beside mi i x3)) &&& x2), aI (x4 + 1), aI ((x3 ||| (f_X6_beside mi i x3)) &&& x2)] [] (mi, RS w, lv) Q) ∧ ((((x3 ||| (f_X6_beside mi i x3)) &&& x2) = x3) → Q (aI x3) (mi, RS w, lv)))) : Wp gl gx (d + 2) P 99 5 [aR 5 i, aI x1, aI x2, aI x3, aI x4, v5] [] (mi, RS w, lv) Q := 
  wpT row_99 mt_99 [.iload 4, .bipush 25, .if_icmp .ge 31] (by decide +kernel) [(40, [.iload_n 3, .ireturn]), (12, [.iload_n 3, .aload_n 0, .iload_n 3, .invokevirtual 63]), (18, [.ior, .iload_n 2, .iand, .istore 5, .iload 5, .iload_n 3, .if_icmp .ne 5]), (31, [.iload 5, .istore_n 3, .iinc 4 1, .goto (.negSucc 31)]), (29, [.iload_n 3, .ireturn])] (by decide +kernel) 64 (And.intro (fun q21 => (h.1 q21)) (fun q22 => And.intro ⟨Nat.le_of_ble_eq_true rfl, rfl, rfl⟩ (s_X6_beside (d := d) (And.intro (fun q23 => ((h.2 q22).1 q23)) (fun q24 => ((h.2 q22).2 q24))))))

theorem r_X6_grown_0 {gl : Nat} {gx : Nat → Int32} {d : Nat} {P : PL} {Q : PO} {mi : MI} {w : WS} {lv : LV} {i : Nat} {x1 : Int32} {x2 : Int32} (h : Wp gl gx (d + 2) P 99 5 [aR 5 i, aI x1, aI x2, aI x1, aI 0, aU] [] (mi, RS w, lv) Q) : Wp gl gx (d + 2) P 99 0 [aR 5 i, aI x1, aI x2, aU, aU, aU] [] (mi, RS w, lv) Q := 
  wpT row_99 mt_99 [.iload_n 1, .istore_n 3, .iconst 0, .istore 4] (by decide +kernel) [] (by decide +kernel) 28 (h)

def fGrown (mi : MI) (i : Nat) (among : Int32) : Nat → Int32 → Int32
  | 0, h => h
  | n + 1, h => if (h ||| f_X6_beside mi i h) &&& among = h then h else fGrown mi i among n ((h ||| f_X6_beside mi i h) &&& among)
theorem s_X6_grown {gl : Nat} {gx : Nat → Int32} {d : Nat} {P : PL} {Q : PO} {mi : MI} {w : WS} {lv : LV} {i : Nat} {x1 x2 : Int32} (h : Q (aI (fGrown mi i x2 25 x1)) (mi, RS w, lv)) : Wp gl gx (d + 2) P 99 0 [aR 5 i, aI x1, aI x2, aU, aU, aU] [] (mi, RS w, lv) Q := by
  refine r_X6_grown_0 ?_
  have key : ∀ (r k : Nat) (held : Int32) (v : AV), k + r = 25 → Q (aI (fGrown mi i x2 r held)) (mi, RS w, lv) → Wp gl gx (d + 2) P 99 5 [aR 5 i, aI x1, aI x2, aI held, aI (nI k), v] [] (mi, RS w, lv) Q := by
    intro r
    induction r with
    | zero =>
      intro k held v hk hq
      refine r_X6_grown_5 ⟨fun _ => hq, fun q => absurd (nI_le (a := 25) (b := k) (by omega) (by omega)) q⟩
    | succ r ih =>
      intro k held v hk hq
      unfold fGrown at hq
      refine r_X6_grown_5 ⟨fun q => absurd q (nI_ge (a := k) (b := 25) (by omega) (by omega)), fun _ => ⟨fun q => ?_, fun q => ?_⟩⟩
      · rw [if_neg q] at hq
        rw [nI_1]
        exact ih (k + 1) _ _ (by omega) hq
      · rw [if_pos q] at hq
        exact hq
  exact key 25 0 x1 aU rfl h
theorem r_X6_falling_0 {gl : Nat} {gx : Nat → Int32} {d : Nat} {P : PL} {Q : PO} {mi : MI} {w : WS} {lv : LV} {i : Nat} {x1 : Int32} (h : Q (aI (((mi 5 i 7) &&& (x1 ^^^ (-1))) &&& ((fGrown mi i ((mi 5 i 7) &&& (x1 ^^^ (-1))) 25 (((mi 5 i 7) &&& (x1 ^^^ (-1))) &&& (mi 5 i 10))) ^^^ (-1)))) (mi, RS w, lv)) : Wp gl gx (d + 3) P 98 0 [aR 5 i, aI x1, aU] [] (mi, RS w, lv) Q := 
  wpT row_98 mt_98 [.aload_n 0, .getfield 34, .iload_n 1, .iconst (.negSucc 0), .ixor, .iand, .istore_n 2, .iload_n 2, .aload_n 0, .iload_n 2, .aload_n 0, .getfield 43, .iand, .iload_n 2, .invokevirtual 59] (by decide +kernel) [(21, [.iconst (.negSucc 0), .ixor, .iand, .ireturn])] (by decide +kernel) 58 (And.intro ⟨Nat.le_of_ble_eq_true rfl, rfl, rfl⟩ (s_X6_grown (d := d) (h)))

def f_X6_falling (mi : MI) (i : Nat) (x1 : Int32) : Int32 := ((mi 5 i 7) &&& (x1 ^^^ (-1))) &&& ((fGrown mi i ((mi 5 i 7) &&& (x1 ^^^ (-1))) 25 (((mi 5 i 7) &&& (x1 ^^^ (-1))) &&& (mi 5 i 10))) ^^^ (-1))
theorem s_X6_falling {gl : Nat} {gx : Nat → Int32} {d : Nat} {P : PL} {Q : PO} {mi : MI} {w : WS} {lv : LV} {i : Nat} {x1 : Int32} (h : Q (aI (f_X6_falling mi i x1)) (mi, RS w, lv)) : Wp gl gx (d + 3) P 98 0 [aR 5 i, aI x1, aU] [] (mi, RS w, lv) Q := r_X6_falling_0 h

theorem r_X6_opened_0 {gl : Nat} {gx : Nat → Int32} {d : Nat} {P : PL} {Q : PO} {mi : MI} {w : WS} {lv : LV} {i : Nat} {x1 : Int32} (h : Q (aI (x1 ||| (f_X6_falling mi i x1))) (mi, RS w, lv)) : Wp gl gx (d + 4) P 100 0 [aR 5 i, aI x1] [] (mi, RS w, lv) Q := 
  wpT row_100 mt_100 [.iload_n 1, .aload_n 0, .iload_n 1, .invokevirtual 66] (by decide +kernel) [(6, [.ior, .ireturn])] (by decide +kernel) 32 (And.intro ⟨Nat.le_of_ble_eq_true rfl, rfl, rfl⟩ (s_X6_falling (d := d) (h)))

def f_X6_opened (mi : MI) (i : Nat) (x1 : Int32) : Int32 := x1 ||| (f_X6_falling mi i x1)
theorem s_X6_opened {gl : Nat} {gx : Nat → Int32} {d : Nat} {P : PL} {Q : PO} {mi : MI} {w : WS} {lv : LV} {i : Nat} {x1 : Int32} (h : Q (aI (f_X6_opened mi i x1)) (mi, RS w, lv)) : Wp gl gx (d + 4) P 100 0 [aR 5 i, aI x1] [] (mi, RS w, lv) Q := r_X6_opened_0 h
end
section
/-! METHODS AS FUNCTIONS (1) -/
theorem k_ifp {α : Type} {G c : Prop} {i : Decidable c} {a b r : α} (q : c) (h : @ite α c i a b = r) (k : a = r → G) : G := by rw [if_pos q] at h; exact k h
theorem k_ifn {α : Type} {G c : Prop} {i : Decidable c} {a b r : α} (q : ¬ c) (h : @ite α c i a b = r) (k : b = r → G) : G := by rw [if_neg q] at h; exact k h
def ck {α : Type} (c : Prop) [Decidable c] (a : Option α) : Option α := if c then a else none
theorem k_ck {α : Type} {G c : Prop} {i : Decidable c} {a : Option α} {r : α} (h : @ck α c i a = some r) (k : c → a = some r → G) : G := by
  unfold ck at h
  by_cases q : c
  · rw [if_pos q] at h; exact k q h
  · rw [if_neg q] at h; cases h
theorem o_none {α : Type} {p : Prop} {r : α} (h : (none : Option α) = some r) : p := by cases h
theorem o_bind {α β : Type} {p : Prop} {o : Option α} {f : α → Option β} {r : β} (h : o.bind f = some r) (k : ∀ v, o = some v → f v = some r → p) : p := by
  cases o with
  | none => cases h
  | some v => exact k v rfl h
def lt {α β : Type} (a : α) (f : α → β) : β := f a
theorem k_lt {α β : Type} {G : Prop} {a m : α} {f : α → β} {r : β} (h : lt a f = r) (e : m = a) (k : f m = r → G) : G := by subst e; exact k h
def onO {β : Type} (o : Option Nat) (a : β) (f : Nat → β) : β := match o with
  | none => a
  | some j => f j
theorem k_oN {β : Type} {G : Prop} {o : Option Nat} {a r : β} {f : Nat → β} (e : o = none) (h : onO o a f = r) (k : a = r → G) : G := by subst e; exact k h
theorem k_oS {β : Type} {G : Prop} {o : Option Nat} {j : Nat} {a r : β} {f : Nat → β} (e : o = some j) (h : onO o a f = r) (k : f j = r → G) : G := by subst e; exact k h
theorem o_rP {Q : PO} {v r : Int32} {M : MM} (hf : some v = some r) (h : Q (aI r) M) : Q (aI v) M := by cases hf; exact h
theorem o_rW {Q : PO} {v : Int32} {mi : MI} {w : WS} {lv : LV} {r : Int32 × MI × WS} (hf : some (v, mi, w) = some r) (h : Q (aI r.1) (r.2.1, RS r.2.2, lv)) : Q (aI v) (mi, RS w, lv) := by cases hf; exact h
theorem o_rV {Q : PO} {mi : MI} {w : WS} {lv : LV} {r : MI × WS} (hf : some (mi, w) = some r) (h : Q aU (r.1, RS r.2, lv)) : Q aU (mi, RS w, lv) := by cases hf; exact h
theorem o_rM {Q : PO} {v : Int32} {mi : MI} {R : MR} {lv : LV} {r : Int32 × MI} (hf : some (v, mi) = some r) (h : Q (aI r.1) (r.2, R, lv)) : Q (aI v) (mi, R, lv) := by cases hf; exact h
theorem o_rMV {Q : PO} {mi : MI} {R : MR} {lv : LV} {r : MI} (hf : some mi = some r) (h : Q aU (r, R, lv)) : Q aU (mi, R, lv) := by cases hf; exact h
theorem wp_rs {gl : Nat} {gx : Nat → Int32} {d : Nat} {P : PL} {y pc : Nat} {L S : List AV} {mi : MI} {R R' : MR} {lv : LV} {Q : PO} (e : R = R') (h : Wp gl gx d P y pc L S (mi, R', lv) Q) : Wp gl gx d P y pc L S (mi, R, lv) Q := e ▸ h
theorem nb_c (x : UInt32) : narrow .char (.int (x % 65536).toInt32) = .int (x % 65536).toInt32 := by
  have e : x % 65536 % 65536 = x % 65536 := UInt32.toNat_inj.mp (by simp [UInt32.toNat_mod])
  simp [narrow, e]
theorem o_rN {G : Prop} {r : Option Nat} (hf : some none = some r) (h : r = none → G) : G := by cases hf; exact h rfl
theorem o_rS {Q : PO} {k j : Nat} {M : MM} {r : Option Nat} (hf : some (some j) = some r) (h : ∀ j, r = some j → Q (aR k j) M) : Q (aR k j) M := by cases hf; exact h j rfl
theorem nb_01 {x : Int32} (h : x = 0 ∨ x = 1) : narrow .boolean (.int x) = .int x := by rcases h with h | h <;> subst h <;> rfl
theorem nb_ch {x : Int32} (h : (x.toUInt32 % 65536).toInt32 = x) : narrow .char (.int x) = .int x := by simp [narrow, h]
theorem sw_o {x a b c : Int32} (h : x < a ∨ b < x) (h1 : a ≤ c) (h2 : c ≤ b) : ¬ x = c := by
  intro e; subst e
  rcases h with h | h
  · exact Int32.lt_irrefl (Int32.lt_of_lt_of_le h h1)
  · exact Int32.lt_irrefl (Int32.lt_of_lt_of_le h h2)
theorem sw_n {x a b : Int32} (h : x = a) (h1 : ¬ a = b) : ¬ x = b := by subst h; exact h1
abbrev row_313 : MT := (⟨"java/lang/Integer", "bitCount", "(I)I"⟩, prog_14_method_49_code, 1, some .int, 0, lk_12)
set_option maxRecDepth 20000 in
theorem mt_313 : mt 313 = some row_313 := rfl
theorem r_J6_bitCount_0f7a4_48 {gl : Nat} {gx : Nat → Int32} {d : Nat} {P : PL} {Q : PO} {mi : MI} {w : WS} {lv : LV} {x0 : Int32} (h : Q (aI (x0 &&& 63)) (mi, RS w, lv)) : Wp gl gx d P 313 48 [aI x0] [] (mi, RS w, lv) Q := 
  wpT row_313 mt_313 [.iload_n 0, .bipush 63, .iand, .ireturn] (by decide +kernel) [] (by decide +kernel) 28 (h)

theorem r_J6_bitCount_0f7a4_41 {gl : Nat} {gx : Nat → Int32} {d : Nat} {P : PL} {Q : PO} {mi : MI} {w : WS} {lv : LV} {x0 : Int32} (h : Wp gl gx d P 313 48 [aI (x0 + (ushr x0 16))] [] (mi, RS w, lv) Q) : Wp gl gx d P 313 41 [aI x0] [] (mi, RS w, lv) Q := 
  wpT row_313 mt_313 [.iload_n 0, .iload_n 0, .bipush 16, .iushr, .iadd, .istore_n 0] (by decide +kernel) [] (by decide +kernel) 32 (h)

theorem r_J6_bitCount_0f7a4_34 {gl : Nat} {gx : Nat → Int32} {d : Nat} {P : PL} {Q : PO} {mi : MI} {w : WS} {lv : LV} {x0 : Int32} (h : Wp gl gx d P 313 41 [aI (x0 + (ushr x0 8))] [] (mi, RS w, lv) Q) : Wp gl gx d P 313 34 [aI x0] [] (mi, RS w, lv) Q := 
  wpT row_313 mt_313 [.iload_n 0, .iload_n 0, .bipush 8, .iushr, .iadd, .istore_n 0] (by decide +kernel) [] (by decide +kernel) 32 (h)

theorem r_J6_bitCount_0f7a4_24 {gl : Nat} {gx : Nat → Int32} {d : Nat} {P : PL} {Q : PO} {mi : MI} {w : WS} {lv : LV} {x0 : Int32} (h : Wp gl gx d P 313 34 [aI ((x0 + (ushr x0 4)) &&& (252645135))] [] (mi, RS w, lv) Q) : Wp gl gx d P 313 24 [aI x0] [] (mi, RS w, lv) Q := 
  wpT row_313 mt_313 [.iload_n 0, .iload_n 0, .iconst 4, .iushr, .iadd, .ldc_w 267, .iand, .istore_n 0] (by decide +kernel) [] (by decide +kernel) 36 (h)

theorem r_J6_bitCount_0f7a4_10 {gl : Nat} {gx : Nat → Int32} {d : Nat} {P : PL} {Q : PO} {mi : MI} {w : WS} {lv : LV} {x0 : Int32} (h : Wp gl gx d P 313 24 [aI ((x0 &&& (858993459)) + ((ushr x0 2) &&& (858993459)))] [] (mi, RS w, lv) Q) : Wp gl gx d P 313 10 [aI x0] [] (mi, RS w, lv) Q := 
  wpT row_313 mt_313 [.iload_n 0, .ldc_w 266, .iand, .iload_n 0, .iconst 2, .iushr, .ldc_w 266, .iand, .iadd, .istore_n 0] (by decide +kernel) [] (by decide +kernel) 40 (h)

theorem r_J6_bitCount_0f7a4_0 {gl : Nat} {gx : Nat → Int32} {d : Nat} {P : PL} {Q : PO} {mi : MI} {w : WS} {lv : LV} {x0 : Int32} (h : Wp gl gx d P 313 10 [aI (x0 - ((ushr x0 1) &&& (1431655765)))] [] (mi, RS w, lv) Q) : Wp gl gx d P 313 0 [aI x0] [] (mi, RS w, lv) Q := 
  wpT row_313 mt_313 [.iload_n 0, .iload_n 0, .iconst 1, .iushr, .ldc_w 265, .iand, .isub, .istore_n 0] (by decide +kernel) [] (by decide +kernel) 36 (h)

def pc1 (x : Int32) : Int32 := x - ((ushr x 1) &&& 1431655765)
def pc2 (x : Int32) : Int32 := (x &&& 858993459) + ((ushr x 2) &&& 858993459)
def pc3 (x : Int32) : Int32 := (x + (ushr x 4)) &&& 252645135
def pc4 (x : Int32) : Int32 := x + (ushr x 8)
def pc5 (x : Int32) : Int32 := x + (ushr x 16)
/-- how many bits a set has -/
def pop32 (x : Int32) : Int32 := pc5 (pc4 (pc3 (pc2 (pc1 x)))) &&& 63
theorem s_J6_bitCount_0f7a4 {gl : Nat} {gx : Nat → Int32} {d : Nat} {P : PL} {Q : PO} {mi : MI} {w : WS} {lv : LV} {x0 : Int32} (h : Q (aI (pop32 x0)) (mi, RS w, lv)) : Wp gl gx d P 313 0 [aI x0] [] (mi, RS w, lv) Q :=
  r_J6_bitCount_0f7a4_0 (r_J6_bitCount_0f7a4_10 (r_J6_bitCount_0f7a4_24 (r_J6_bitCount_0f7a4_34 (r_J6_bitCount_0f7a4_41 (r_J6_bitCount_0f7a4_48 h)))))
abbrev row_315 : MT := (⟨"java/lang/String", "coder", "()B"⟩, prog_16_method_152_code, 1, some .byte, 1, lk_13)
set_option maxRecDepth 20000 in
theorem mt_315 : mt 315 = some row_315 := rfl
theorem r_J0_coder_7d493_0 {gl : Nat} {gx : Nat → Int32} {d : Nat} {P : PL} {Q : PO} {mi : MI} {w : WS} {lv : LV} {i : Nat} (h : Q (aI (b2 ((1 : Int32) = (0 : Int32)))) (mi, RS w, lv)) : Wp gl gx d P 315 0 [aR 16 i] [] (mi, RS w, lv) Q := 
  wpT row_315 mt_315 [.getstatic 38, .ifCond .eq 10] (by decide +kernel) [(13, [.iconst 1, .ireturn]), (6, [.aload_n 0, .getfield 15, .goto 4]), (14, [.ireturn])] (by decide +kernel) 36 (And.intro (fun q1 => And.intro rfl (mv9 (fun v => Q (aI v) (mi, RS w, lv)) (show (b2 ((1 : Int32) = (0 : Int32))) = 1 from b2_t (show (1 : Int32) = (0 : Int32) from q1)) h)) (fun q2 => And.intro rfl (mv9 (fun v => Q (aI v) (mi, RS w, lv)) (show (b2 ((1 : Int32) = (0 : Int32))) = 0 from b2_f (show ¬ ((1 : Int32) = (0 : Int32)) from q2)) h)))

abbrev f_J0_coder_7d493 (mi : MI) (i : Nat) : Int32 := b2 ((1 : Int32) = (0 : Int32))
theorem s_J0_coder_7d493 {gl : Nat} {gx : Nat → Int32} {d : Nat} {P : PL} {Q : PO} {mi : MI} {w : WS} {lv : LV} {i : Nat} (h : Q (aI (f_J0_coder_7d493 mi i)) (mi, RS w, lv)) : Wp gl gx d P 315 0 [aR 16 i] [] (mi, RS w, lv) Q := r_J0_coder_7d493_0 h

abbrev row_316 : MT := (⟨"java/lang/String", "isLatin1", "()Z"⟩, prog_16_method_154_code, 1, some .boolean, 1, lk_13)
set_option maxRecDepth 20000 in
theorem mt_316 : mt 316 = some row_316 := rfl
theorem r_J0_isLatin1_aae02_0 {gl : Nat} {gx : Nat → Int32} {d : Nat} {P : PL} {Q : PO} {mi : MI} {w : WS} {lv : LV} {i : Nat} (h : Q (aI (b2 (¬ ((1 : Int32) = (0 : Int32)) ∧ ((0 : Int32) = (0 : Int32))))) (mi, RS w, lv)) : Wp gl gx d P 316 0 [aR 16 i] [] (mi, RS w, lv) Q := 
  wpT row_316 mt_316 [.getstatic 38, .ifCond .eq 14] (by decide +kernel) [(17, [.iconst 0, .ireturn]), (6, [.aload_n 0, .getfield 15, .ifCond .ne 7]), (13, [.iconst 1, .goto 4]), (18, [.ireturn])] (by decide +kernel) 40 (And.intro (fun q3 => And.intro rfl (mv9 (fun v => Q (aI v) (mi, RS w, lv)) (show (b2 (¬ ((1 : Int32) = (0 : Int32)) ∧ ((0 : Int32) = (0 : Int32)))) = 0 from b2na_t (show (1 : Int32) = (0 : Int32) from q3)) h)) (fun q4 => And.intro (fun q5 => And.intro rfl (mv9 (fun v => Q (aI v) (mi, RS w, lv)) (show (b2 ((0 : Int32) = (0 : Int32))) = 0 from b2_f (show ¬ ((0 : Int32) = (0 : Int32)) from q5)) (mv9 (fun v => Q (aI v) (mi, RS w, lv)) (show (b2 (¬ ((1 : Int32) = (0 : Int32)) ∧ ((0 : Int32) = (0 : Int32)))) = (b2 ((0 : Int32) = (0 : Int32))) from b2na_f (show ¬ ((1 : Int32) = (0 : Int32)) from q4)) h))) (fun q6 => And.intro rfl (mv9 (fun v => Q (aI v) (mi, RS w, lv)) (show (b2 ((0 : Int32) = (0 : Int32))) = 1 from b2_t (show (0 : Int32) = (0 : Int32) from q6)) (mv9 (fun v => Q (aI v) (mi, RS w, lv)) (show (b2 (¬ ((1 : Int32) = (0 : Int32)) ∧ ((0 : Int32) = (0 : Int32)))) = (b2 ((0 : Int32) = (0 : Int32))) from b2na_f (show ¬ ((1 : Int32) = (0 : Int32)) from q4)) h)))))

abbrev f_J0_isLatin1_aae02 (mi : MI) (i : Nat) : Int32 := b2 (¬ ((1 : Int32) = (0 : Int32)) ∧ ((0 : Int32) = (0 : Int32)))
theorem s_J0_isLatin1_aae02 {gl : Nat} {gx : Nat → Int32} {d : Nat} {P : PL} {Q : PO} {mi : MI} {w : WS} {lv : LV} {i : Nat} (h : Q (aI (f_J0_isLatin1_aae02 mi i)) (mi, RS w, lv)) : Wp gl gx d P 316 0 [aR 16 i] [] (mi, RS w, lv) Q := r_J0_isLatin1_aae02_0 h

abbrev row_318 : MT := (⟨"java/lang/StringLatin1", "charAt", "([BI)C"⟩, prog_17_method_2_code, 2, some .char, 0, lk_14)
set_option maxRecDepth 20000 in
theorem mt_318 : mt 318 = some row_318 := rfl
theorem r_J1_charAt_3b067_0 {gl : Nat} {gx : Nat → Int32} {d : Nat} {P : PL} {Q : PO} {mi : MI} {w : WS} {lv : LV} {i0 : Nat} {x1 : Int32} (h : (¬ x1 < 0 ∧ x1 < (Int32.ofNat (stx.getD i0 []).length)) ∧ ((vp_in x1 (stx.getD i0 []).length) ∧ (Q (aI (((((stx.getD i0 []).getD x1.toNatClampNeg 0) &&& 255).toUInt32 % 65536).toInt32)) (mi, RS w, lv)))) : Wp gl gx (d + 2) P 318 0 [aR 17 i0, aI x1] [] (mi, RS w, lv) Q := 
  wpT row_318 mt_318 [.iload_n 1, .aload_n 0, .arraylength, .invokestatic 9] (by decide +kernel) [(6, [.aload_n 0, .iload_n 1, .baload]), (9, [.sipush 255, .iand, .i2c, .ireturn])] (by decide +kernel) 42 (And.intro ⟨Nat.le_of_ble_eq_true rfl, h.1⟩ (And.intro h.2.1 (And.intro (nb_c _) h.2.2)))

def F_J1_charAt_3b067 (mi : MI) (w : WS) (i0 : Nat) (x1 : Int32) : Option Int32 := ck (¬ x1 < 0 ∧ x1 < (Int32.ofNat (stx.getD i0 []).length)) (ck (¬ (x1 < 0 ∨ (stx.getD i0 []).length ≤ x1.toNatClampNeg)) (some (((((stx.getD i0 []).getD x1.toNatClampNeg 0) &&& 255).toUInt32 % 65536).toInt32)))

theorem s_J1_charAt_3b067 {gl : Nat} {gx : Nat → Int32} {d : Nat} {P : PL} {Q : PO} {mi : MI} {w : WS} {lv : LV} {i0 : Nat} {x1 : Int32} {r : Int32} (hf : F_J1_charAt_3b067 mi w i0 x1 = some r) (h0 : Q (aI r) (mi, RS w, lv)) : Wp gl gx (d + 2) P 318 0 [aR 17 i0, aI x1] [] (mi, RS w, lv) Q := r_J1_charAt_3b067_0 (k_ck hf (fun q8 q7 => ⟨q8, k_ck q7 (fun q10 q9 => ⟨q10, o_rP q9 h0⟩)⟩))

abbrev row_314 : MT := (⟨"java/lang/String", "length", "()I"⟩, prog_16_method_54_code, 1, some .int, 1, lk_13)
set_option maxRecDepth 20000 in
theorem mt_314 : mt 314 = some row_314 := rfl
theorem r_J0_length_8abf5_0 {gl : Nat} {gx : Nat → Int32} {d : Nat} {P : PL} {Q : PO} {mi : MI} {w : WS} {lv : LV} {i : Nat} (h : Q (aI ((Int32.ofNat (stx.getD i []).length) >>> ((b2 ((1 : Int32) = (0 : Int32))) &&& 31))) (mi, RS w, lv)) : Wp gl gx (d + 1) P 314 0 [aR 16 i] [] (mi, RS w, lv) Q := 
  wpT row_314 mt_314 [.aload_n 0, .getfield 9, .arraylength, .aload_n 0, .invokevirtual 335] (by decide +kernel) [(9, [.ishr, .ireturn])] (by decide +kernel) 34 (And.intro ⟨Nat.le_of_ble_eq_true rfl, rfl, rfl⟩ (s_J0_coder_7d493 (d := d) (h)))

def f_J0_length_8abf5 (mi : MI) (i : Nat) : Int32 := (Int32.ofNat (stx.getD i []).length) >>> ((b2 ((1 : Int32) = (0 : Int32))) &&& 31)
theorem s_J0_length_8abf5 {gl : Nat} {gx : Nat → Int32} {d : Nat} {P : PL} {Q : PO} {mi : MI} {w : WS} {lv : LV} {i : Nat} (h : Q (aI (f_J0_length_8abf5 mi i)) (mi, RS w, lv)) : Wp gl gx (d + 1) P 314 0 [aR 16 i] [] (mi, RS w, lv) Q := r_J0_length_8abf5_0 h

abbrev row_317 : MT := (⟨"java/lang/String", "charAt", "(I)C"⟩, prog_16_method_56_code, 2, some .char, 1, lk_13)
set_option maxRecDepth 20000 in
theorem mt_317 : mt 317 = some row_317 := rfl
theorem r_J0_charAt_5068e_0 {gl : Nat} {gx : Nat → Int32} {d : Nat} {P : PL} {Q : PO} {mi : MI} {w : WS} {lv : LV} {i : Nat} {x1 : Int32} (h : (∃ c1 : Int32, F_J1_charAt_3b067 mi w i x1 = some c1 ∧ (narrow .char (.int c1) = .int c1) ∧ Q (aI c1) (mi, RS w, lv))) : Wp gl gx (d + 3) P 317 0 [aR 16 i, aI x1] [] (mi, RS w, lv) Q := 
  wpT row_317 mt_317 [.aload_n 0, .invokevirtual 492] (by decide +kernel) [(4, [.ifCond .eq 12]), (7, [.aload_n 0, .getfield 9, .iload_n 1, .invokestatic 495]), (15, [.ireturn])] (by decide +kernel) 36 (And.intro ⟨Nat.le_of_ble_eq_true rfl, rfl, rfl⟩ (s_J0_isLatin1_aae02 (d := d + 2) (And.intro (fun q11 => absurd (show ¬ ((1 : Int32) = (0 : Int32)) ∧ ((0 : Int32) = (0 : Int32)) from by decide) (b2_0 q11)) (fun q12 => Exists.elim h (fun c1 zc1 => And.intro ⟨Nat.le_of_ble_eq_true rfl, rfl, rfl⟩ (s_J1_charAt_3b067 (d := d) zc1.1 (zc1.2)))))))

def F_J0_charAt_5068e (mi : MI) (w : WS) (i : Nat) (x1 : Int32) : Option Int32 := (F_J1_charAt_3b067 mi w i x1).bind fun c1 => ck ((c1.toUInt32 % 65536).toInt32 = c1) (some c1)

theorem s_J0_charAt_5068e {gl : Nat} {gx : Nat → Int32} {d : Nat} {P : PL} {Q : PO} {mi : MI} {w : WS} {lv : LV} {i : Nat} {x1 : Int32} {r : Int32} (hf : F_J0_charAt_5068e mi w i x1 = some r) (h0 : Q (aI r) (mi, RS w, lv)) : Wp gl gx (d + 3) P 317 0 [aR 16 i, aI x1] [] (mi, RS w, lv) Q := r_J0_charAt_5068e_0 (o_bind hf (fun c1 qc1 pc1 => ⟨c1, qc1, k_ck pc1 (fun q14 q13 => ⟨nb_ch q14, o_rP q13 h0⟩)⟩))
end
section
/-! METHODS AS FUNCTIONS (2) -/
abbrev row_1 : MT := (⟨"StencilHouse$Day", "add", "(IIII)V"⟩, prog_2_method_2_code, 6, none, 1, lk_0)
set_option maxRecDepth 20000 in
theorem mt_1 : mt 1 = some row_1 := rfl
theorem r_X0_add_0 {gl : Nat} {gx : Nat → Int32} {d : Nat} {P : PL} {Q : PO} {mi : MI} {w : WS} {lv : LV} {i : Nat} {x1 : Int32} {x2 : Int32} {x3 : Int32} {x4 : Int32} (h : (((mi 0 i 0) < 40) → (vp_in ((mi 0 i 0) * 4) 160) ∧ ((∀ m2 : MI, m2 = u3 mi 29 i (((mi 0 i 0) * 4).toNatClampNeg) x1 → (vp_in (((mi 0 i 0) * 4) + 1) 160) ∧ ((∀ m3 : MI, m3 = u3 m2 29 i ((((mi 0 i 0) * 4) + 1).toNatClampNeg) x2 → (vp_in (((mi 0 i 0) * 4) + 2) 160) ∧ ((∀ m4 : MI, m4 = u3 m3 29 i ((((mi 0 i 0) * 4) + 2).toNatClampNeg) x3 → (vp_in (((mi 0 i 0) * 4) + 3) 160) ∧ ((∀ m5 : MI, m5 = u3 m4 29 i ((((mi 0 i 0) * 4) + 3).toNatClampNeg) x4 → Q aU (u3 m5 0 i 0 ((m5 0 i 0) + 1), RS w, lv)))))))))) ∧ (¬ ((mi 0 i 0) < 40) → Q aU (mi, RS w, lv))) : Wp gl gx d P 1 0 [aR 0 i, aI x1, aI x2, aI x3, aI x4, aU] [] (mi, RS w, lv) Q := 
  wpT row_1 mt_1 [.aload_n 0, .getfield 9, .bipush 40, .if_icmp .lt 4] (by decide +kernel) [(10, [.aload_n 0, .getfield 9, .iconst 4, .imul, .istore 5, .aload_n 0, .getfield 15, .iload 5, .iload_n 1, .iastore]), (26, [.aload_n 0, .getfield 15, .iload 5, .iconst 1, .iadd, .iload_n 2, .iastore]), (36, [.aload_n 0, .getfield 15, .iload 5, .iconst 2, .iadd, .iload_n 3, .iastore]), (46, [.aload_n 0, .getfield 15, .iload 5, .iconst 3, .iadd, .iload 4, .iastore]), (57, [.aload_n 0, .dup, .getfield 9, .iconst 1, .iadd, .putfield 9, .return_]), (9, [.return_])] (by decide +kernel) 106 (And.intro (fun q15 => And.intro (h.1 q15).1 (And.intro ((h.1 q15).2 _ rfl).1 (And.intro (((h.1 q15).2 _ rfl).2 _ rfl).1 (And.intro ((((h.1 q15).2 _ rfl).2 _ rfl).2 _ rfl).1 ((((((h.1 q15).2 _ rfl).2 _ rfl).2 _ rfl).2 _ rfl)))))) (fun q16 => (h.2 q16)))

def F_X0_add (mi : MI) (w : WS) (i : Nat) (x1 : Int32) (x2 : Int32) (x3 : Int32) (x4 : Int32) : Option MI := if (mi 0 i 0) < 40 then ck (¬ (((mi 0 i 0) * 4) < 0 ∨ 160 ≤ ((mi 0 i 0) * 4).toNatClampNeg)) (lt (u3 mi 29 i (((mi 0 i 0) * 4).toNatClampNeg) x1) fun m2 => ck (¬ ((((mi 0 i 0) * 4) + 1) < 0 ∨ 160 ≤ (((mi 0 i 0) * 4) + 1).toNatClampNeg)) (lt (u3 m2 29 i ((((mi 0 i 0) * 4) + 1).toNatClampNeg) x2) fun m3 => ck (¬ ((((mi 0 i 0) * 4) + 2) < 0 ∨ 160 ≤ (((mi 0 i 0) * 4) + 2).toNatClampNeg)) (lt (u3 m3 29 i ((((mi 0 i 0) * 4) + 2).toNatClampNeg) x3) fun m4 => ck (¬ ((((mi 0 i 0) * 4) + 3) < 0 ∨ 160 ≤ (((mi 0 i 0) * 4) + 3).toNatClampNeg)) (lt (u3 m4 29 i ((((mi 0 i 0) * 4) + 3).toNatClampNeg) x4) fun m5 => some (u3 m5 0 i 0 ((m5 0 i 0) + 1)))))) else some mi

theorem s_X0_add {gl : Nat} {gx : Nat → Int32} {d : Nat} {P : PL} {Q : PO} {mi : MI} {w : WS} {lv : LV} {i : Nat} {x1 : Int32} {x2 : Int32} {x3 : Int32} {x4 : Int32} {r : MI} (hf : F_X0_add mi w i x1 x2 x3 x4 = some r) (h0 : Q aU (r, RS w, lv)) : Wp gl gx d P 1 0 [aR 0 i, aI x1, aI x2, aI x3, aI x4, aU] [] (mi, RS w, lv) Q := r_X0_add_0 (⟨fun q17 => k_ifp q17 hf (fun q19 => k_ck q19 (fun q21 q20 => ⟨q21, fun m2 hm2 => k_lt q20 hm2 (fun q22 => k_ck q22 (fun q24 q23 => ⟨q24, fun m3 hm3 => k_lt q23 hm3 (fun q25 => k_ck q25 (fun q27 q26 => ⟨q27, fun m4 hm4 => k_lt q26 hm4 (fun q28 => k_ck q28 (fun q30 q29 => ⟨q30, fun m5 hm5 => k_lt q29 hm5 (fun q31 => o_rMV q31 h0)⟩))⟩))⟩))⟩)), fun q18 => k_ifn q18 hf (fun q19 => o_rMV q19 h0)⟩)

abbrev row_2 : MT := (⟨"StencilHouse$Day", "part", "(II)I"⟩, prog_2_method_3_code, 3, some .int, 1, lk_0)
set_option maxRecDepth 20000 in
theorem mt_2 : mt 2 = some row_2 := rfl
theorem r_X0_part_0 {gl : Nat} {gx : Nat → Int32} {d : Nat} {P : PL} {Q : PO} {mi : MI} {w : WS} {lv : LV} {i : Nat} {x1 : Int32} {x2 : Int32} (h : (vp_in ((x1 * 4) + x2) 160) ∧ (Q (aI (mi 29 i (((x1 * 4) + x2).toNatClampNeg))) (mi, RS w, lv))) : Wp gl gx d P 2 0 [aR 0 i, aI x1, aI x2] [] (mi, RS w, lv) Q := 
  wpT row_2 mt_2 [.aload_n 0, .getfield 15, .iload_n 1, .iconst 4, .imul, .iload_n 2, .iadd, .iaload] (by decide +kernel) [(10, [.ireturn])] (by decide +kernel) 38 (And.intro h.1 (h.2))

def F_X0_part (mi : MI) (w : WS) (i : Nat) (x1 : Int32) (x2 : Int32) : Option Int32 := ck (¬ (((x1 * 4) + x2) < 0 ∨ 160 ≤ ((x1 * 4) + x2).toNatClampNeg)) (some (mi 29 i (((x1 * 4) + x2).toNatClampNeg)))

theorem s_X0_part {gl : Nat} {gx : Nat → Int32} {d : Nat} {P : PL} {Q : PO} {mi : MI} {w : WS} {lv : LV} {i : Nat} {x1 : Int32} {x2 : Int32} {r : Int32} (hf : F_X0_part mi w i x1 x2 = some r) (h0 : Q (aI r) (mi, RS w, lv)) : Wp gl gx d P 2 0 [aR 0 i, aI x1, aI x2] [] (mi, RS w, lv) Q := r_X0_part_0 (k_ck hf (fun q33 q32 => ⟨q33, o_rP q32 h0⟩))

abbrev row_3 : MT := (⟨"StencilHouse$Day", "copyFrom", "(LStencilHouse$Day;)V"⟩, prog_2_method_4_code, 2, none, 1, lk_0)
set_option maxRecDepth 20000 in
theorem mt_3 : mt 3 = some row_3 := rfl
theorem r_X0_copyFrom_0 {gl : Nat} {gx : Nat → Int32} {d : Nat} {P : PL} {Q : PO} {mi : MI} {w : WS} {lv : LV} {i : Nat} {i1 : Nat} (h : (∀ m6 : MI, m6 = u2 (u3 mi 0 i 0 (mi 0 i1 0)) 29 i (va_cpy ((u3 mi 0 i 0 (mi 0 i1 0)) 29 i1) ((u3 mi 0 i 0 (mi 0 i1 0)) 29 i) 0 0 160) → Q aU (m6, RS w, lv))) : Wp gl gx (d + 1) P 3 0 [aR 0 i, aR 0 i1] [] (mi, RS w, lv) Q := 
  wpT row_3 mt_3 [.aload_n 0, .aload_n 1, .getfield 9, .putfield 9, .aload_n 1, .getfield 15, .iconst 0, .aload_n 0, .getfield 15, .iconst 0, .aload_n 0, .getfield 15, .arraylength, .invokestatic 19] (by decide +kernel) [(26, [.return_])] (by decide +kernel) 50 (And.intro ⟨Nat.le_of_ble_eq_true rfl, by decide, by decide, by decide, by decide, by decide⟩ ((h _ rfl)))

def F_X0_copyFrom (mi : MI) (w : WS) (i : Nat) (i1 : Nat) : Option MI := lt (u2 (u3 mi 0 i 0 (mi 0 i1 0)) 29 i (va_cpy ((u3 mi 0 i 0 (mi 0 i1 0)) 29 i1) ((u3 mi 0 i 0 (mi 0 i1 0)) 29 i) 0 0 160)) fun m6 => some m6

theorem s_X0_copyFrom {gl : Nat} {gx : Nat → Int32} {d : Nat} {P : PL} {Q : PO} {mi : MI} {w : WS} {lv : LV} {i : Nat} {i1 : Nat} {r : MI} (hf : F_X0_copyFrom mi w i i1 = some r) (h0 : Q aU (r, RS w, lv)) : Wp gl gx (d + 1) P 3 0 [aR 0 i, aR 0 i1] [] (mi, RS w, lv) Q := r_X0_copyFrom_0 (fun m6 hm6 => k_lt hf hm6 (fun q34 => o_rMV q34 h0))

abbrev row_62 : MT := (⟨"StencilHouse$Picture", "clear", "()V"⟩, prog_6_method_2_code, 2, none, 1, lk_4)
set_option maxRecDepth 20000 in
theorem mt_62 : mt 62 = some row_62 := rfl
theorem r_X4_clear_2 {gl : Nat} {gx : Nat → Int32} {d : Nat} {P : PL} {Q : PO} {mi : MI} {w : WS} {lv : LV} {i : Nat} {x1 : Int32} (h : ((25 ≤ x1) → Q aU (mi, RS w, lv)) ∧ (¬ (25 ≤ x1) → (vp_in x1 25) ∧ ((∀ m7 : MI, m7 = u3 mi 30 i x1.toNatClampNeg 0 → Wp gl gx d P 62 2 [aR 3 i, aI (x1 + 1)] [] (m7, RS w, lv) Q)))) : Wp gl gx d P 62 2 [aR 3 i, aI x1] [] (mi, RS w, lv) Q := 
  wpT row_62 mt_62 [.iload_n 1, .aload_n 0, .getfield 9, .arraylength, .if_icmp .ge 16] (by decide +kernel) [(24, [.return_]), (11, [.aload_n 0, .getfield 9, .iload_n 1, .iconst 0, .iastore]), (18, [.iinc 1 1, .goto (.negSucc 18)])] (by decide +kernel) 46 (And.intro (fun q35 => (h.1 q35)) (fun q36 => And.intro (h.2 q36).1 (((h.2 q36).2 _ rfl))))

theorem r_X4_clear_0 {gl : Nat} {gx : Nat → Int32} {d : Nat} {P : PL} {Q : PO} {mi : MI} {w : WS} {lv : LV} {i : Nat} (h : Wp gl gx d P 62 2 [aR 3 i, aI 0] [] (mi, RS w, lv) Q) : Wp gl gx d P 62 0 [aR 3 i, aU] [] (mi, RS w, lv) Q := 
  wpT row_62 mt_62 [.iconst 0, .istore_n 1] (by decide +kernel) [] (by decide +kernel) 24 (h)

def L_X4_clear_2 (w : WS) : Nat → MI → Nat → Int32 → Option MI
  | 0, _, _, _ => none
  | n + 1, mi, i, x1 => if 25 ≤ x1 then some mi else ck (¬ (x1 < 0 ∨ 25 ≤ x1.toNatClampNeg)) (lt (u3 mi 30 i x1.toNatClampNeg 0) fun m7 => L_X4_clear_2 w n m7 i (x1 + 1))

theorem l_X4_clear_2 {gl : Nat} {gx : Nat → Int32} {d : Nat} {P : PL} {Q : PO} {lv : LV} {w : WS} (n : Nat) : ∀ {mi : MI} {i : Nat} {x1 : Int32} {r : MI}, L_X4_clear_2 w n mi i x1 = some r → (Q aU (r, RS w, lv)) → Wp gl gx d P 62 2 [aR 3 i, aI x1] [] (mi, RS w, lv) Q := by
  induction n with
  | zero => intro mi i x1 r hf h0; exact o_none hf
  | succ n ih => intro mi i x1 r hf h0; exact r_X4_clear_2 (⟨fun q37 => k_ifp q37 hf (fun q39 => o_rMV q39 h0), fun q38 => k_ifn q38 hf (fun q39 => k_ck q39 (fun q41 q40 => ⟨q41, fun m7 hm7 => k_lt q40 hm7 (fun q42 => ih q42 h0)⟩))⟩)

def F_X4_clear (mi : MI) (w : WS) (i : Nat) : Option MI := L_X4_clear_2 w 1000000 mi i 0

theorem s_X4_clear {gl : Nat} {gx : Nat → Int32} {d : Nat} {P : PL} {Q : PO} {mi : MI} {w : WS} {lv : LV} {i : Nat} {r : MI} (hf : F_X4_clear mi w i = some r) (h0 : Q aU (r, RS w, lv)) : Wp gl gx d P 62 0 [aR 3 i, aU] [] (mi, RS w, lv) Q := r_X4_clear_0 (l_X4_clear_2 1000000 hf h0)

abbrev row_63 : MT := (⟨"StencilHouse$Picture", "copyFrom", "(LStencilHouse$Picture;)V"⟩, prog_6_method_3_code, 2, none, 1, lk_4)
set_option maxRecDepth 20000 in
theorem mt_63 : mt 63 = some row_63 := rfl
theorem r_X4_copyFrom_0 {gl : Nat} {gx : Nat → Int32} {d : Nat} {P : PL} {Q : PO} {mi : MI} {w : WS} {lv : LV} {i : Nat} {i1 : Nat} (h : (∀ m8 : MI, m8 = u2 mi 30 i (va_cpy (mi 30 i1) (mi 30 i) 0 0 25) → Q aU (m8, RS w, lv))) : Wp gl gx (d + 1) P 63 0 [aR 3 i, aR 3 i1] [] (mi, RS w, lv) Q := 
  wpT row_63 mt_63 [.aload_n 1, .getfield 9, .iconst 0, .aload_n 0, .getfield 9, .iconst 0, .aload_n 0, .getfield 9, .arraylength, .invokestatic 15] (by decide +kernel) [(18, [.return_])] (by decide +kernel) 42 (And.intro ⟨Nat.le_of_ble_eq_true rfl, by decide, by decide, by decide, by decide, by decide⟩ ((h _ rfl)))

def F_X4_copyFrom (mi : MI) (w : WS) (i : Nat) (i1 : Nat) : Option MI := lt (u2 mi 30 i (va_cpy (mi 30 i1) (mi 30 i) 0 0 25)) fun m8 => some m8

theorem s_X4_copyFrom {gl : Nat} {gx : Nat → Int32} {d : Nat} {P : PL} {Q : PO} {mi : MI} {w : WS} {lv : LV} {i : Nat} {i1 : Nat} {r : MI} (hf : F_X4_copyFrom mi w i i1 = some r) (h0 : Q aU (r, RS w, lv)) : Wp gl gx (d + 1) P 63 0 [aR 3 i, aR 3 i1] [] (mi, RS w, lv) Q := r_X4_copyFrom_0 (fun m8 hm8 => k_lt hf hm8 (fun q43 => o_rMV q43 h0))

abbrev row_64 : MT := (⟨"StencilHouse$Picture", "colourAt", "(II)I"⟩, prog_6_method_4_code, 3, some .int, 1, lk_4)
set_option maxRecDepth 20000 in
theorem mt_64 : mt 64 = some row_64 := rfl
theorem r_X4_colourAt_0 {gl : Nat} {gx : Nat → Int32} {d : Nat} {P : PL} {Q : PO} {mi : MI} {w : WS} {lv : LV} {i : Nat} {x1 : Int32} {x2 : Int32} (h : (vp_in ((x2 * 5) + x1) 25) ∧ (Q (aI (mi 30 i (((x2 * 5) + x1).toNatClampNeg))) (mi, RS w, lv))) : Wp gl gx d P 64 0 [aR 3 i, aI x1, aI x2] [] (mi, RS w, lv) Q := 
  wpT row_64 mt_64 [.aload_n 0, .getfield 9, .iload_n 2, .iconst 5, .imul, .iload_n 1, .iadd, .iaload] (by decide +kernel) [(10, [.ireturn])] (by decide +kernel) 38 (And.intro h.1 (h.2))

def F_X4_colourAt (mi : MI) (w : WS) (i : Nat) (x1 : Int32) (x2 : Int32) : Option Int32 := ck (¬ (((x2 * 5) + x1) < 0 ∨ 25 ≤ ((x2 * 5) + x1).toNatClampNeg)) (some (mi 30 i (((x2 * 5) + x1).toNatClampNeg)))

theorem s_X4_colourAt {gl : Nat} {gx : Nat → Int32} {d : Nat} {P : PL} {Q : PO} {mi : MI} {w : WS} {lv : LV} {i : Nat} {x1 : Int32} {x2 : Int32} {r : Int32} (hf : F_X4_colourAt mi w i x1 x2 = some r) (h0 : Q (aI r) (mi, RS w, lv)) : Wp gl gx d P 64 0 [aR 3 i, aI x1, aI x2] [] (mi, RS w, lv) Q := r_X4_colourAt_0 (k_ck hf (fun q45 q44 => ⟨q45, o_rP q44 h0⟩))

abbrev row_65 : MT := (⟨"StencilHouse$Picture", "placesOf", "(I)I"⟩, prog_6_method_5_code, 4, some .int, 1, lk_4)
set_option maxRecDepth 20000 in
theorem mt_65 : mt 65 = some row_65 := rfl
theorem r_X4_placesOf_26 {gl : Nat} {gx : Nat → Int32} {d : Nat} {P : PL} {Q : PO} {mi : MI} {w : WS} {lv : LV} {i : Nat} {x1 : Int32} {x2 : Int32} {x3 : Int32} (h : Wp gl gx d P 65 4 [aR 3 i, aI x1, aI x2, aI (x3 + 1)] [] (mi, RS w, lv) Q) : Wp gl gx d P 65 26 [aR 3 i, aI x1, aI x2, aI x3] [] (mi, RS w, lv) Q := 
  wpT row_65 mt_65 [.iinc 3 1, .goto (.negSucc 24)] (by decide +kernel) [] (by decide +kernel) 24 (h)

theorem r_X4_placesOf_4 {gl : Nat} {gx : Nat → Int32} {d : Nat} {P : PL} {Q : PO} {mi : MI} {w : WS} {lv : LV} {i : Nat} {x1 : Int32} {x2 : Int32} {x3 : Int32} (h : ((25 ≤ x3) → Q (aI x2) (mi, RS w, lv)) ∧ (¬ (25 ≤ x3) → (vp_in x3 25) ∧ (Wp gl gx d P 65 4 [aR 3 i, aI x1, aI (if (mi 30 i x3.toNatClampNeg) = x1 then x2 + 1 else x2), aI (x3 + 1)] [] (mi, RS w, lv) Q))) : Wp gl gx d P 65 4 [aR 3 i, aI x1, aI x2, aI x3] [] (mi, RS w, lv) Q := 
  wpT row_65 mt_65 [.iload_n 3, .aload_n 0, .getfield 9, .arraylength, .if_icmp .ge 22] (by decide +kernel) [(32, [.iload_n 2, .ireturn]), (13, [.aload_n 0, .getfield 9, .iload_n 3, .iaload]), (19, [.iload_n 1, .if_icmp .ne 6]), (23, [.iinc 2 1])] (by decide +kernel) 48 (And.intro (fun q46 => (h.1 q46)) (fun q47 => And.intro (h.2 q47).1 (And.intro (fun q48 => r_X4_placesOf_26 (i := i) (x1 := x1) (x2 := x2) (x3 := x3) (mi := mi) (mv9 (fun v => Wp gl gx d P 65 4 [aR 3 i, aI x1, aI v, aI (x3 + 1)] [] (mi, RS w, lv) Q) (show (if (mi 30 i x3.toNatClampNeg) = x1 then x2 + 1 else x2) = x2 from if_neg (show ¬ ((mi 30 i x3.toNatClampNeg) = x1) from q48)) ((h.2 q47).2))) (fun q49 => r_X4_placesOf_26 (i := i) (x1 := x1) (x2 := (x2 + 1)) (x3 := x3) (mi := mi) (mv9 (fun v => Wp gl gx d P 65 4 [aR 3 i, aI x1, aI v, aI (x3 + 1)] [] (mi, RS w, lv) Q) (show (if (mi 30 i x3.toNatClampNeg) = x1 then x2 + 1 else x2) = (x2 + 1) from if_pos (show (mi 30 i x3.toNatClampNeg) = x1 from q49)) ((h.2 q47).2))))))

theorem r_X4_placesOf_0 {gl : Nat} {gx : Nat → Int32} {d : Nat} {P : PL} {Q : PO} {mi : MI} {w : WS} {lv : LV} {i : Nat} {x1 : Int32} (h : Wp gl gx d P 65 4 [aR 3 i, aI x1, aI 0, aI 0] [] (mi, RS w, lv) Q) : Wp gl gx d P 65 0 [aR 3 i, aI x1, aU, aU] [] (mi, RS w, lv) Q := 
  wpT row_65 mt_65 [.iconst 0, .istore_n 2, .iconst 0, .istore_n 3] (by decide +kernel) [] (by decide +kernel) 28 (h)

def L_X4_placesOf_4 (mi : MI) (w : WS) : Nat → Nat → Int32 → Int32 → Int32 → Option Int32
  | 0, _, _, _, _ => none
  | n + 1, i, x1, x2, x3 => if 25 ≤ x3 then some x2 else ck (¬ (x3 < 0 ∨ 25 ≤ x3.toNatClampNeg)) (L_X4_placesOf_4 mi w n i x1 (if (mi 30 i x3.toNatClampNeg) = x1 then x2 + 1 else x2) (x3 + 1))

theorem l_X4_placesOf_4 {gl : Nat} {gx : Nat → Int32} {d : Nat} {P : PL} {Q : PO} {lv : LV} {mi : MI} {w : WS} (n : Nat) : ∀ {i : Nat} {x1 : Int32} {x2 : Int32} {x3 : Int32} {r : Int32}, L_X4_placesOf_4 mi w n i x1 x2 x3 = some r → (Q (aI r) (mi, RS w, lv)) → Wp gl gx d P 65 4 [aR 3 i, aI x1, aI x2, aI x3] [] (mi, RS w, lv) Q := by
  induction n with
  | zero => intro i x1 x2 x3 r hf h0; exact o_none hf
  | succ n ih => intro i x1 x2 x3 r hf h0; exact r_X4_placesOf_4 (⟨fun q50 => k_ifp q50 hf (fun q52 => o_rP q52 h0), fun q51 => k_ifn q51 hf (fun q52 => k_ck q52 (fun q54 q53 => ⟨q54, ih q53 h0⟩))⟩)

def F_X4_placesOf (mi : MI) (w : WS) (i : Nat) (x1 : Int32) : Option Int32 := L_X4_placesOf_4 mi w 1000000 i x1 0 0

theorem s_X4_placesOf {gl : Nat} {gx : Nat → Int32} {d : Nat} {P : PL} {Q : PO} {mi : MI} {w : WS} {lv : LV} {i : Nat} {x1 : Int32} {r : Int32} (hf : F_X4_placesOf mi w i x1 = some r) (h0 : Q (aI r) (mi, RS w, lv)) : Wp gl gx d P 65 0 [aR 3 i, aI x1, aU, aU] [] (mi, RS w, lv) Q := r_X4_placesOf_0 (l_X4_placesOf_4 1000000 hf h0)

abbrev row_66 : MT := (⟨"StencilHouse$Picture", "cellsOf", "(LStencilHouse$Shop;I)I"⟩, prog_6_method_6_code, 6, some .int, 1, lk_4)
set_option maxRecDepth 20000 in
theorem mt_66 : mt 66 = some row_66 := rfl
theorem r_X4_cellsOf_53 {gl : Nat} {gx : Nat → Int32} {d : Nat} {P : PL} {Q : PO} {mi : MI} {w : WS} {lv : LV} {i : Nat} {i1 : Nat} {x2 : Int32} {x3 : Int32} {x4 : Int32} {x5 : Int32} (h : Wp gl gx (d + 1) P 66 17 [aR 3 i, aR 5 i1, aI x2, aI x3, aI x4, aI (x5 + 1)] [] (mi, RS w, lv) Q) : Wp gl gx (d + 1) P 66 53 [aR 3 i, aR 5 i1, aI x2, aI x3, aI x4, aI x5] [] (mi, RS w, lv) Q := 
  wpT row_66 mt_66 [.iinc 5 1, .goto (.negSucc 38)] (by decide +kernel) [] (by decide +kernel) 24 (h)

theorem r_X4_cellsOf_17 {gl : Nat} {gx : Nat → Int32} {d : Nat} {P : PL} {Q : PO} {mi : MI} {w : WS} {lv : LV} {i : Nat} {i1 : Nat} {x2 : Int32} {x3 : Int32} {x4 : Int32} {x5 : Int32} (h : (((mi 5 i1 0) ≤ x5) → Wp gl gx (d + 1) P 66 5 [aR 3 i, aR 5 i1, aI x2, aI x3, aI (x4 + 1), aI x5] [] (mi, RS w, lv) Q) ∧ (¬ ((mi 5 i1 0) ≤ x5) → (∃ c9 : Int32, F_X4_colourAt mi w i x5 x4 = some c9 ∧ Wp gl gx (d + 1) P 66 17 [aR 3 i, aR 5 i1, aI x2, aI (if c9 = x2 then x3 ||| ((1 : Int32) <<< (((x4 * (mi 5 i1 0)) + x5) &&& 31)) else x3), aI x4, aI (x5 + 1)] [] (mi, RS w, lv) Q))) : Wp gl gx (d + 1) P 66 17 [aR 3 i, aR 5 i1, aI x2, aI x3, aI x4, aI x5] [] (mi, RS w, lv) Q := 
  wpT row_66 mt_66 [.iload 5, .aload_n 1, .getfield 27, .if_icmp .ge 36] (by decide +kernel) [(59, [.iinc 4 1, .goto (.negSucc 56)]), (26, [.aload_n 0, .iload 5, .iload 4, .invokevirtual 30]), (34, [.iload_n 2, .if_icmp .ne 18]), (38, [.iload_n 3, .iconst 1, .iload 4, .aload_n 1, .getfield 27, .imul, .iload 5, .iadd, .ishl, .ior, .istore_n 3])] (by decide +kernel) 66 (And.intro (fun q55 => (h.1 q55)) (fun q56 => Exists.elim (h.2 q56) (fun c9 zc9 => And.intro ⟨Nat.le_of_ble_eq_true rfl, rfl, rfl⟩ (s_X4_colourAt (d := d) zc9.1 (And.intro (fun q57 => r_X4_cellsOf_53 (i := i) (i1 := i1) (x2 := x2) (x3 := x3) (x4 := x4) (x5 := x5) (mi := mi) (mv9 (fun v => Wp gl gx (d + 1) P 66 17 [aR 3 i, aR 5 i1, aI x2, aI v, aI x4, aI (x5 + 1)] [] (mi, RS w, lv) Q) (show (if c9 = x2 then x3 ||| ((1 : Int32) <<< (((x4 * (mi 5 i1 0)) + x5) &&& 31)) else x3) = x3 from if_neg (show ¬ (c9 = x2) from q57)) zc9.2)) (fun q58 => r_X4_cellsOf_53 (i := i) (i1 := i1) (x2 := x2) (x3 := (x3 ||| ((1 : Int32) <<< (((x4 * (mi 5 i1 0)) + x5) &&& 31)))) (x4 := x4) (x5 := x5) (mi := mi) (mv9 (fun v => Wp gl gx (d + 1) P 66 17 [aR 3 i, aR 5 i1, aI x2, aI v, aI x4, aI (x5 + 1)] [] (mi, RS w, lv) Q) (show (if c9 = x2 then x3 ||| ((1 : Int32) <<< (((x4 * (mi 5 i1 0)) + x5) &&& 31)) else x3) = (x3 ||| ((1 : Int32) <<< (((x4 * (mi 5 i1 0)) + x5) &&& 31))) from if_pos (show c9 = x2 from q58)) zc9.2)))))))

theorem r_X4_cellsOf_5 {gl : Nat} {gx : Nat → Int32} {d : Nat} {P : PL} {Q : PO} {mi : MI} {w : WS} {lv : LV} {i : Nat} {i1 : Nat} {x2 : Int32} {x3 : Int32} {x4 : Int32} {v5 : AV} (h : (((mi 5 i1 1) ≤ x4) → Q (aI x3) (mi, RS w, lv)) ∧ (¬ ((mi 5 i1 1) ≤ x4) → Wp gl gx (d + 1) P 66 17 [aR 3 i, aR 5 i1, aI x2, aI x3, aI x4, aI 0] [] (mi, RS w, lv) Q)) : Wp gl gx (d + 1) P 66 5 [aR 3 i, aR 5 i1, aI x2, aI x3, aI x4, v5] [] (mi, RS w, lv) Q := 
  wpT row_66 mt_66 [.iload 4, .aload_n 1, .getfield 21, .if_icmp .ge 54] (by decide +kernel) [(65, [.iload_n 3, .ireturn]), (14, [.iconst 0, .istore 5])] (by decide +kernel) 36 (And.intro (fun q59 => (h.1 q59)) (fun q60 => (h.2 q60)))

theorem r_X4_cellsOf_0 {gl : Nat} {gx : Nat → Int32} {d : Nat} {P : PL} {Q : PO} {mi : MI} {w : WS} {lv : LV} {i : Nat} {i1 : Nat} {x2 : Int32} (h : Wp gl gx (d + 1) P 66 5 [aR 3 i, aR 5 i1, aI x2, aI 0, aI 0, aU] [] (mi, RS w, lv) Q) : Wp gl gx (d + 1) P 66 0 [aR 3 i, aR 5 i1, aI x2, aU, aU, aU] [] (mi, RS w, lv) Q := 
  wpT row_66 mt_66 [.iconst 0, .istore_n 3, .iconst 0, .istore 4] (by decide +kernel) [] (by decide +kernel) 28 (h)

def L_X4_cellsOf_17 (mi : MI) (w : WS) (k5 : Nat → Nat → Int32 → Int32 → Int32 → Option Int32) : Nat → Nat → Nat → Int32 → Int32 → Int32 → Int32 → Option Int32
  | 0, _, _, _, _, _, _ => none
  | n + 1, i, i1, x2, x3, x4, x5 => if (mi 5 i1 0) ≤ x5 then k5 i i1 x2 x3 (x4 + 1) else (F_X4_colourAt mi w i x5 x4).bind fun c9 => L_X4_cellsOf_17 mi w k5 n i i1 x2 (if c9 = x2 then x3 ||| ((1 : Int32) <<< (((x4 * (mi 5 i1 0)) + x5) &&& 31)) else x3) x4 (x5 + 1)

theorem l_X4_cellsOf_17 {gl : Nat} {gx : Nat → Int32} {d : Nat} {P : PL} {Q : PO} {lv : LV} {mi : MI} {w : WS} {k5 : Nat → Nat → Int32 → Int32 → Int32 → Option Int32} (hk5 : ∀ {i : Nat} {i1 : Nat} {x2 : Int32} {x3 : Int32} {x4 : Int32} {v5 : AV} {r : Int32}, k5 i i1 x2 x3 x4 = some r → (Q (aI r) (mi, RS w, lv)) → Wp gl gx (d + 1) P 66 5 [aR 3 i, aR 5 i1, aI x2, aI x3, aI x4, v5] [] (mi, RS w, lv) Q) (n : Nat) : ∀ {i : Nat} {i1 : Nat} {x2 : Int32} {x3 : Int32} {x4 : Int32} {x5 : Int32} {r : Int32}, L_X4_cellsOf_17 mi w k5 n i i1 x2 x3 x4 x5 = some r → (Q (aI r) (mi, RS w, lv)) → Wp gl gx (d + 1) P 66 17 [aR 3 i, aR 5 i1, aI x2, aI x3, aI x4, aI x5] [] (mi, RS w, lv) Q := by
  induction n with
  | zero => intro i i1 x2 x3 x4 x5 r hf h0; exact o_none hf
  | succ n ih => intro i i1 x2 x3 x4 x5 r hf h0; exact r_X4_cellsOf_17 (⟨fun q61 => k_ifp q61 hf (fun q63 => hk5 q63 h0), fun q62 => k_ifn q62 hf (fun q63 => o_bind q63 (fun c9 qc9 pc9 => ⟨c9, qc9, ih pc9 h0⟩))⟩)

def L_X4_cellsOf_5 (mi : MI) (w : WS) : Nat → Nat → Nat → Int32 → Int32 → Int32 → Option Int32
  | 0, _, _, _, _, _ => none
  | n + 1, i, i1, x2, x3, x4 => if (mi 5 i1 1) ≤ x4 then some x3 else L_X4_cellsOf_17 mi w (fun i i1 x2 x3 x4 => L_X4_cellsOf_5 mi w n i i1 x2 x3 x4) 1000000 i i1 x2 x3 x4 0

theorem l_X4_cellsOf_5 {gl : Nat} {gx : Nat → Int32} {d : Nat} {P : PL} {Q : PO} {lv : LV} {mi : MI} {w : WS} (n : Nat) : ∀ {i : Nat} {i1 : Nat} {x2 : Int32} {x3 : Int32} {x4 : Int32} {v5 : AV} {r : Int32}, L_X4_cellsOf_5 mi w n i i1 x2 x3 x4 = some r → (Q (aI r) (mi, RS w, lv)) → Wp gl gx (d + 1) P 66 5 [aR 3 i, aR 5 i1, aI x2, aI x3, aI x4, v5] [] (mi, RS w, lv) Q := by
  induction n with
  | zero => intro i i1 x2 x3 x4 v5 r hf h0; exact o_none hf
  | succ n ih => intro i i1 x2 x3 x4 v5 r hf h0; exact r_X4_cellsOf_5 (⟨fun q64 => k_ifp q64 hf (fun q66 => o_rP q66 h0), fun q65 => k_ifn q65 hf (fun q66 => l_X4_cellsOf_17 (fun hf h0 => ih hf h0) 1000000 q66 h0)⟩)

def F_X4_cellsOf (mi : MI) (w : WS) (i : Nat) (i1 : Nat) (x2 : Int32) : Option Int32 := L_X4_cellsOf_5 mi w 1000000 i i1 x2 0 0

theorem s_X4_cellsOf {gl : Nat} {gx : Nat → Int32} {d : Nat} {P : PL} {Q : PO} {mi : MI} {w : WS} {lv : LV} {i : Nat} {i1 : Nat} {x2 : Int32} {r : Int32} (hf : F_X4_cellsOf mi w i i1 x2 = some r) (h0 : Q (aI r) (mi, RS w, lv)) : Wp gl gx (d + 1) P 66 0 [aR 3 i, aR 5 i1, aI x2, aU, aU, aU] [] (mi, RS w, lv) Q := r_X4_cellsOf_0 (l_X4_cellsOf_5 1000000 hf h0)

abbrev row_67 : MT := (⟨"StencilHouse$Picture", "isWithin", "(LStencilHouse$Shop;)Z"⟩, prog_6_method_7_code, 4, some .boolean, 1, lk_4)
set_option maxRecDepth 20000 in
theorem mt_67 : mt 67 = some row_67 := rfl
theorem r_X4_isWithin_34 {gl : Nat} {gx : Nat → Int32} {d : Nat} {P : PL} {Q : PO} {mi : MI} {w : WS} {lv : LV} {i : Nat} {i1 : Nat} {x2 : Int32} {x3 : Int32} (h : Wp gl gx (d + 1) P 67 9 [aR 3 i, aR 5 i1, aI x2, aI (x3 + 1)] [] (mi, RS w, lv) Q) : Wp gl gx (d + 1) P 67 34 [aR 3 i, aR 5 i1, aI x2, aI x3] [] (mi, RS w, lv) Q := 
  wpT row_67 mt_67 [.iinc 3 1, .goto (.negSucc 27)] (by decide +kernel) [] (by decide +kernel) 24 (h)

theorem r_X4_isWithin_9 {gl : Nat} {gx : Nat → Int32} {d : Nat} {P : PL} {Q : PO} {mi : MI} {w : WS} {lv : LV} {i : Nat} {i1 : Nat} {x2 : Int32} {x3 : Int32} (h : ((5 ≤ x3) → Wp gl gx (d + 1) P 67 2 [aR 3 i, aR 5 i1, aI (x2 + 1), aI x3] [] (mi, RS w, lv) Q) ∧ (¬ (5 ≤ x3) → (∃ c10 : Int32, F_X4_colourAt mi w i x3 x2 = some c10 ∧ ((c10 = 0) → Wp gl gx (d + 1) P 67 9 [aR 3 i, aR 5 i1, aI x2, aI (x3 + 1)] [] (mi, RS w, lv) Q) ∧ (¬ (c10 = 0) → (¬ (x3 < 0) ∧ (¬ ((mi 5 i1 0) ≤ x3) ∧ (¬ (x2 < 0) ∧ (¬ ((mi 5 i1 1) ≤ x2)))) → Wp gl gx (d + 1) P 67 9 [aR 3 i, aR 5 i1, aI x2, aI (x3 + 1)] [] (mi, RS w, lv) Q) ∧ (¬ (¬ (x3 < 0) ∧ (¬ ((mi 5 i1 0) ≤ x3) ∧ (¬ (x2 < 0) ∧ (¬ ((mi 5 i1 1) ≤ x2))))) → Q (aI 0) (mi, RS w, lv)))))) : Wp gl gx (d + 1) P 67 9 [aR 3 i, aR 5 i1, aI x2, aI x3] [] (mi, RS w, lv) Q := 
  wpT row_67 mt_67 [.iload_n 3, .iconst 5, .if_icmp .ge 29] (by decide +kernel) [(40, [.iinc 2 1, .goto (.negSucc 40)]), (14, [.aload_n 0, .iload_n 3, .iload_n 2, .invokevirtual 30]), (20, [.ifCond .eq 14]), (23, [.aload_n 1, .iload_n 3, .iload_n 2, .invokevirtual 34]), (29, [.ifCond .ne 5]), (32, [.iconst 0, .ireturn])] (by decide +kernel) 54 (And.intro (fun q67 => (h.1 q67)) (fun q68 => Exists.elim (h.2 q68) (fun c10 zc10 => And.intro ⟨Nat.le_of_ble_eq_true rfl, rfl, rfl⟩ (s_X4_colourAt (d := d) zc10.1 (And.intro (fun q69 => r_X4_isWithin_34 (i := i) (i1 := i1) (x2 := x2) (x3 := x3) (mi := mi) (zc10.2.1 q69)) (fun q70 => And.intro ⟨Nat.le_of_ble_eq_true rfl, rfl, rfl⟩ (s_X6_hasPlace (d := d) (And.intro (fun q71 => r_X4_isWithin_34 (i := i) (i1 := i1) (x2 := x2) (x3 := x3) (mi := mi) ((zc10.2.2 q70).1 (b2_n q71))) (fun q72 => And.intro rfl ((zc10.2.2 q70).2 (b2_0 q72)))))))))))

theorem r_X4_isWithin_2 {gl : Nat} {gx : Nat → Int32} {d : Nat} {P : PL} {Q : PO} {mi : MI} {w : WS} {lv : LV} {i : Nat} {i1 : Nat} {x2 : Int32} {v3 : AV} (h : ((5 ≤ x2) → Q (aI 1) (mi, RS w, lv)) ∧ (¬ (5 ≤ x2) → Wp gl gx (d + 1) P 67 9 [aR 3 i, aR 5 i1, aI x2, aI 0] [] (mi, RS w, lv) Q)) : Wp gl gx (d + 1) P 67 2 [aR 3 i, aR 5 i1, aI x2, v3] [] (mi, RS w, lv) Q := 
  wpT row_67 mt_67 [.iload_n 2, .iconst 5, .if_icmp .ge 42] (by decide +kernel) [(46, [.iconst 1, .ireturn]), (7, [.iconst 0, .istore_n 3])] (by decide +kernel) 34 (And.intro (fun q73 => And.intro rfl (h.1 q73)) (fun q74 => (h.2 q74)))

theorem r_X4_isWithin_0 {gl : Nat} {gx : Nat → Int32} {d : Nat} {P : PL} {Q : PO} {mi : MI} {w : WS} {lv : LV} {i : Nat} {i1 : Nat} (h : Wp gl gx (d + 1) P 67 2 [aR 3 i, aR 5 i1, aI 0, aU] [] (mi, RS w, lv) Q) : Wp gl gx (d + 1) P 67 0 [aR 3 i, aR 5 i1, aU, aU] [] (mi, RS w, lv) Q := 
  wpT row_67 mt_67 [.iconst 0, .istore_n 2] (by decide +kernel) [] (by decide +kernel) 24 (h)

def L_X4_isWithin_9 (mi : MI) (w : WS) (k2 : Nat → Nat → Int32 → Option Int32) : Nat → Nat → Nat → Int32 → Int32 → Option Int32
  | 0, _, _, _, _ => none
  | n + 1, i, i1, x2, x3 => if 5 ≤ x3 then k2 i i1 (x2 + 1) else (F_X4_colourAt mi w i x3 x2).bind fun c10 => if c10 = 0 then L_X4_isWithin_9 mi w k2 n i i1 x2 (x3 + 1) else if ¬ (x3 < 0) ∧ (¬ ((mi 5 i1 0) ≤ x3) ∧ (¬ (x2 < 0) ∧ (¬ ((mi 5 i1 1) ≤ x2)))) then L_X4_isWithin_9 mi w k2 n i i1 x2 (x3 + 1) else some (0 : Int32)

theorem l_X4_isWithin_9 {gl : Nat} {gx : Nat → Int32} {d : Nat} {P : PL} {Q : PO} {lv : LV} {mi : MI} {w : WS} {k2 : Nat → Nat → Int32 → Option Int32} (hk2 : ∀ {i : Nat} {i1 : Nat} {x2 : Int32} {v3 : AV} {r : Int32}, k2 i i1 x2 = some r → (Q (aI r) (mi, RS w, lv)) → Wp gl gx (d + 1) P 67 2 [aR 3 i, aR 5 i1, aI x2, v3] [] (mi, RS w, lv) Q) (n : Nat) : ∀ {i : Nat} {i1 : Nat} {x2 : Int32} {x3 : Int32} {r : Int32}, L_X4_isWithin_9 mi w k2 n i i1 x2 x3 = some r → (Q (aI r) (mi, RS w, lv)) → Wp gl gx (d + 1) P 67 9 [aR 3 i, aR 5 i1, aI x2, aI x3] [] (mi, RS w, lv) Q := by
  induction n with
  | zero => intro i i1 x2 x3 r hf h0; exact o_none hf
  | succ n ih => intro i i1 x2 x3 r hf h0; exact r_X4_isWithin_9 (⟨fun q75 => k_ifp q75 hf (fun q77 => hk2 q77 h0), fun q76 => k_ifn q76 hf (fun q77 => o_bind q77 (fun c10 qc10 pc10 => ⟨c10, qc10, ⟨fun q78 => k_ifp q78 pc10 (fun q80 => ih q80 h0), fun q79 => k_ifn q79 pc10 (fun q80 => ⟨fun q81 => k_ifp q81 q80 (fun q83 => ih q83 h0), fun q82 => k_ifn q82 q80 (fun q83 => o_rP q83 h0)⟩)⟩⟩))⟩)

def L_X4_isWithin_2 (mi : MI) (w : WS) : Nat → Nat → Nat → Int32 → Option Int32
  | 0, _, _, _ => none
  | n + 1, i, i1, x2 => if 5 ≤ x2 then some (1 : Int32) else L_X4_isWithin_9 mi w (fun i i1 x2 => L_X4_isWithin_2 mi w n i i1 x2) 1000000 i i1 x2 0

theorem l_X4_isWithin_2 {gl : Nat} {gx : Nat → Int32} {d : Nat} {P : PL} {Q : PO} {lv : LV} {mi : MI} {w : WS} (n : Nat) : ∀ {i : Nat} {i1 : Nat} {x2 : Int32} {v3 : AV} {r : Int32}, L_X4_isWithin_2 mi w n i i1 x2 = some r → (Q (aI r) (mi, RS w, lv)) → Wp gl gx (d + 1) P 67 2 [aR 3 i, aR 5 i1, aI x2, v3] [] (mi, RS w, lv) Q := by
  induction n with
  | zero => intro i i1 x2 v3 r hf h0; exact o_none hf
  | succ n ih => intro i i1 x2 v3 r hf h0; exact r_X4_isWithin_2 (⟨fun q84 => k_ifp q84 hf (fun q86 => o_rP q86 h0), fun q85 => k_ifn q85 hf (fun q86 => l_X4_isWithin_9 (fun hf h0 => ih hf h0) 1000000 q86 h0)⟩)

def F_X4_isWithin (mi : MI) (w : WS) (i : Nat) (i1 : Nat) : Option Int32 := L_X4_isWithin_2 mi w 1000000 i i1 0

theorem s_X4_isWithin {gl : Nat} {gx : Nat → Int32} {d : Nat} {P : PL} {Q : PO} {mi : MI} {w : WS} {lv : LV} {i : Nat} {i1 : Nat} {r : Int32} (hf : F_X4_isWithin mi w i i1 = some r) (h0 : Q (aI r) (mi, RS w, lv)) : Wp gl gx (d + 1) P 67 0 [aR 3 i, aR 5 i1, aU, aU] [] (mi, RS w, lv) Q := r_X4_isWithin_0 (l_X4_isWithin_2 1000000 hf h0)

abbrev row_68 : MT := (⟨"StencilHouse$Picture", "colourCount", "()I"⟩, prog_6_method_8_code, 3, some .int, 1, lk_4)
set_option maxRecDepth 20000 in
theorem mt_68 : mt 68 = some row_68 := rfl
theorem r_X4_colourCount_21 {gl : Nat} {gx : Nat → Int32} {d : Nat} {P : PL} {Q : PO} {mi : MI} {w : WS} {lv : LV} {i : Nat} {x1 : Int32} {x2 : Int32} (h : Wp gl gx (d + 1) P 68 4 [aR 3 i, aI x1, aI (x2 + 1)] [] (mi, RS w, lv) Q) : Wp gl gx (d + 1) P 68 21 [aR 3 i, aI x1, aI x2] [] (mi, RS w, lv) Q := 
  wpT row_68 mt_68 [.iinc 2 1, .goto (.negSucc 19)] (by decide +kernel) [] (by decide +kernel) 24 (h)

theorem r_X4_colourCount_4 {gl : Nat} {gx : Nat → Int32} {d : Nat} {P : PL} {Q : PO} {mi : MI} {w : WS} {lv : LV} {i : Nat} {x1 : Int32} {x2 : Int32} (h : ((10 ≤ x2) → Q (aI x1) (mi, RS w, lv)) ∧ (¬ (10 ≤ x2) → (∃ c11 : Int32, F_X4_placesOf mi w i x2 = some c11 ∧ Wp gl gx (d + 1) P 68 4 [aR 3 i, aI (if c11 ≤ 0 then x1 else x1 + 1), aI (x2 + 1)] [] (mi, RS w, lv) Q))) : Wp gl gx (d + 1) P 68 4 [aR 3 i, aI x1, aI x2] [] (mi, RS w, lv) Q := 
  wpT row_68 mt_68 [.iload_n 2, .bipush 10, .if_icmp .ge 20] (by decide +kernel) [(27, [.iload_n 1, .ireturn]), (10, [.aload_n 0, .iload_n 2, .invokevirtual 38]), (15, [.ifCond .le 6]), (18, [.iinc 1 1])] (by decide +kernel) 40 (And.intro (fun q87 => (h.1 q87)) (fun q88 => Exists.elim (h.2 q88) (fun c11 zc11 => And.intro ⟨Nat.le_of_ble_eq_true rfl, rfl, rfl⟩ (s_X4_placesOf (d := d) zc11.1 (And.intro (fun q89 => r_X4_colourCount_21 (i := i) (x1 := x1) (x2 := x2) (mi := mi) (mv9 (fun v => Wp gl gx (d + 1) P 68 4 [aR 3 i, aI v, aI (x2 + 1)] [] (mi, RS w, lv) Q) (show (if c11 ≤ 0 then x1 else x1 + 1) = x1 from if_pos (show c11 ≤ 0 from q89)) zc11.2)) (fun q90 => r_X4_colourCount_21 (i := i) (x1 := (x1 + 1)) (x2 := x2) (mi := mi) (mv9 (fun v => Wp gl gx (d + 1) P 68 4 [aR 3 i, aI v, aI (x2 + 1)] [] (mi, RS w, lv) Q) (show (if c11 ≤ 0 then x1 else x1 + 1) = (x1 + 1) from if_neg (show ¬ (c11 ≤ 0) from q90)) zc11.2)))))))

theorem r_X4_colourCount_0 {gl : Nat} {gx : Nat → Int32} {d : Nat} {P : PL} {Q : PO} {mi : MI} {w : WS} {lv : LV} {i : Nat} (h : Wp gl gx (d + 1) P 68 4 [aR 3 i, aI 0, aI 1] [] (mi, RS w, lv) Q) : Wp gl gx (d + 1) P 68 0 [aR 3 i, aU, aU] [] (mi, RS w, lv) Q := 
  wpT row_68 mt_68 [.iconst 0, .istore_n 1, .iconst 1, .istore_n 2] (by decide +kernel) [] (by decide +kernel) 28 (h)

def L_X4_colourCount_4 (mi : MI) (w : WS) : Nat → Nat → Int32 → Int32 → Option Int32
  | 0, _, _, _ => none
  | n + 1, i, x1, x2 => if 10 ≤ x2 then some x1 else (F_X4_placesOf mi w i x2).bind fun c11 => L_X4_colourCount_4 mi w n i (if c11 ≤ 0 then x1 else x1 + 1) (x2 + 1)

theorem l_X4_colourCount_4 {gl : Nat} {gx : Nat → Int32} {d : Nat} {P : PL} {Q : PO} {lv : LV} {mi : MI} {w : WS} (n : Nat) : ∀ {i : Nat} {x1 : Int32} {x2 : Int32} {r : Int32}, L_X4_colourCount_4 mi w n i x1 x2 = some r → (Q (aI r) (mi, RS w, lv)) → Wp gl gx (d + 1) P 68 4 [aR 3 i, aI x1, aI x2] [] (mi, RS w, lv) Q := by
  induction n with
  | zero => intro i x1 x2 r hf h0; exact o_none hf
  | succ n ih => intro i x1 x2 r hf h0; exact r_X4_colourCount_4 (⟨fun q91 => k_ifp q91 hf (fun q93 => o_rP q93 h0), fun q92 => k_ifn q92 hf (fun q93 => o_bind q93 (fun c11 qc11 pc11 => ⟨c11, qc11, ih pc11 h0⟩))⟩)

def F_X4_colourCount (mi : MI) (w : WS) (i : Nat) : Option Int32 := L_X4_colourCount_4 mi w 1000000 i 0 1

theorem s_X4_colourCount {gl : Nat} {gx : Nat → Int32} {d : Nat} {P : PL} {Q : PO} {mi : MI} {w : WS} {lv : LV} {i : Nat} {r : Int32} (hf : F_X4_colourCount mi w i = some r) (h0 : Q (aI r) (mi, RS w, lv)) : Wp gl gx (d + 1) P 68 0 [aR 3 i, aU, aU] [] (mi, RS w, lv) Q := r_X4_colourCount_0 (l_X4_colourCount_4 1000000 hf h0)

abbrev row_69 : MT := (⟨"StencilHouse$Picture", "commonest", "()I"⟩, prog_6_method_9_code, 5, some .int, 1, lk_4)
set_option maxRecDepth 20000 in
theorem mt_69 : mt 69 = some row_69 := rfl
theorem r_X4_commonest_30 {gl : Nat} {gx : Nat → Int32} {d : Nat} {P : PL} {Q : PO} {mi : MI} {w : WS} {lv : LV} {i : Nat} {x1 : Int32} {x2 : Int32} {x3 : Int32} {x4 : Int32} (h : Wp gl gx (d + 1) P 69 6 [aR 3 i, aI x1, aI x2, aI (x3 + 1), aI x4] [] (mi, RS w, lv) Q) : Wp gl gx (d + 1) P 69 30 [aR 3 i, aI x1, aI x2, aI x3, aI x4] [] (mi, RS w, lv) Q := 
  wpT row_69 mt_69 [.iinc 3 1, .goto (.negSucc 26)] (by decide +kernel) [] (by decide +kernel) 24 (h)

theorem r_X4_commonest_6 {gl : Nat} {gx : Nat → Int32} {d : Nat} {P : PL} {Q : PO} {mi : MI} {w : WS} {lv : LV} {i : Nat} {x1 : Int32} {x2 : Int32} {x3 : Int32} {v4 : AV} (h : ((10 ≤ x3) → Q (aI x1) (mi, RS w, lv)) ∧ (¬ (10 ≤ x3) → (∃ c12 : Int32, F_X4_placesOf mi w i x3 = some c12 ∧ ((c12 ≤ x2) → Wp gl gx (d + 1) P 69 6 [aR 3 i, aI x1, aI x2, aI (x3 + 1), aI c12] [] (mi, RS w, lv) Q) ∧ (¬ (c12 ≤ x2) → Wp gl gx (d + 1) P 69 6 [aR 3 i, aI x3, aI c12, aI (x3 + 1), aI c12] [] (mi, RS w, lv) Q)))) : Wp gl gx (d + 1) P 69 6 [aR 3 i, aI x1, aI x2, aI x3, v4] [] (mi, RS w, lv) Q := 
  wpT row_69 mt_69 [.iload_n 3, .bipush 10, .if_icmp .ge 27] (by decide +kernel) [(36, [.iload_n 1, .ireturn]), (12, [.aload_n 0, .iload_n 3, .invokevirtual 38]), (17, [.istore 4, .iload 4, .iload_n 2, .if_icmp .le 8]), (25, [.iload 4, .istore_n 2, .iload_n 3, .istore_n 1])] (by decide +kernel) 52 (And.intro (fun q94 => (h.1 q94)) (fun q95 => Exists.elim (h.2 q95) (fun c12 zc12 => And.intro ⟨Nat.le_of_ble_eq_true rfl, rfl, rfl⟩ (s_X4_placesOf (d := d) zc12.1 (And.intro (fun q96 => r_X4_commonest_30 (i := i) (x1 := x1) (x2 := x2) (x3 := x3) (x4 := c12) (mi := mi) (zc12.2.1 q96)) (fun q97 => r_X4_commonest_30 (i := i) (x1 := x3) (x2 := c12) (x3 := x3) (x4 := c12) (mi := mi) (zc12.2.2 q97)))))))

theorem r_X4_commonest_0 {gl : Nat} {gx : Nat → Int32} {d : Nat} {P : PL} {Q : PO} {mi : MI} {w : WS} {lv : LV} {i : Nat} (h : Wp gl gx (d + 1) P 69 6 [aR 3 i, aI (-1), aI 0, aI 1, aU] [] (mi, RS w, lv) Q) : Wp gl gx (d + 1) P 69 0 [aR 3 i, aU, aU, aU, aU] [] (mi, RS w, lv) Q := 
  wpT row_69 mt_69 [.iconst (.negSucc 0), .istore_n 1, .iconst 0, .istore_n 2, .iconst 1, .istore_n 3] (by decide +kernel) [] (by decide +kernel) 32 (h)

def L_X4_commonest_6 (mi : MI) (w : WS) : Nat → Nat → Int32 → Int32 → Int32 → Option Int32
  | 0, _, _, _, _ => none
  | n + 1, i, x1, x2, x3 => if 10 ≤ x3 then some x1 else (F_X4_placesOf mi w i x3).bind fun c12 => if c12 ≤ x2 then L_X4_commonest_6 mi w n i x1 x2 (x3 + 1) else L_X4_commonest_6 mi w n i x3 c12 (x3 + 1)

theorem l_X4_commonest_6 {gl : Nat} {gx : Nat → Int32} {d : Nat} {P : PL} {Q : PO} {lv : LV} {mi : MI} {w : WS} (n : Nat) : ∀ {i : Nat} {x1 : Int32} {x2 : Int32} {x3 : Int32} {v4 : AV} {r : Int32}, L_X4_commonest_6 mi w n i x1 x2 x3 = some r → (Q (aI r) (mi, RS w, lv)) → Wp gl gx (d + 1) P 69 6 [aR 3 i, aI x1, aI x2, aI x3, v4] [] (mi, RS w, lv) Q := by
  induction n with
  | zero => intro i x1 x2 x3 v4 r hf h0; exact o_none hf
  | succ n ih => intro i x1 x2 x3 v4 r hf h0; exact r_X4_commonest_6 (⟨fun q98 => k_ifp q98 hf (fun q100 => o_rP q100 h0), fun q99 => k_ifn q99 hf (fun q100 => o_bind q100 (fun c12 qc12 pc12 => ⟨c12, qc12, ⟨fun q101 => k_ifp q101 pc12 (fun q103 => ih q103 h0), fun q102 => k_ifn q102 pc12 (fun q103 => ih q103 h0)⟩⟩))⟩)

def F_X4_commonest (mi : MI) (w : WS) (i : Nat) : Option Int32 := L_X4_commonest_6 mi w 1000000 i (-1) 0 1

theorem s_X4_commonest {gl : Nat} {gx : Nat → Int32} {d : Nat} {P : PL} {Q : PO} {mi : MI} {w : WS} {lv : LV} {i : Nat} {r : Int32} (hf : F_X4_commonest mi w i = some r) (h0 : Q (aI r) (mi, RS w, lv)) : Wp gl gx (d + 1) P 69 0 [aR 3 i, aU, aU, aU, aU] [] (mi, RS w, lv) Q := r_X4_commonest_0 (l_X4_commonest_6 1000000 hf h0)

theorem r_X6_clear_22 {gl : Nat} {gx : Nat → Int32} {d : Nat} {P : PL} {Q : PO} {mi : MI} {w : WS} {lv : LV} {i : Nat} {x1 : Int32} (h : ((6 ≤ x1) → Q aU (mi, RS w, lv)) ∧ (¬ (6 ≤ x1) → (vp_in x1 6) ∧ ((∀ m14 : MI, m14 = u3 mi 26 i x1.toNatClampNeg 0 → (vp_in x1 6) ∧ ((∀ m15 : MI, m15 = u3 m14 27 i x1.toNatClampNeg 3 → (vp_in x1 6) ∧ ((∀ m16 : MI, m16 = u3 m15 28 i x1.toNatClampNeg 0 → Wp gl gx d P 86 22 [aR 5 i, aI (x1 + 1)] [] (m16, RS w, lv) Q)))))))) : Wp gl gx d P 86 22 [aR 5 i, aI x1] [] (mi, RS w, lv) Q := 
  wpT row_86 mt_86 [.iload_n 1, .bipush 6, .if_icmp .ge 30] (by decide +kernel) [(55, [.return_]), (28, [.aload_n 0, .getfield 24, .iload_n 1, .iconst 0, .iastore]), (35, [.aload_n 0, .getfield 28, .iload_n 1, .iconst 3, .iastore]), (42, [.aload_n 0, .getfield 31, .iload_n 1, .iconst 0, .iastore]), (49, [.iinc 1 1, .goto (.negSucc 29)])] (by decide +kernel) 62 (And.intro (fun q104 => (h.1 q104)) (fun q105 => And.intro (h.2 q105).1 (And.intro ((h.2 q105).2 _ rfl).1 (And.intro (((h.2 q105).2 _ rfl).2 _ rfl).1 (((((h.2 q105).2 _ rfl).2 _ rfl).2 _ rfl))))))

theorem r_X6_clear_0 {gl : Nat} {gx : Nat → Int32} {d : Nat} {P : PL} {Q : PO} {mi : MI} {w : WS} {lv : LV} {i : Nat} (h : (∀ m13 : MI, m13 = u3 (u3 (u3 mi 5 i 0 3) 5 i 1 3) 5 i 2 0 → Wp gl gx d P 86 22 [aR 5 i, aI 0] [] (u3 m13 5 i 3 0, RS w, lv) Q)) : Wp gl gx d P 86 0 [aR 5 i, aU] [] (mi, RS w, lv) Q := 
  wpT row_86 mt_86 [.aload_n 0, .iconst 3, .putfield 9, .aload_n 0, .iconst 3, .putfield 15, .aload_n 0, .iconst 0, .putfield 18] (by decide +kernel) [(15, [.aload_n 0, .iconst 0, .putfield 21, .iconst 0, .istore_n 1])] (by decide +kernel) 48 ((h _ rfl))

def L_X6_clear_22 (w : WS) : Nat → MI → Nat → Int32 → Option MI
  | 0, _, _, _ => none
  | n + 1, mi, i, x1 => if 6 ≤ x1 then some mi else ck (¬ (x1 < 0 ∨ 6 ≤ x1.toNatClampNeg)) (lt (u3 mi 26 i x1.toNatClampNeg 0) fun m14 => ck (¬ (x1 < 0 ∨ 6 ≤ x1.toNatClampNeg)) (lt (u3 m14 27 i x1.toNatClampNeg 3) fun m15 => ck (¬ (x1 < 0 ∨ 6 ≤ x1.toNatClampNeg)) (lt (u3 m15 28 i x1.toNatClampNeg 0) fun m16 => L_X6_clear_22 w n m16 i (x1 + 1))))

theorem l_X6_clear_22 {gl : Nat} {gx : Nat → Int32} {d : Nat} {P : PL} {Q : PO} {lv : LV} {w : WS} (n : Nat) : ∀ {mi : MI} {i : Nat} {x1 : Int32} {r : MI}, L_X6_clear_22 w n mi i x1 = some r → (Q aU (r, RS w, lv)) → Wp gl gx d P 86 22 [aR 5 i, aI x1] [] (mi, RS w, lv) Q := by
  induction n with
  | zero => intro mi i x1 r hf h0; exact o_none hf
  | succ n ih => intro mi i x1 r hf h0; exact r_X6_clear_22 (⟨fun q106 => k_ifp q106 hf (fun q108 => o_rMV q108 h0), fun q107 => k_ifn q107 hf (fun q108 => k_ck q108 (fun q110 q109 => ⟨q110, fun m14 hm14 => k_lt q109 hm14 (fun q111 => k_ck q111 (fun q113 q112 => ⟨q113, fun m15 hm15 => k_lt q112 hm15 (fun q114 => k_ck q114 (fun q116 q115 => ⟨q116, fun m16 hm16 => k_lt q115 hm16 (fun q117 => ih q117 h0)⟩))⟩))⟩))⟩)

def F_X6_clear (mi : MI) (w : WS) (i : Nat) : Option MI := lt (u3 (u3 (u3 mi 5 i 0 3) 5 i 1 3) 5 i 2 0) fun m13 => L_X6_clear_22 w 1000000 (u3 m13 5 i 3 0) i 0

theorem s_X6_clear {gl : Nat} {gx : Nat → Int32} {d : Nat} {P : PL} {Q : PO} {mi : MI} {w : WS} {lv : LV} {i : Nat} {r : MI} (hf : F_X6_clear mi w i = some r) (h0 : Q aU (r, RS w, lv)) : Wp gl gx d P 86 0 [aR 5 i, aU] [] (mi, RS w, lv) Q := r_X6_clear_0 (fun m13 hm13 => k_lt hf hm13 (fun q118 => l_X6_clear_22 1000000 q118 h0))

theorem r_X6_copyFrom_0 {gl : Nat} {gx : Nat → Int32} {d : Nat} {P : PL} {Q : PO} {mi : MI} {w : WS} {lv : LV} {i : Nat} {i1 : Nat} (h : (∀ m17 : MI, m17 = u3 (u3 mi 5 i 0 (mi 5 i1 0)) 5 i 1 ((u3 mi 5 i 0 (mi 5 i1 0)) 5 i1 1) → (∀ m18 : MI, m18 = u3 (u3 m17 5 i 2 (m17 5 i1 2)) 5 i 3 ((u3 m17 5 i 2 (m17 5 i1 2)) 5 i1 3) → (∀ m19 : MI, m19 = u2 m18 26 i (va_cpy (m18 26 i1) (m18 26 i) 0 0 6) → (∀ m20 : MI, m20 = u2 m19 27 i (va_cpy (m19 27 i1) (m19 27 i) 0 0 6) → (∀ m21 : MI, m21 = u2 m20 28 i (va_cpy (m20 28 i1) (m20 28 i) 0 0 6) → (∀ m22 : MI, m22 = u3 (u3 m21 5 i 7 (m21 5 i1 7)) 5 i 8 ((u3 m21 5 i 7 (m21 5 i1 7)) 5 i1 8) → (∀ m23 : MI, m23 = u3 (u3 m22 5 i 9 (m22 5 i1 9)) 5 i 10 ((u3 m22 5 i 9 (m22 5 i1 9)) 5 i1 10) → Q aU (m23, RS w, lv))))))))) : Wp gl gx (d + 1) P 87 0 [aR 5 i, aR 5 i1] [] (mi, RS w, lv) Q := 
  wpT row_87 mt_87 [.aload_n 0, .aload_n 1, .getfield 9, .putfield 9, .aload_n 0, .aload_n 1, .getfield 15, .putfield 15] (by decide +kernel) [(16, [.aload_n 0, .aload_n 1, .getfield 18, .putfield 18, .aload_n 0, .aload_n 1, .getfield 21, .putfield 21]), (32, [.aload_n 1, .getfield 24, .iconst 0, .aload_n 0, .getfield 24, .iconst 0, .bipush 6, .invokestatic 46]), (47, [.aload_n 1, .getfield 28, .iconst 0, .aload_n 0, .getfield 28, .iconst 0, .bipush 6, .invokestatic 46]), (62, [.aload_n 1, .getfield 31, .iconst 0, .aload_n 0, .getfield 31, .iconst 0, .bipush 6, .invokestatic 46]), (77, [.aload_n 0, .aload_n 1, .getfield 34, .putfield 34, .aload_n 0, .aload_n 1, .getfield 37, .putfield 37]), (93, [.aload_n 0, .aload_n 1, .getfield 40, .putfield 40, .aload_n 0, .aload_n 1, .getfield 43, .putfield 43]), (109, [.return_])] (by decide +kernel) 134 (And.intro ⟨Nat.le_of_ble_eq_true rfl, by decide, by decide, by decide, by decide, by decide⟩ (And.intro ⟨Nat.le_of_ble_eq_true rfl, by decide, by decide, by decide, by decide, by decide⟩ (And.intro ⟨Nat.le_of_ble_eq_true rfl, by decide, by decide, by decide, by decide, by decide⟩ ((((((((h _ rfl) _ rfl) _ rfl) _ rfl) _ rfl) _ rfl) _ rfl)))))

def F_X6_copyFrom (mi : MI) (w : WS) (i : Nat) (i1 : Nat) : Option MI := lt (u3 (u3 mi 5 i 0 (mi 5 i1 0)) 5 i 1 ((u3 mi 5 i 0 (mi 5 i1 0)) 5 i1 1)) fun m17 => lt (u3 (u3 m17 5 i 2 (m17 5 i1 2)) 5 i 3 ((u3 m17 5 i 2 (m17 5 i1 2)) 5 i1 3)) fun m18 => lt (u2 m18 26 i (va_cpy (m18 26 i1) (m18 26 i) 0 0 6)) fun m19 => lt (u2 m19 27 i (va_cpy (m19 27 i1) (m19 27 i) 0 0 6)) fun m20 => lt (u2 m20 28 i (va_cpy (m20 28 i1) (m20 28 i) 0 0 6)) fun m21 => lt (u3 (u3 m21 5 i 7 (m21 5 i1 7)) 5 i 8 ((u3 m21 5 i 7 (m21 5 i1 7)) 5 i1 8)) fun m22 => lt (u3 (u3 m22 5 i 9 (m22 5 i1 9)) 5 i 10 ((u3 m22 5 i 9 (m22 5 i1 9)) 5 i1 10)) fun m23 => some m23

theorem s_X6_copyFrom {gl : Nat} {gx : Nat → Int32} {d : Nat} {P : PL} {Q : PO} {mi : MI} {w : WS} {lv : LV} {i : Nat} {i1 : Nat} {r : MI} (hf : F_X6_copyFrom mi w i i1 = some r) (h0 : Q aU (r, RS w, lv)) : Wp gl gx (d + 1) P 87 0 [aR 5 i, aR 5 i1] [] (mi, RS w, lv) Q := r_X6_copyFrom_0 (fun m17 hm17 => k_lt hf hm17 (fun q119 => fun m18 hm18 => k_lt q119 hm18 (fun q120 => fun m19 hm19 => k_lt q120 hm19 (fun q121 => fun m20 hm20 => k_lt q121 hm20 (fun q122 => fun m21 hm21 => k_lt q122 hm21 (fun q123 => fun m22 hm22 => k_lt q123 hm22 (fun q124 => fun m23 hm23 => k_lt q124 hm23 (fun q125 => o_rMV q125 h0))))))))

theorem r_X6_measure_29 {gl : Nat} {gx : Nat → Int32} {d : Nat} {P : PL} {Q : PO} {mi : MI} {w : WS} {lv : LV} {i : Nat} {x1 : Int32} (h : (((mi 5 i 1) ≤ x1) → (∀ m25 : MI, m25 = u3 mi 5 i 10 ((((mi 5 i 8) ||| (mi 5 i 9)) ||| (((1 : Int32) <<< ((mi 5 i 0) &&& 31)) - 1)) ||| ((((1 : Int32) <<< ((mi 5 i 0) &&& 31)) - 1) <<< ((((mi 5 i 1) - 1) * (mi 5 i 0)) &&& 31))) → Q aU (m25, RS w, lv))) ∧ (¬ ((mi 5 i 1) ≤ x1) → (∀ m26 : MI, m26 = u3 mi 5 i 8 ((mi 5 i 8) ||| ((1 : Int32) <<< ((x1 * (mi 5 i 0)) &&& 31))) → (∀ m27 : MI, m27 = u3 m26 5 i 9 ((m26 5 i 9) ||| ((1 : Int32) <<< ((((x1 * (m26 5 i 0)) + (m26 5 i 0)) - 1) &&& 31))) → Wp gl gx d P 88 29 [aR 5 i, aI (x1 + 1)] [] (m27, RS w, lv) Q)))) : Wp gl gx d P 88 29 [aR 5 i, aI x1] [] (mi, RS w, lv) Q := 
  wpT row_88 mt_88 [.iload_n 1, .aload_n 0, .getfield 15, .if_icmp .ge 50] (by decide +kernel) [(84, [.iconst 1, .aload_n 0, .getfield 9, .ishl, .iconst 1, .isub, .istore_n 1, .aload_n 0, .aload_n 0, .getfield 37, .aload_n 0, .getfield 40, .ior, .iload_n 1, .ior, .iload_n 1, .aload_n 0, .getfield 15, .iconst 1, .isub, .aload_n 0, .getfield 9, .imul, .ishl, .ior, .putfield 43]), (122, [.return_]), (37, [.aload_n 0, .dup, .getfield 37, .iconst 1, .iload_n 1, .aload_n 0, .getfield 9, .imul, .ishl, .ior, .putfield 37]), (54, [.aload_n 0, .dup, .getfield 40, .iconst 1, .iload_n 1, .aload_n 0, .getfield 9, .imul, .aload_n 0, .getfield 9, .iadd, .iconst 1, .isub, .ishl, .ior, .putfield 40]), (78, [.iinc 1 1, .goto (.negSucc 51)])] (by decide +kernel) 140 (And.intro (fun q126 => ((h.1 q126) _ rfl)) (fun q127 => (((h.2 q127) _ rfl) _ rfl)))

theorem r_X6_measure_0 {gl : Nat} {gx : Nat → Int32} {d : Nat} {P : PL} {Q : PO} {mi : MI} {w : WS} {lv : LV} {i : Nat} (h : (∀ m24 : MI, m24 = u3 mi 5 i 7 (((1 : Int32) <<< (((mi 5 i 0) * (mi 5 i 1)) &&& 31)) - 1) → Wp gl gx d P 88 29 [aR 5 i, aI 0] [] (u3 (u3 m24 5 i 8 0) 5 i 9 0, RS w, lv) Q)) : Wp gl gx d P 88 0 [aR 5 i, aU] [] (mi, RS w, lv) Q := 
  wpT row_88 mt_88 [.aload_n 0, .iconst 1, .aload_n 0, .getfield 9, .aload_n 0, .getfield 15, .imul, .ishl, .iconst 1, .isub, .putfield 34] (by decide +kernel) [(17, [.aload_n 0, .iconst 0, .putfield 37, .aload_n 0, .iconst 0, .putfield 40, .iconst 0, .istore_n 1])] (by decide +kernel) 58 ((h _ rfl))

def L_X6_measure_29 (w : WS) : Nat → MI → Nat → Int32 → Option MI
  | 0, _, _, _ => none
  | n + 1, mi, i, x1 => if (mi 5 i 1) ≤ x1 then lt (u3 mi 5 i 10 ((((mi 5 i 8) ||| (mi 5 i 9)) ||| (((1 : Int32) <<< ((mi 5 i 0) &&& 31)) - 1)) ||| ((((1 : Int32) <<< ((mi 5 i 0) &&& 31)) - 1) <<< ((((mi 5 i 1) - 1) * (mi 5 i 0)) &&& 31)))) fun m25 => some m25 else lt (u3 mi 5 i 8 ((mi 5 i 8) ||| ((1 : Int32) <<< ((x1 * (mi 5 i 0)) &&& 31)))) fun m26 => lt (u3 m26 5 i 9 ((m26 5 i 9) ||| ((1 : Int32) <<< ((((x1 * (m26 5 i 0)) + (m26 5 i 0)) - 1) &&& 31)))) fun m27 => L_X6_measure_29 w n m27 i (x1 + 1)

theorem l_X6_measure_29 {gl : Nat} {gx : Nat → Int32} {d : Nat} {P : PL} {Q : PO} {lv : LV} {w : WS} (n : Nat) : ∀ {mi : MI} {i : Nat} {x1 : Int32} {r : MI}, L_X6_measure_29 w n mi i x1 = some r → (Q aU (r, RS w, lv)) → Wp gl gx d P 88 29 [aR 5 i, aI x1] [] (mi, RS w, lv) Q := by
  induction n with
  | zero => intro mi i x1 r hf h0; exact o_none hf
  | succ n ih => intro mi i x1 r hf h0; exact r_X6_measure_29 (⟨fun q128 => k_ifp q128 hf (fun q130 => fun m25 hm25 => k_lt q130 hm25 (fun q131 => o_rMV q131 h0)), fun q129 => k_ifn q129 hf (fun q130 => fun m26 hm26 => k_lt q130 hm26 (fun q132 => fun m27 hm27 => k_lt q132 hm27 (fun q133 => ih q133 h0)))⟩)

def F_X6_measure (mi : MI) (w : WS) (i : Nat) : Option MI := lt (u3 mi 5 i 7 (((1 : Int32) <<< (((mi 5 i 0) * (mi 5 i 1)) &&& 31)) - 1)) fun m24 => L_X6_measure_29 w 1000000 (u3 (u3 m24 5 i 8 0) 5 i 9 0) i 0

theorem s_X6_measure {gl : Nat} {gx : Nat → Int32} {d : Nat} {P : PL} {Q : PO} {mi : MI} {w : WS} {lv : LV} {i : Nat} {r : MI} (hf : F_X6_measure mi w i = some r) (h0 : Q aU (r, RS w, lv)) : Wp gl gx d P 88 0 [aR 5 i, aU] [] (mi, RS w, lv) Q := r_X6_measure_0 (fun m24 hm24 => k_lt hf hm24 (fun q134 => l_X6_measure_29 1000000 q134 h0))

theorem r_X6_openSheets_2 {gl : Nat} {gx : Nat → Int32} {d : Nat} {P : PL} {Q : PO} {mi : MI} {w : WS} {lv : LV} {i : Nat} {x1 : Int32} (h : (((mi 5 i 3) ≤ x1) → Q aU (mi, RS w, lv)) ∧ (¬ ((mi 5 i 3) ≤ x1) → (vp_in x1 6) ∧ ((vp_in x1 6) ∧ ((∀ m28 : MI, m28 = u3 mi 28 i x1.toNatClampNeg (f_X6_opened mi i (mi 26 i x1.toNatClampNeg)) → Wp gl gx (d + 5) P 89 2 [aR 5 i, aI (x1 + 1)] [] (m28, RS w, lv) Q))))) : Wp gl gx (d + 5) P 89 2 [aR 5 i, aI x1] [] (mi, RS w, lv) Q := 
  wpT row_89 mt_89 [.iload_n 1, .aload_n 0, .getfield 21, .if_icmp .ge 25] (by decide +kernel) [(32, [.return_]), (10, [.aload_n 0, .getfield 31, .iload_n 1, .aload_n 0, .aload_n 0, .getfield 24, .iload_n 1, .iaload]), (22, [.invokevirtual 52]), (25, [.iastore]), (26, [.iinc 1 1, .goto (.negSucc 26)])] (by decide +kernel) 54 (And.intro (fun q135 => (h.1 q135)) (fun q136 => And.intro (h.2 q136).1 (And.intro ⟨Nat.le_of_ble_eq_true rfl, rfl, rfl⟩ (s_X6_opened (d := d) (And.intro (h.2 q136).2.1 (((h.2 q136).2.2 _ rfl)))))))

theorem r_X6_openSheets_0 {gl : Nat} {gx : Nat → Int32} {d : Nat} {P : PL} {Q : PO} {mi : MI} {w : WS} {lv : LV} {i : Nat} (h : Wp gl gx (d + 5) P 89 2 [aR 5 i, aI 0] [] (mi, RS w, lv) Q) : Wp gl gx (d + 5) P 89 0 [aR 5 i, aU] [] (mi, RS w, lv) Q := 
  wpT row_89 mt_89 [.iconst 0, .istore_n 1] (by decide +kernel) [] (by decide +kernel) 24 (h)

def L_X6_openSheets_2 (w : WS) : Nat → MI → Nat → Int32 → Option MI
  | 0, _, _, _ => none
  | n + 1, mi, i, x1 => if (mi 5 i 3) ≤ x1 then some mi else ck (¬ (x1 < 0 ∨ 6 ≤ x1.toNatClampNeg)) (ck (¬ (x1 < 0 ∨ 6 ≤ x1.toNatClampNeg)) (lt (u3 mi 28 i x1.toNatClampNeg (f_X6_opened mi i (mi 26 i x1.toNatClampNeg))) fun m28 => L_X6_openSheets_2 w n m28 i (x1 + 1)))

theorem l_X6_openSheets_2 {gl : Nat} {gx : Nat → Int32} {d : Nat} {P : PL} {Q : PO} {lv : LV} {w : WS} (n : Nat) : ∀ {mi : MI} {i : Nat} {x1 : Int32} {r : MI}, L_X6_openSheets_2 w n mi i x1 = some r → (Q aU (r, RS w, lv)) → Wp gl gx (d + 5) P 89 2 [aR 5 i, aI x1] [] (mi, RS w, lv) Q := by
  induction n with
  | zero => intro mi i x1 r hf h0; exact o_none hf
  | succ n ih => intro mi i x1 r hf h0; exact r_X6_openSheets_2 (⟨fun q137 => k_ifp q137 hf (fun q139 => o_rMV q139 h0), fun q138 => k_ifn q138 hf (fun q139 => k_ck q139 (fun q141 q140 => ⟨q141, k_ck q140 (fun q143 q142 => ⟨q143, fun m28 hm28 => k_lt q142 hm28 (fun q144 => ih q144 h0)⟩)⟩))⟩)

def F_X6_openSheets (mi : MI) (w : WS) (i : Nat) : Option MI := L_X6_openSheets_2 w 1000000 mi i 0

theorem s_X6_openSheets {gl : Nat} {gx : Nat → Int32} {d : Nat} {P : PL} {Q : PO} {mi : MI} {w : WS} {lv : LV} {i : Nat} {r : MI} (hf : F_X6_openSheets mi w i = some r) (h0 : Q aU (r, RS w, lv)) : Wp gl gx (d + 5) P 89 0 [aR 5 i, aU] [] (mi, RS w, lv) Q := r_X6_openSheets_0 (l_X6_openSheets_2 1000000 hf h0)

theorem r_X6_union_29 {gl : Nat} {gx : Nat → Int32} {d : Nat} {P : PL} {Q : PO} {mi : MI} {w : WS} {lv : LV} {i : Nat} {x1 : Int32} {x2 : Int32} {x3 : Int32} (h : Wp gl gx d P 95 4 [aR 5 i, aI x1, aI x2, aI (x3 + 1)] [] (mi, RS w, lv) Q) : Wp gl gx d P 95 29 [aR 5 i, aI x1, aI x2, aI x3] [] (mi, RS w, lv) Q := 
  wpT row_95 mt_95 [.iinc 3 1, .goto (.negSucc 27)] (by decide +kernel) [] (by decide +kernel) 24 (h)

theorem r_X6_union_4 {gl : Nat} {gx : Nat → Int32} {d : Nat} {P : PL} {Q : PO} {mi : MI} {w : WS} {lv : LV} {i : Nat} {x1 : Int32} {x2 : Int32} {x3 : Int32} (h : (((mi 5 i 3) ≤ x3) → Q (aI x2) (mi, RS w, lv)) ∧ (¬ ((mi 5 i 3) ≤ x3) → ((((x1 >>> (x3 &&& 31)) &&& 1) = 0) → Wp gl gx d P 95 4 [aR 5 i, aI x1, aI x2, aI (x3 + 1)] [] (mi, RS w, lv) Q) ∧ (¬ (((x1 >>> (x3 &&& 31)) &&& 1) = 0) → (vp_in x3 6) ∧ (Wp gl gx d P 95 4 [aR 5 i, aI x1, aI (x2 ||| (mi 28 i x3.toNatClampNeg)), aI (x3 + 1)] [] (mi, RS w, lv) Q)))) : Wp gl gx d P 95 4 [aR 5 i, aI x1, aI x2, aI x3] [] (mi, RS w, lv) Q := 
  wpT row_95 mt_95 [.iload_n 3, .aload_n 0, .getfield 21, .if_icmp .ge 26] (by decide +kernel) [(35, [.iload_n 2, .ireturn]), (12, [.iload_n 1, .iload_n 3, .ishr, .iconst 1, .iand, .ifCond .eq 12]), (20, [.iload_n 2, .aload_n 0, .getfield 31, .iload_n 3, .iaload]), (27, [.ior, .istore_n 2])] (by decide +kernel) 58 (And.intro (fun q145 => (h.1 q145)) (fun q146 => And.intro (fun q147 => r_X6_union_29 (i := i) (x1 := x1) (x2 := x2) (x3 := x3) (mi := mi) ((h.2 q146).1 q147)) (fun q148 => And.intro ((h.2 q146).2 q148).1 (r_X6_union_29 (i := i) (x1 := x1) (x2 := (x2 ||| (mi 28 i x3.toNatClampNeg))) (x3 := x3) (mi := mi) (((h.2 q146).2 q148).2)))))

theorem r_X6_union_0 {gl : Nat} {gx : Nat → Int32} {d : Nat} {P : PL} {Q : PO} {mi : MI} {w : WS} {lv : LV} {i : Nat} {x1 : Int32} (h : Wp gl gx d P 95 4 [aR 5 i, aI x1, aI 0, aI 0] [] (mi, RS w, lv) Q) : Wp gl gx d P 95 0 [aR 5 i, aI x1, aU, aU] [] (mi, RS w, lv) Q := 
  wpT row_95 mt_95 [.iconst 0, .istore_n 2, .iconst 0, .istore_n 3] (by decide +kernel) [] (by decide +kernel) 28 (h)

def L_X6_union_4 (mi : MI) (w : WS) : Nat → Nat → Int32 → Int32 → Int32 → Option Int32
  | 0, _, _, _, _ => none
  | n + 1, i, x1, x2, x3 => if (mi 5 i 3) ≤ x3 then some x2 else if ((x1 >>> (x3 &&& 31)) &&& 1) = 0 then L_X6_union_4 mi w n i x1 x2 (x3 + 1) else ck (¬ (x3 < 0 ∨ 6 ≤ x3.toNatClampNeg)) (L_X6_union_4 mi w n i x1 (x2 ||| (mi 28 i x3.toNatClampNeg)) (x3 + 1))

theorem l_X6_union_4 {gl : Nat} {gx : Nat → Int32} {d : Nat} {P : PL} {Q : PO} {lv : LV} {mi : MI} {w : WS} (n : Nat) : ∀ {i : Nat} {x1 : Int32} {x2 : Int32} {x3 : Int32} {r : Int32}, L_X6_union_4 mi w n i x1 x2 x3 = some r → (Q (aI r) (mi, RS w, lv)) → Wp gl gx d P 95 4 [aR 5 i, aI x1, aI x2, aI x3] [] (mi, RS w, lv) Q := by
  induction n with
  | zero => intro i x1 x2 x3 r hf h0; exact o_none hf
  | succ n ih => intro i x1 x2 x3 r hf h0; exact r_X6_union_4 (⟨fun q149 => k_ifp q149 hf (fun q151 => o_rP q151 h0), fun q150 => k_ifn q150 hf (fun q151 => ⟨fun q152 => k_ifp q152 q151 (fun q154 => ih q154 h0), fun q153 => k_ifn q153 q151 (fun q154 => k_ck q154 (fun q156 q155 => ⟨q156, ih q155 h0⟩))⟩)⟩)

def F_X6_union (mi : MI) (w : WS) (i : Nat) (x1 : Int32) : Option Int32 := L_X6_union_4 mi w 1000000 i x1 0 0

theorem s_X6_union {gl : Nat} {gx : Nat → Int32} {d : Nat} {P : PL} {Q : PO} {mi : MI} {w : WS} {lv : LV} {i : Nat} {x1 : Int32} {r : Int32} (hf : F_X6_union mi w i x1 = some r) (h0 : Q (aI r) (mi, RS w, lv)) : Wp gl gx d P 95 0 [aR 5 i, aI x1, aU, aU] [] (mi, RS w, lv) Q := r_X6_union_0 (l_X6_union_4 1000000 hf h0)

theorem r_X6_slid_35 {gl : Nat} {gx : Nat → Int32} {d : Nat} {P : PL} {Q : PO} {mi : MI} {w : WS} {lv : LV} {i : Nat} {x1 : Int32} {x2 : Int32} {x3 : Int32} {x4 : Int32} {x5 : Int32} (h : ((x3 ≤ x5) → Q (aI x4) (mi, RS w, lv)) ∧ (¬ (x3 ≤ x5) → ((5 ≤ x5) → Q (aI x4) (mi, RS w, lv)) ∧ (¬ (5 ≤ x5) → Wp gl gx (d + 1) P 101 35 [aR 5 i, aI x1, aI x2, aI x3, aI ((x4 <<< ((mi 5 i 0) &&& 31)) &&& (mi 5 i 7)), aI (x5 + 1)] [] (mi, RS w, lv) Q))) : Wp gl gx (d + 1) P 101 35 [aR 5 i, aI x1, aI x2, aI x3, aI x4, aI x5] [] (mi, RS w, lv) Q := 
  wpT row_101 mt_101 [.iload 5, .iload_n 3, .if_icmp .ge 29] (by decide +kernel) [(67, [.iload 4, .ireturn]), (41, [.iload 5, .iconst 5, .if_icmp .ge 23]), (47, [.iload 4, .aload_n 0, .getfield 9, .ishl, .aload_n 0, .getfield 34, .iand, .istore 4, .iinc 5 1, .goto (.negSucc 28)])] (by decide +kernel) 56 (And.intro (fun q157 => (h.1 q157)) (fun q158 => And.intro (fun q159 => ((h.2 q158).1 q159)) (fun q160 => ((h.2 q158).2 q160))))

theorem r_X6_slid_32 {gl : Nat} {gx : Nat → Int32} {d : Nat} {P : PL} {Q : PO} {mi : MI} {w : WS} {lv : LV} {i : Nat} {x1 : Int32} {x2 : Int32} {x3 : Int32} {x4 : Int32} {x5 : Int32} (h : Wp gl gx (d + 1) P 101 35 [aR 5 i, aI x1, aI x2, aI x3, aI x4, aI 0] [] (mi, RS w, lv) Q) : Wp gl gx (d + 1) P 101 32 [aR 5 i, aI x1, aI x2, aI x3, aI x4, aI x5] [] (mi, RS w, lv) Q := 
  wpT row_101 mt_101 [.iconst 0, .istore 5] (by decide +kernel) [] (by decide +kernel) 24 (h)

theorem r_X6_slid_6 {gl : Nat} {gx : Nat → Int32} {d : Nat} {P : PL} {Q : PO} {mi : MI} {w : WS} {lv : LV} {i : Nat} {x1 : Int32} {x2 : Int32} {x3 : Int32} {x4 : Int32} {x5 : Int32} (h : ((x2 ≤ x5) → Wp gl gx (d + 1) P 101 35 [aR 5 i, aI x1, aI x2, aI x3, aI x4, aI 0] [] (mi, RS w, lv) Q) ∧ (¬ (x2 ≤ x5) → ((5 ≤ x5) → Wp gl gx (d + 1) P 101 35 [aR 5 i, aI x1, aI x2, aI x3, aI x4, aI 0] [] (mi, RS w, lv) Q) ∧ (¬ (5 ≤ x5) → Wp gl gx (d + 1) P 101 6 [aR 5 i, aI x1, aI x2, aI x3, aI (f_X6_toRight mi i x4), aI (x5 + 1)] [] (mi, RS w, lv) Q))) : Wp gl gx (d + 1) P 101 6 [aR 5 i, aI x1, aI x2, aI x3, aI x4, aI x5] [] (mi, RS w, lv) Q := 
  wpT row_101 mt_101 [.iload 5, .iload_n 2, .if_icmp .ge 23] (by decide +kernel) [(12, [.iload 5, .iconst 5, .if_icmp .ge 17]), (18, [.aload_n 0, .iload 4, .invokevirtual 56]), (24, [.istore 4, .iinc 5 1, .goto (.negSucc 22)])] (by decide +kernel) 44 (And.intro (fun q161 => r_X6_slid_32 (i := i) (x1 := x1) (x2 := x2) (x3 := x3) (x4 := x4) (x5 := x5) (mi := mi) (h.1 q161)) (fun q162 => And.intro (fun q163 => r_X6_slid_32 (i := i) (x1 := x1) (x2 := x2) (x3 := x3) (x4 := x4) (x5 := x5) (mi := mi) ((h.2 q162).1 q163)) (fun q164 => And.intro ⟨Nat.le_of_ble_eq_true rfl, rfl, rfl⟩ (s_X6_toRight (d := d) (((h.2 q162).2 q164))))))

theorem r_X6_slid_0 {gl : Nat} {gx : Nat → Int32} {d : Nat} {P : PL} {Q : PO} {mi : MI} {w : WS} {lv : LV} {i : Nat} {x1 : Int32} {x2 : Int32} {x3 : Int32} (h : Wp gl gx (d + 1) P 101 6 [aR 5 i, aI x1, aI x2, aI x3, aI x1, aI 0] [] (mi, RS w, lv) Q) : Wp gl gx (d + 1) P 101 0 [aR 5 i, aI x1, aI x2, aI x3, aU, aU] [] (mi, RS w, lv) Q := 
  wpT row_101 mt_101 [.iload_n 1, .istore 4, .iconst 0, .istore 5] (by decide +kernel) [] (by decide +kernel) 28 (h)

def L_X6_slid_35 (mi : MI) (w : WS) : Nat → Nat → Int32 → Int32 → Int32 → Int32 → Int32 → Option Int32
  | 0, _, _, _, _, _, _ => none
  | n + 1, i, x1, x2, x3, x4, x5 => if x3 ≤ x5 then some x4 else if 5 ≤ x5 then some x4 else L_X6_slid_35 mi w n i x1 x2 x3 ((x4 <<< ((mi 5 i 0) &&& 31)) &&& (mi 5 i 7)) (x5 + 1)

theorem l_X6_slid_35 {gl : Nat} {gx : Nat → Int32} {d : Nat} {P : PL} {Q : PO} {lv : LV} {mi : MI} {w : WS} (n : Nat) : ∀ {i : Nat} {x1 : Int32} {x2 : Int32} {x3 : Int32} {x4 : Int32} {x5 : Int32} {r : Int32}, L_X6_slid_35 mi w n i x1 x2 x3 x4 x5 = some r → (Q (aI r) (mi, RS w, lv)) → Wp gl gx (d + 1) P 101 35 [aR 5 i, aI x1, aI x2, aI x3, aI x4, aI x5] [] (mi, RS w, lv) Q := by
  induction n with
  | zero => intro i x1 x2 x3 x4 x5 r hf h0; exact o_none hf
  | succ n ih => intro i x1 x2 x3 x4 x5 r hf h0; exact r_X6_slid_35 (⟨fun q165 => k_ifp q165 hf (fun q167 => o_rP q167 h0), fun q166 => k_ifn q166 hf (fun q167 => ⟨fun q168 => k_ifp q168 q167 (fun q170 => o_rP q170 h0), fun q169 => k_ifn q169 q167 (fun q170 => ih q170 h0)⟩)⟩)

def L_X6_slid_6 (mi : MI) (w : WS) : Nat → Nat → Int32 → Int32 → Int32 → Int32 → Int32 → Option Int32
  | 0, _, _, _, _, _, _ => none
  | n + 1, i, x1, x2, x3, x4, x5 => if x2 ≤ x5 then L_X6_slid_35 mi w 1000000 i x1 x2 x3 x4 0 else if 5 ≤ x5 then L_X6_slid_35 mi w 1000000 i x1 x2 x3 x4 0 else L_X6_slid_6 mi w n i x1 x2 x3 (f_X6_toRight mi i x4) (x5 + 1)

theorem l_X6_slid_6 {gl : Nat} {gx : Nat → Int32} {d : Nat} {P : PL} {Q : PO} {lv : LV} {mi : MI} {w : WS} (n : Nat) : ∀ {i : Nat} {x1 : Int32} {x2 : Int32} {x3 : Int32} {x4 : Int32} {x5 : Int32} {r : Int32}, L_X6_slid_6 mi w n i x1 x2 x3 x4 x5 = some r → (Q (aI r) (mi, RS w, lv)) → Wp gl gx (d + 1) P 101 6 [aR 5 i, aI x1, aI x2, aI x3, aI x4, aI x5] [] (mi, RS w, lv) Q := by
  induction n with
  | zero => intro i x1 x2 x3 x4 x5 r hf h0; exact o_none hf
  | succ n ih => intro i x1 x2 x3 x4 x5 r hf h0; exact r_X6_slid_6 (⟨fun q171 => k_ifp q171 hf (fun q173 => l_X6_slid_35 1000000 q173 h0), fun q172 => k_ifn q172 hf (fun q173 => ⟨fun q174 => k_ifp q174 q173 (fun q176 => l_X6_slid_35 1000000 q176 h0), fun q175 => k_ifn q175 q173 (fun q176 => ih q176 h0)⟩)⟩)

def F_X6_slid (mi : MI) (w : WS) (i : Nat) (x1 : Int32) (x2 : Int32) (x3 : Int32) : Option Int32 := L_X6_slid_6 mi w 1000000 i x1 x2 x3 x1 0

theorem s_X6_slid {gl : Nat} {gx : Nat → Int32} {d : Nat} {P : PL} {Q : PO} {mi : MI} {w : WS} {lv : LV} {i : Nat} {x1 : Int32} {x2 : Int32} {x3 : Int32} {r : Int32} (hf : F_X6_slid mi w i x1 x2 x3 = some r) (h0 : Q (aI r) (mi, RS w, lv)) : Wp gl gx (d + 1) P 101 0 [aR 5 i, aI x1, aI x2, aI x3, aU, aU] [] (mi, RS w, lv) Q := r_X6_slid_0 (l_X6_slid_6 1000000 hf h0)

theorem r_X6_flipped_15 {gl : Nat} {gx : Nat → Int32} {d : Nat} {P : PL} {Q : PO} {mi : MI} {w : WS} {lv : LV} {i : Nat} {x1 : Int32} {x2 : Int32} {x3 : Int32} {x4 : Int32} {v5 : AV} (h : (((mi 5 i 0) ≤ x4) → Wp gl gx d P 102 4 [aR 5 i, aI x1, aI x2, aI (x3 + 1), aI x4, v5] [] (mi, RS w, lv) Q) ∧ (¬ ((mi 5 i 0) ≤ x4) → Wp gl gx d P 102 15 [aR 5 i, aI x1, aI (x2 ||| (((x1 >>> (((x3 * (mi 5 i 0)) + x4) &&& 31)) &&& 1) <<< (((((x3 * (mi 5 i 0)) + (mi 5 i 0)) - 1) - x4) &&& 31))), aI x3, aI (x4 + 1), aI ((x1 >>> (((x3 * (mi 5 i 0)) + x4) &&& 31)) &&& 1)] [] (mi, RS w, lv) Q)) : Wp gl gx d P 102 15 [aR 5 i, aI x1, aI x2, aI x3, aI x4, v5] [] (mi, RS w, lv) Q := 
  wpT row_102 mt_102 [.iload 4, .aload_n 0, .getfield 9, .if_icmp .ge 46] (by decide +kernel) [(67, [.iinc 3 1, .goto (.negSucc 65)]), (24, [.iload_n 1, .iload_n 3, .aload_n 0, .getfield 9, .imul, .iload 4, .iadd, .ishr, .iconst 1, .iand, .istore 5, .iload_n 2, .iload 5, .iload_n 3, .aload_n 0, .getfield 9, .imul, .aload_n 0, .getfield 9, .iadd, .iconst 1, .isub, .iload 4, .isub, .ishl, .ior, .istore_n 2, .iinc 4 1, .goto (.negSucc 48)])] (by decide +kernel) 90 (And.intro (fun q177 => (h.1 q177)) (fun q178 => (h.2 q178)))

theorem r_X6_flipped_4 {gl : Nat} {gx : Nat → Int32} {d : Nat} {P : PL} {Q : PO} {mi : MI} {w : WS} {lv : LV} {i : Nat} {x1 : Int32} {x2 : Int32} {x3 : Int32} {v4 : AV} {v5 : AV} (h : (((mi 5 i 1) ≤ x3) → Q (aI x2) (mi, RS w, lv)) ∧ (¬ ((mi 5 i 1) ≤ x3) → Wp gl gx d P 102 15 [aR 5 i, aI x1, aI x2, aI x3, aI 0, v5] [] (mi, RS w, lv) Q)) : Wp gl gx d P 102 4 [aR 5 i, aI x1, aI x2, aI x3, v4, v5] [] (mi, RS w, lv) Q := 
  wpT row_102 mt_102 [.iload_n 3, .aload_n 0, .getfield 15, .if_icmp .ge 64] (by decide +kernel) [(73, [.iload_n 2, .ireturn]), (12, [.iconst 0, .istore 4])] (by decide +kernel) 36 (And.intro (fun q179 => (h.1 q179)) (fun q180 => (h.2 q180)))

theorem r_X6_flipped_0 {gl : Nat} {gx : Nat → Int32} {d : Nat} {P : PL} {Q : PO} {mi : MI} {w : WS} {lv : LV} {i : Nat} {x1 : Int32} (h : Wp gl gx d P 102 4 [aR 5 i, aI x1, aI 0, aI 0, aU, aU] [] (mi, RS w, lv) Q) : Wp gl gx d P 102 0 [aR 5 i, aI x1, aU, aU, aU, aU] [] (mi, RS w, lv) Q := 
  wpT row_102 mt_102 [.iconst 0, .istore_n 2, .iconst 0, .istore_n 3] (by decide +kernel) [] (by decide +kernel) 28 (h)

def L_X6_flipped_15 (mi : MI) (w : WS) (k4 : Nat → Int32 → Int32 → Int32 → Option Int32) : Nat → Nat → Int32 → Int32 → Int32 → Int32 → Option Int32
  | 0, _, _, _, _, _ => none
  | n + 1, i, x1, x2, x3, x4 => if (mi 5 i 0) ≤ x4 then k4 i x1 x2 (x3 + 1) else L_X6_flipped_15 mi w k4 n i x1 (x2 ||| (((x1 >>> (((x3 * (mi 5 i 0)) + x4) &&& 31)) &&& 1) <<< (((((x3 * (mi 5 i 0)) + (mi 5 i 0)) - 1) - x4) &&& 31))) x3 (x4 + 1)

theorem l_X6_flipped_15 {gl : Nat} {gx : Nat → Int32} {d : Nat} {P : PL} {Q : PO} {lv : LV} {mi : MI} {w : WS} {k4 : Nat → Int32 → Int32 → Int32 → Option Int32} (hk4 : ∀ {i : Nat} {x1 : Int32} {x2 : Int32} {x3 : Int32} {v4 : AV} {v5 : AV} {r : Int32}, k4 i x1 x2 x3 = some r → (Q (aI r) (mi, RS w, lv)) → Wp gl gx d P 102 4 [aR 5 i, aI x1, aI x2, aI x3, v4, v5] [] (mi, RS w, lv) Q) (n : Nat) : ∀ {i : Nat} {x1 : Int32} {x2 : Int32} {x3 : Int32} {x4 : Int32} {v5 : AV} {r : Int32}, L_X6_flipped_15 mi w k4 n i x1 x2 x3 x4 = some r → (Q (aI r) (mi, RS w, lv)) → Wp gl gx d P 102 15 [aR 5 i, aI x1, aI x2, aI x3, aI x4, v5] [] (mi, RS w, lv) Q := by
  induction n with
  | zero => intro i x1 x2 x3 x4 v5 r hf h0; exact o_none hf
  | succ n ih => intro i x1 x2 x3 x4 v5 r hf h0; exact r_X6_flipped_15 (⟨fun q181 => k_ifp q181 hf (fun q183 => hk4 q183 h0), fun q182 => k_ifn q182 hf (fun q183 => ih q183 h0)⟩)

def L_X6_flipped_4 (mi : MI) (w : WS) : Nat → Nat → Int32 → Int32 → Int32 → Option Int32
  | 0, _, _, _, _ => none
  | n + 1, i, x1, x2, x3 => if (mi 5 i 1) ≤ x3 then some x2 else L_X6_flipped_15 mi w (fun i x1 x2 x3 => L_X6_flipped_4 mi w n i x1 x2 x3) 1000000 i x1 x2 x3 0

theorem l_X6_flipped_4 {gl : Nat} {gx : Nat → Int32} {d : Nat} {P : PL} {Q : PO} {lv : LV} {mi : MI} {w : WS} (n : Nat) : ∀ {i : Nat} {x1 : Int32} {x2 : Int32} {x3 : Int32} {v4 : AV} {v5 : AV} {r : Int32}, L_X6_flipped_4 mi w n i x1 x2 x3 = some r → (Q (aI r) (mi, RS w, lv)) → Wp gl gx d P 102 4 [aR 5 i, aI x1, aI x2, aI x3, v4, v5] [] (mi, RS w, lv) Q := by
  induction n with
  | zero => intro i x1 x2 x3 v4 v5 r hf h0; exact o_none hf
  | succ n ih => intro i x1 x2 x3 v4 v5 r hf h0; exact r_X6_flipped_4 (⟨fun q184 => k_ifp q184 hf (fun q186 => o_rP q186 h0), fun q185 => k_ifn q185 hf (fun q186 => l_X6_flipped_15 (fun hf h0 => ih hf h0) 1000000 q186 h0)⟩)

def F_X6_flipped (mi : MI) (w : WS) (i : Nat) (x1 : Int32) : Option Int32 := L_X6_flipped_4 mi w 1000000 i x1 0 0

theorem s_X6_flipped {gl : Nat} {gx : Nat → Int32} {d : Nat} {P : PL} {Q : PO} {mi : MI} {w : WS} {lv : LV} {i : Nat} {x1 : Int32} {r : Int32} (hf : F_X6_flipped mi w i x1 = some r) (h0 : Q (aI r) (mi, RS w, lv)) : Wp gl gx d P 102 0 [aR 5 i, aI x1, aU, aU, aU, aU] [] (mi, RS w, lv) Q := r_X6_flipped_0 (l_X6_flipped_4 1000000 hf h0)

theorem r_X6_turned_17 {gl : Nat} {gx : Nat → Int32} {d : Nat} {P : PL} {Q : PO} {mi : MI} {w : WS} {lv : LV} {i : Nat} {x1 : Int32} {x2 : Int32} {x3 : Int32} {x4 : Int32} (h : ((x2 < x4) → Q (aI x3) (mi, RS w, lv)) ∧ (¬ (x2 < x4) → Wp gl gx d P 103 17 [aR 5 i, aI x1, aI x2, aI (x3 ||| (((x1 >>> (x4 &&& 31)) &&& 1) <<< ((x2 - x4) &&& 31))), aI (x4 + 1)] [] (mi, RS w, lv) Q)) : Wp gl gx d P 103 17 [aR 5 i, aI x1, aI x2, aI x3, aI x4] [] (mi, RS w, lv) Q := 
  wpT row_103 mt_103 [.iload 4, .iload_n 2, .if_icmp .gt 23] (by decide +kernel) [(43, [.iload_n 3, .ireturn]), (23, [.iload_n 3, .iload_n 1, .iload 4, .ishr, .iconst 1, .iand, .iload_n 2, .iload 4, .isub, .ishl, .ior, .istore_n 3, .iinc 4 1, .goto (.negSucc 22)])] (by decide +kernel) 58 (And.intro (fun q187 => (h.1 q187)) (fun q188 => (h.2 q188)))

theorem r_X6_turned_0 {gl : Nat} {gx : Nat → Int32} {d : Nat} {P : PL} {Q : PO} {mi : MI} {w : WS} {lv : LV} {i : Nat} {x1 : Int32} (h : Wp gl gx d P 103 17 [aR 5 i, aI x1, aI (((mi 5 i 0) * (mi 5 i 1)) - 1), aI 0, aI 0] [] (mi, RS w, lv) Q) : Wp gl gx d P 103 0 [aR 5 i, aI x1, aU, aU, aU] [] (mi, RS w, lv) Q := 
  wpT row_103 mt_103 [.aload_n 0, .getfield 9, .aload_n 0, .getfield 15, .imul, .iconst 1, .isub, .istore_n 2, .iconst 0, .istore_n 3, .iconst 0, .istore 4] (by decide +kernel) [] (by decide +kernel) 44 (h)

def L_X6_turned_17 (mi : MI) (w : WS) : Nat → Nat → Int32 → Int32 → Int32 → Int32 → Option Int32
  | 0, _, _, _, _, _ => none
  | n + 1, i, x1, x2, x3, x4 => if x2 < x4 then some x3 else L_X6_turned_17 mi w n i x1 x2 (x3 ||| (((x1 >>> (x4 &&& 31)) &&& 1) <<< ((x2 - x4) &&& 31))) (x4 + 1)

theorem l_X6_turned_17 {gl : Nat} {gx : Nat → Int32} {d : Nat} {P : PL} {Q : PO} {lv : LV} {mi : MI} {w : WS} (n : Nat) : ∀ {i : Nat} {x1 : Int32} {x2 : Int32} {x3 : Int32} {x4 : Int32} {r : Int32}, L_X6_turned_17 mi w n i x1 x2 x3 x4 = some r → (Q (aI r) (mi, RS w, lv)) → Wp gl gx d P 103 17 [aR 5 i, aI x1, aI x2, aI x3, aI x4] [] (mi, RS w, lv) Q := by
  induction n with
  | zero => intro i x1 x2 x3 x4 r hf h0; exact o_none hf
  | succ n ih => intro i x1 x2 x3 x4 r hf h0; exact r_X6_turned_17 (⟨fun q189 => k_ifp q189 hf (fun q191 => o_rP q191 h0), fun q190 => k_ifn q190 hf (fun q191 => ih q191 h0)⟩)

def F_X6_turned (mi : MI) (w : WS) (i : Nat) (x1 : Int32) : Option Int32 := L_X6_turned_17 mi w 1000000 i x1 (((mi 5 i 0) * (mi 5 i 1)) - 1) 0 0

theorem s_X6_turned {gl : Nat} {gx : Nat → Int32} {d : Nat} {P : PL} {Q : PO} {mi : MI} {w : WS} {lv : LV} {i : Nat} {x1 : Int32} {r : Int32} (hf : F_X6_turned mi w i x1 = some r) (h0 : Q (aI r) (mi, RS w, lv)) : Wp gl gx d P 103 0 [aR 5 i, aI x1, aU, aU, aU] [] (mi, RS w, lv) Q := r_X6_turned_0 (l_X6_turned_17 1000000 hf h0)

theorem r_X6_tellSheet_0 {gl : Nat} {gx : Nat → Int32} {d : Nat} {P : PL} {Q : PO} {mi : MI} {w : WS} {lv : LV} {i : Nat} {x1 : Int32} (h : ((x1 < 10) → Q (aI (-1)) (mi, RS w, lv)) ∧ (¬ (x1 < 10) → ((50 ≤ x1) → Q (aI (-1)) (mi, RS w, lv)) ∧ (¬ (50 ≤ x1) → (¬ ((irem x1 10) < 0) ∧ (¬ ((mi 5 i 3) ≤ (irem x1 10)) ∧ (¬ (6 ≤ (irem x1 10)))) → (x1 / 10 < 1 ∨ 3 < x1 / 10 → (vp_in (irem x1 10) 6) ∧ (Q (aI (mi 27 i ((irem x1 10).toNatClampNeg))) (mi, RS w, lv))) ∧ (x1 / 10 = 1 → (vp_in (irem x1 10) 6) ∧ (Q (aI (mi 26 i ((irem x1 10).toNatClampNeg))) (mi, RS w, lv))) ∧ (x1 / 10 = 2 → (vp_in (irem x1 10) 6) ∧ (Q (aI (f_X6_falling mi i (mi 26 i ((irem x1 10).toNatClampNeg)))) (mi, RS w, lv))) ∧ (x1 / 10 = 3 → (vp_in (irem x1 10) 6) ∧ (Q (aI (mi 28 i ((irem x1 10).toNatClampNeg))) (mi, RS w, lv)))) ∧ (¬ (¬ ((irem x1 10) < 0) ∧ (¬ ((mi 5 i 3) ≤ (irem x1 10)) ∧ (¬ (6 ≤ (irem x1 10))))) → Q (aI (-1)) (mi, RS w, lv))))) : Wp gl gx (d + 4) P 104 0 [aR 5 i, aI x1, aU] [] (mi, RS w, lv) Q := 
  wpT row_104 mt_104 [.iload_n 1, .bipush 10, .irem] (by decide +kernel) [(4, [.istore_n 2, .iload_n 1, .bipush 10, .if_icmp .lt 17]), (25, [.iconst (.negSucc 0), .ireturn]), (11, [.iload_n 1, .bipush 50, .if_icmp .ge 11]), (17, [.aload_n 0, .iload_n 2, .invokevirtual 69]), (22, [.ifCond .ne 5]), (27, [.iload_n 1, .bipush 10, .idiv]), (31, [.tableswitch 50 1 3 #[25, 32, 43]]), (81, [.aload_n 0, .getfield 28, .iload_n 2, .iaload]), (87, [.ireturn]), (56, [.aload_n 0, .getfield 24, .iload_n 2, .iaload]), (62, [.ireturn]), (63, [.aload_n 0, .aload_n 0, .getfield 24, .iload_n 2, .iaload]), (70, [.invokevirtual 66]), (73, [.ireturn]), (74, [.aload_n 0, .getfield 31, .iload_n 2, .iaload]), (80, [.ireturn])] (by decide +kernel) 104 (And.intro (by decide) (And.intro (fun q192 => (h.1 q192)) (fun q193 => And.intro (fun q194 => ((h.2 q193).1 q194)) (fun q195 => And.intro ⟨Nat.le_of_ble_eq_true rfl, rfl, rfl⟩ (s_X6_hasSheet (d := d + 3) (And.intro (fun q196 => And.intro (by decide) (And.intro (fun q201 => And.intro ((((h.2 q193).2 q195).1 (b2_n q196)).1 q201).1 (((((h.2 q193).2 q195).1 (b2_n q196)).1 q201).2)) (And.intro (fun q200 => And.intro ((((h.2 q193).2 q195).1 (b2_n q196)).2.1 q200).1 (((((h.2 q193).2 q195).1 (b2_n q196)).2.1 q200).2)) (And.intro (fun q199 => And.intro ((((h.2 q193).2 q195).1 (b2_n q196)).2.2.1 q199).1 (And.intro ⟨Nat.le_of_ble_eq_true rfl, rfl, rfl⟩ (s_X6_falling (d := d) (((((h.2 q193).2 q195).1 (b2_n q196)).2.2.1 q199).2)))) (And.intro (fun q198 => And.intro ((((h.2 q193).2 q195).1 (b2_n q196)).2.2.2 q198).1 (((((h.2 q193).2 q195).1 (b2_n q196)).2.2.2 q198).2)) (trivial)))))) (fun q197 => (((h.2 q193).2 q195).2 (b2_0 q197)))))))))

def F_X6_tellSheet (mi : MI) (w : WS) (i : Nat) (x1 : Int32) : Option Int32 := if x1 < 10 then some (-1 : Int32) else if 50 ≤ x1 then some (-1 : Int32) else if ¬ ((irem x1 10) < 0) ∧ (¬ ((mi 5 i 3) ≤ (irem x1 10)) ∧ (¬ (6 ≤ (irem x1 10)))) then if x1 / 10 = 1 then ck (¬ ((irem x1 10) < 0 ∨ 6 ≤ (irem x1 10).toNatClampNeg)) (some (mi 26 i ((irem x1 10).toNatClampNeg))) else if x1 / 10 = 2 then ck (¬ ((irem x1 10) < 0 ∨ 6 ≤ (irem x1 10).toNatClampNeg)) (some (f_X6_falling mi i (mi 26 i ((irem x1 10).toNatClampNeg)))) else if x1 / 10 = 3 then ck (¬ ((irem x1 10) < 0 ∨ 6 ≤ (irem x1 10).toNatClampNeg)) (some (mi 28 i ((irem x1 10).toNatClampNeg))) else ck (¬ ((irem x1 10) < 0 ∨ 6 ≤ (irem x1 10).toNatClampNeg)) (some (mi 27 i ((irem x1 10).toNatClampNeg))) else some (-1 : Int32)

theorem s_X6_tellSheet {gl : Nat} {gx : Nat → Int32} {d : Nat} {P : PL} {Q : PO} {mi : MI} {w : WS} {lv : LV} {i : Nat} {x1 : Int32} {r : Int32} (hf : F_X6_tellSheet mi w i x1 = some r) (h0 : Q (aI r) (mi, RS w, lv)) : Wp gl gx (d + 4) P 104 0 [aR 5 i, aI x1, aU] [] (mi, RS w, lv) Q := r_X6_tellSheet_0 (⟨fun q202 => k_ifp q202 hf (fun q204 => o_rP q204 h0), fun q203 => k_ifn q203 hf (fun q204 => ⟨fun q205 => k_ifp q205 q204 (fun q207 => o_rP q207 h0), fun q206 => k_ifn q206 q204 (fun q207 => ⟨fun q208 => k_ifp q208 q207 (fun q210 => ⟨(fun q211 => k_ifn (sw_o q211 (by decide) (by decide)) q210 (fun q212 => k_ifn (sw_o q211 (by decide) (by decide)) q212 (fun q213 => k_ifn (sw_o q211 (by decide) (by decide)) q213 (fun q214 => k_ck q214 (fun q216 q215 => ⟨q216, o_rP q215 h0⟩))))), (fun q217 => k_ifp q217 q210 (fun q218 => k_ck q218 (fun q220 q219 => ⟨q220, o_rP q219 h0⟩))), (fun q221 => k_ifn (sw_n q221 (by decide)) q210 (fun q222 => k_ifp q221 q222 (fun q223 => k_ck q223 (fun q225 q224 => ⟨q225, o_rP q224 h0⟩)))), (fun q226 => k_ifn (sw_n q226 (by decide)) q210 (fun q227 => k_ifn (sw_n q226 (by decide)) q227 (fun q228 => k_ifp q226 q228 (fun q229 => k_ck q229 (fun q231 q230 => ⟨q231, o_rP q230 h0⟩)))))⟩), fun q209 => k_ifn q209 q207 (fun q210 => o_rP q210 h0)⟩)⟩)⟩)
end
section
/-! METHODS AS FUNCTIONS (3) -/
abbrev row_110 : MT := (⟨"StencilHouse$Tokens", "isWord", "(Ljava/lang/String;)Z"⟩, prog_9_method_6_code, 3, some .boolean, 1, lk_7)
set_option maxRecDepth 20000 in
theorem mt_110 : mt 110 = some row_110 := rfl
theorem r_X7_isWord_27 {gl : Nat} {gx : Nat → Int32} {d : Nat} {P : PL} {Q : PO} {mi : MI} {w : WS} {lv : LV} {i1 : Nat} {x2 : Int32} (hw : w.2.1 = true) (h : (((f_J0_length_8abf5 mi i1) ≤ x2) → Q (aI 1) (mi, RS w, lv)) ∧ (¬ ((f_J0_length_8abf5 mi i1) ≤ x2) → (vp_in ((mi 6 0 4) + x2) 600) ∧ ((∃ c29 : Int32, F_J0_charAt_5068e mi w i1 x2 = some c29 ∧ (((mi 20 0 (((mi 6 0 4) + x2).toNatClampNeg)) = c29) → Wp gl gx (d + 4) P 110 27 [aR 6 0, aR 16 i1, aI (x2 + 1)] [] (mi, RS w, lv) Q) ∧ (¬ ((mi 20 0 (((mi 6 0 4) + x2).toNatClampNeg)) = c29) → Q (aI 0) (mi, RS w, lv)))))) : Wp gl gx (d + 4) P 110 27 [aR 6 0, aR 16 i1, aI x2] [] (mi, RS w, lv) Q := by
  obtain ⟨w1, w2, w3⟩ := w
  have hw2 : w2 = true := hw
  subst hw2
  let w : WS := (w1, true, w3)
  exact wpT row_110 mt_110 [.iload_n 2, .aload_n 1, .invokevirtual 54] (by decide +kernel) [(32, [.if_icmp .ge 30]), (62, [.iconst 1, .ireturn]), (35, [.aload_n 0, .getfield 7, .aload_n 0, .getfield 23, .iload_n 2, .iadd, .iaload]), (46, [.aload_n 1, .iload_n 2, .invokevirtual 59]), (51, [.if_icmp .eq 5]), (56, [.iinc 2 1, .goto (.negSucc 31)]), (54, [.iconst 0, .ireturn])] (by decide +kernel) 62 (And.intro ⟨Nat.le_of_ble_eq_true rfl, rfl, rfl⟩ (s_J0_length_8abf5 (d := d + 2) (And.intro (fun q232 => And.intro rfl (h.1 q232)) (fun q233 => And.intro (h.2 q233).1 (Exists.elim ((h.2 q233).2) (fun c29 zc29 => And.intro ⟨Nat.le_of_ble_eq_true rfl, rfl, rfl⟩ (s_J0_charAt_5068e (d := d) zc29.1 (And.intro (fun q234 => (zc29.2.1 q234)) (fun q235 => And.intro rfl (zc29.2.2 q235))))))))))

theorem r_X7_isWord_0 {gl : Nat} {gx : Nat → Int32} {d : Nat} {P : PL} {Q : PO} {mi : MI} {w : WS} {lv : LV} {i1 : Nat} (hw : w.2.1 = true) (h : (¬ ((mi 6 0 3) = 0) → Q (aI 0) (mi, RS w, lv)) ∧ (((mi 6 0 3) = 0) → ((((mi 6 0 2) - (mi 6 0 4)) = (f_J0_length_8abf5 mi i1)) → Wp gl gx (d + 4) P 110 27 [aR 6 0, aR 16 i1, aI 0] [] (mi, RS w, lv) Q) ∧ (¬ (((mi 6 0 2) - (mi 6 0 4)) = (f_J0_length_8abf5 mi i1)) → Q (aI 0) (mi, RS w, lv)))) : Wp gl gx (d + 4) P 110 0 [aR 6 0, aR 16 i1, aU] [] (mi, RS w, lv) Q := by
  obtain ⟨w1, w2, w3⟩ := w
  have hw2 : w2 = true := hw
  subst hw2
  let w : WS := (w1, true, w3)
  exact wpT row_110 mt_110 [.aload_n 0, .getfield 20, .ifCond .ne 19] (by decide +kernel) [(23, [.iconst 0, .ireturn]), (7, [.aload_n 0, .getfield 17, .aload_n 0, .getfield 23, .isub, .aload_n 1, .invokevirtual 54]), (20, [.if_icmp .eq 5]), (25, [.iconst 0, .istore_n 2])] (by decide +kernel) 50 (And.intro (fun q236 => And.intro rfl (h.1 q236)) (fun q237 => And.intro ⟨Nat.le_of_ble_eq_true rfl, rfl, rfl⟩ (s_J0_length_8abf5 (d := d + 2) (And.intro (fun q238 => ((h.2 q237).1 q238)) (fun q239 => And.intro rfl ((h.2 q237).2 q239))))))

def L_X7_isWord_27 (mi : MI) (w : WS) : Nat → Nat → Int32 → Option Int32
  | 0, _, _ => none
  | n + 1, i1, x2 => if (f_J0_length_8abf5 mi i1) ≤ x2 then some (1 : Int32) else ck (¬ (((mi 6 0 4) + x2) < 0 ∨ 600 ≤ ((mi 6 0 4) + x2).toNatClampNeg)) ((F_J0_charAt_5068e mi w i1 x2).bind fun c29 => if (mi 20 0 (((mi 6 0 4) + x2).toNatClampNeg)) = c29 then L_X7_isWord_27 mi w n i1 (x2 + 1) else some (0 : Int32))

theorem l_X7_isWord_27 {gl : Nat} {gx : Nat → Int32} {d : Nat} {P : PL} {Q : PO} {lv : LV} {mi : MI} {w : WS} (hw : w.2.1 = true) (n : Nat) : ∀ {i1 : Nat} {x2 : Int32} {r : Int32}, L_X7_isWord_27 mi w n i1 x2 = some r → (Q (aI r) (mi, RS w, lv)) → Wp gl gx (d + 4) P 110 27 [aR 6 0, aR 16 i1, aI x2] [] (mi, RS w, lv) Q := by
  induction n with
  | zero => intro i1 x2 r hf h0; exact o_none hf
  | succ n ih => intro i1 x2 r hf h0; exact r_X7_isWord_27 hw (⟨fun q240 => k_ifp q240 hf (fun q242 => o_rP q242 h0), fun q241 => k_ifn q241 hf (fun q242 => k_ck q242 (fun q244 q243 => ⟨q244, o_bind q243 (fun c29 qc29 pc29 => ⟨c29, qc29, ⟨fun q245 => k_ifp q245 pc29 (fun q247 => ih q247 h0), fun q246 => k_ifn q246 pc29 (fun q247 => o_rP q247 h0)⟩⟩)⟩))⟩)

def F_X7_isWord (mi : MI) (w : WS) (i1 : Nat) : Option Int32 := ck (w.2.1 = true) (if (mi 6 0 3) = 0 then if ((mi 6 0 2) - (mi 6 0 4)) = (f_J0_length_8abf5 mi i1) then L_X7_isWord_27 mi w 1000000 i1 0 else some (0 : Int32) else some (0 : Int32))

theorem s_X7_isWord {gl : Nat} {gx : Nat → Int32} {d : Nat} {P : PL} {Q : PO} {mi : MI} {w : WS} {lv : LV} {i1 : Nat} {r : Int32} (hf : F_X7_isWord mi w i1 = some r) (h0 : Q (aI r) (mi, RS w, lv)) : Wp gl gx (d + 4) P 110 0 [aR 6 0, aR 16 i1, aU] [] (mi, RS w, lv) Q := k_ck hf (fun hw hf => r_X7_isWord_0 hw (⟨fun q254 => k_ifn q254 hf (fun q256 => o_rP q256 h0), fun q255 => k_ifp q255 hf (fun q256 => ⟨fun q257 => k_ifp q257 q256 (fun q259 => l_X7_isWord_27 hw 1000000 q259 h0), fun q258 => k_ifn q258 q256 (fun q259 => o_rP q259 h0)⟩)⟩))

abbrev row_111 : MT := (⟨"StencilHouse$Tokens", "isBlank", "(I)Z"⟩, prog_9_method_7_code, 1, some .boolean, 0, lk_7)
set_option maxRecDepth 20000 in
theorem mt_111 : mt 111 = some row_111 := rfl
theorem r_X7_isBlank_0 {gl : Nat} {gx : Nat → Int32} {d : Nat} {P : PL} {Q : PO} {mi : MI} {w : WS} {lv : LV} {x0 : Int32} (h : Q (aI (b2 ((x0 = 10) ∨ (x0 = 32)))) (mi, RS w, lv)) : Wp gl gx d P 111 0 [aI x0] [] (mi, RS w, lv) Q := 
  wpT row_111 mt_111 [.iload_n 0, .bipush 10, .if_icmp .eq 9] (by decide +kernel) [(12, [.iconst 1, .goto 4]), (17, [.ireturn]), (6, [.iload_n 0, .bipush 32, .if_icmp .ne 7]), (16, [.iconst 0, .ireturn])] (by decide +kernel) 42 (And.intro (fun q260 => And.intro rfl (mv9 (fun v => Q (aI v) (mi, RS w, lv)) (show (b2 ((x0 = 10) ∨ (x0 = 32))) = 1 from b2o_t (show x0 = 10 from q260)) h)) (fun q261 => And.intro (fun q262 => And.intro rfl (mv9 (fun v => Q (aI v) (mi, RS w, lv)) (show (b2 (x0 = 32)) = 0 from b2_f (show ¬ (x0 = 32) from q262)) (mv9 (fun v => Q (aI v) (mi, RS w, lv)) (show (b2 ((x0 = 10) ∨ (x0 = 32))) = (b2 (x0 = 32)) from b2o_f (show ¬ (x0 = 10) from q261)) h))) (fun q263 => And.intro rfl (mv9 (fun v => Q (aI v) (mi, RS w, lv)) (show (b2 (x0 = 32)) = 1 from b2_t (show x0 = 32 from q263)) (mv9 (fun v => Q (aI v) (mi, RS w, lv)) (show (b2 ((x0 = 10) ∨ (x0 = 32))) = (b2 (x0 = 32)) from b2o_f (show ¬ (x0 = 10) from q261)) h)))))

abbrev f_X7_isBlank (mi : MI) (x0 : Int32) : Int32 := b2 ((x0 = 10) ∨ (x0 = 32))
theorem s_X7_isBlank {gl : Nat} {gx : Nat → Int32} {d : Nat} {P : PL} {Q : PO} {mi : MI} {w : WS} {lv : LV} {x0 : Int32} (h : Q (aI (f_X7_isBlank mi x0)) (mi, RS w, lv)) : Wp gl gx d P 111 0 [aI x0] [] (mi, RS w, lv) Q := r_X7_isBlank_0 h

abbrev row_112 : MT := (⟨"StencilHouse$Tokens", "isLetter", "(I)Z"⟩, prog_9_method_8_code, 1, some .boolean, 0, lk_7)
set_option maxRecDepth 20000 in
theorem mt_112 : mt 112 = some row_112 := rfl
theorem r_X7_isLetter_0 {gl : Nat} {gx : Nat → Int32} {d : Nat} {P : PL} {Q : PO} {mi : MI} {w : WS} {lv : LV} {x0 : Int32} (h : Q (aI (b2 (¬ (x0 < 97) ∧ (¬ (122 < x0))))) (mi, RS w, lv)) : Wp gl gx d P 112 0 [aI x0] [] (mi, RS w, lv) Q := 
  wpT row_112 mt_112 [.iload_n 0, .bipush 97, .if_icmp .lt 13] (by decide +kernel) [(16, [.iconst 0, .ireturn]), (6, [.iload_n 0, .bipush 122, .if_icmp .gt 7]), (12, [.iconst 1, .goto 4]), (17, [.ireturn])] (by decide +kernel) 42 (And.intro (fun q264 => And.intro rfl (mv9 (fun v => Q (aI v) (mi, RS w, lv)) (show (b2 (¬ (x0 < 97) ∧ (¬ (122 < x0)))) = 0 from b2na_t (show x0 < 97 from q264)) h)) (fun q265 => And.intro (fun q266 => And.intro rfl (mv9 (fun v => Q (aI v) (mi, RS w, lv)) (show (b2 (¬ (122 < x0))) = 0 from b2n_t (show 122 < x0 from q266)) (mv9 (fun v => Q (aI v) (mi, RS w, lv)) (show (b2 (¬ (x0 < 97) ∧ (¬ (122 < x0)))) = (b2 (¬ (122 < x0))) from b2na_f (show ¬ (x0 < 97) from q265)) h))) (fun q267 => And.intro rfl (mv9 (fun v => Q (aI v) (mi, RS w, lv)) (show (b2 (¬ (122 < x0))) = 1 from b2n_f (show ¬ (122 < x0) from q267)) (mv9 (fun v => Q (aI v) (mi, RS w, lv)) (show (b2 (¬ (x0 < 97) ∧ (¬ (122 < x0)))) = (b2 (¬ (122 < x0))) from b2na_f (show ¬ (x0 < 97) from q265)) h)))))

abbrev f_X7_isLetter (mi : MI) (x0 : Int32) : Int32 := b2 (¬ (x0 < 97) ∧ (¬ (122 < x0)))
theorem s_X7_isLetter {gl : Nat} {gx : Nat → Int32} {d : Nat} {P : PL} {Q : PO} {mi : MI} {w : WS} {lv : LV} {x0 : Int32} (h : Q (aI (f_X7_isLetter mi x0)) (mi, RS w, lv)) : Wp gl gx d P 112 0 [aI x0] [] (mi, RS w, lv) Q := r_X7_isLetter_0 h

abbrev row_113 : MT := (⟨"StencilHouse$Tokens", "isDigit", "(I)Z"⟩, prog_9_method_9_code, 1, some .boolean, 0, lk_7)
set_option maxRecDepth 20000 in
theorem mt_113 : mt 113 = some row_113 := rfl
theorem r_X7_isDigit_0 {gl : Nat} {gx : Nat → Int32} {d : Nat} {P : PL} {Q : PO} {mi : MI} {w : WS} {lv : LV} {x0 : Int32} (h : Q (aI (b2 (¬ (x0 < 48) ∧ (¬ (57 < x0))))) (mi, RS w, lv)) : Wp gl gx d P 113 0 [aI x0] [] (mi, RS w, lv) Q := 
  wpT row_113 mt_113 [.iload_n 0, .bipush 48, .if_icmp .lt 13] (by decide +kernel) [(16, [.iconst 0, .ireturn]), (6, [.iload_n 0, .bipush 57, .if_icmp .gt 7]), (12, [.iconst 1, .goto 4]), (17, [.ireturn])] (by decide +kernel) 42 (And.intro (fun q268 => And.intro rfl (mv9 (fun v => Q (aI v) (mi, RS w, lv)) (show (b2 (¬ (x0 < 48) ∧ (¬ (57 < x0)))) = 0 from b2na_t (show x0 < 48 from q268)) h)) (fun q269 => And.intro (fun q270 => And.intro rfl (mv9 (fun v => Q (aI v) (mi, RS w, lv)) (show (b2 (¬ (57 < x0))) = 0 from b2n_t (show 57 < x0 from q270)) (mv9 (fun v => Q (aI v) (mi, RS w, lv)) (show (b2 (¬ (x0 < 48) ∧ (¬ (57 < x0)))) = (b2 (¬ (57 < x0))) from b2na_f (show ¬ (x0 < 48) from q269)) h))) (fun q271 => And.intro rfl (mv9 (fun v => Q (aI v) (mi, RS w, lv)) (show (b2 (¬ (57 < x0))) = 1 from b2n_f (show ¬ (57 < x0) from q271)) (mv9 (fun v => Q (aI v) (mi, RS w, lv)) (show (b2 (¬ (x0 < 48) ∧ (¬ (57 < x0)))) = (b2 (¬ (57 < x0))) from b2na_f (show ¬ (x0 < 48) from q269)) h)))))

abbrev f_X7_isDigit (mi : MI) (x0 : Int32) : Int32 := b2 (¬ (x0 < 48) ∧ (¬ (57 < x0)))
theorem s_X7_isDigit {gl : Nat} {gx : Nat → Int32} {d : Nat} {P : PL} {Q : PO} {mi : MI} {w : WS} {lv : LV} {x0 : Int32} (h : Q (aI (f_X7_isDigit mi x0)) (mi, RS w, lv)) : Wp gl gx d P 113 0 [aI x0] [] (mi, RS w, lv) Q := r_X7_isDigit_0 h

abbrev row_108 : MT := (⟨"StencilHouse$Tokens", "nextWord", "()V"⟩, prog_9_method_4_code, 1, none, 1, lk_7)
set_option maxRecDepth 20000 in
theorem mt_108 : mt 108 = some row_108 := rfl
theorem r_X7_nextWord_5 {gl : Nat} {gx : Nat → Int32} {d : Nat} {P : PL} {Q : PO} {mi : MI} {w : WS} {lv : LV}  (hw : w.2.1 = true) (h : (((mi 6 0 1) ≤ (mi 6 0 2)) → Q aU (mi, RS w, lv)) ∧ (¬ ((mi 6 0 1) ≤ (mi 6 0 2)) → (vp_in (mi 6 0 2) 600) ∧ ((¬ (¬ ((mi 20 0 ((mi 6 0 2).toNatClampNeg)) < 97) ∧ (¬ (122 < (mi 20 0 ((mi 6 0 2).toNatClampNeg))))) → Q aU (mi, RS w, lv)) ∧ (¬ ((mi 20 0 ((mi 6 0 2).toNatClampNeg)) < 97) ∧ (¬ (122 < (mi 20 0 ((mi 6 0 2).toNatClampNeg)))) → Wp gl gx (d + 1) P 108 5 [aR 6 0] [] (u3 mi 6 0 2 ((mi 6 0 2) + 1), RS w, lv) Q)))) : Wp gl gx (d + 1) P 108 5 [aR 6 0] [] (mi, RS w, lv) Q := by
  obtain ⟨w1, w2, w3⟩ := w
  have hw2 : w2 = true := hw
  subst hw2
  let w : WS := (w1, true, w3)
  exact wpT row_108 mt_108 [.aload_n 0, .getfield 17, .aload_n 0, .getfield 13, .if_icmp .ge 31] (by decide +kernel) [(44, [.return_]), (16, [.aload_n 0, .getfield 7, .aload_n 0, .getfield 17, .iaload]), (25, [.invokestatic 42]), (28, [.ifCond .eq 16]), (31, [.aload_n 0, .dup, .getfield 17, .iconst 1, .iadd, .putfield 17, .goto (.negSucc 35)])] (by decide +kernel) 60 (And.intro (fun q272 => (h.1 q272)) (fun q273 => And.intro (h.2 q273).1 (And.intro ⟨Nat.le_of_ble_eq_true rfl, rfl, rfl⟩ (s_X7_isLetter (d := d) (And.intro (fun q274 => ((h.2 q273).2.1 (b2_0 q274))) (fun q275 => ((h.2 q273).2.2 (b2_n q275))))))))

theorem r_X7_nextWord_0 {gl : Nat} {gx : Nat → Int32} {d : Nat} {P : PL} {Q : PO} {mi : MI} {w : WS} {lv : LV}  (hw : w.2.1 = true) (h : Wp gl gx (d + 1) P 108 5 [aR 6 0] [] (u3 mi 6 0 3 0, RS w, lv) Q) : Wp gl gx (d + 1) P 108 0 [aR 6 0] [] (mi, RS w, lv) Q := by
  obtain ⟨w1, w2, w3⟩ := w
  have hw2 : w2 = true := hw
  subst hw2
  let w : WS := (w1, true, w3)
  exact wpT row_108 mt_108 [.aload_n 0, .iconst 0, .putfield 20] (by decide +kernel) [] (by decide +kernel) 26 (h)

def L_X7_nextWord_5 (w : WS) : Nat → MI → Option MI
  | 0, _ => none
  | n + 1, mi => if (mi 6 0 1) ≤ (mi 6 0 2) then some mi else ck (¬ ((mi 6 0 2) < 0 ∨ 600 ≤ (mi 6 0 2).toNatClampNeg)) (if ¬ ((mi 20 0 ((mi 6 0 2).toNatClampNeg)) < 97) ∧ (¬ (122 < (mi 20 0 ((mi 6 0 2).toNatClampNeg)))) then L_X7_nextWord_5 w n (u3 mi 6 0 2 ((mi 6 0 2) + 1)) else some mi)

theorem l_X7_nextWord_5 {gl : Nat} {gx : Nat → Int32} {d : Nat} {P : PL} {Q : PO} {lv : LV} {w : WS} (hw : w.2.1 = true) (n : Nat) : ∀ {mi : MI} {r : MI}, L_X7_nextWord_5 w n mi = some r → (Q aU (r, RS w, lv)) → Wp gl gx (d + 1) P 108 5 [aR 6 0] [] (mi, RS w, lv) Q := by
  induction n with
  | zero => intro mi r hf h0; exact o_none hf
  | succ n ih => intro mi r hf h0; exact r_X7_nextWord_5 hw (⟨fun q276 => k_ifp q276 hf (fun q278 => o_rMV q278 h0), fun q277 => k_ifn q277 hf (fun q278 => k_ck q278 (fun q280 q279 => ⟨q280, ⟨fun q281 => k_ifn q281 q279 (fun q283 => o_rMV q283 h0), fun q282 => k_ifp q282 q279 (fun q283 => ih q283 h0)⟩⟩))⟩)

def F_X7_nextWord (mi : MI) (w : WS)  : Option MI := ck (w.2.1 = true) (L_X7_nextWord_5 w 1000000 (u3 mi 6 0 3 0))

theorem s_X7_nextWord {gl : Nat} {gx : Nat → Int32} {d : Nat} {P : PL} {Q : PO} {mi : MI} {w : WS} {lv : LV}  {r : MI} (hf : F_X7_nextWord mi w  = some r) (h0 : Q aU (r, RS w, lv)) : Wp gl gx (d + 1) P 108 0 [aR 6 0] [] (mi, RS w, lv) Q := k_ck hf (fun hw hf => r_X7_nextWord_0 hw (l_X7_nextWord_5 hw 1000000 hf h0))

abbrev row_109 : MT := (⟨"StencilHouse$Tokens", "nextNumber", "()V"⟩, prog_9_method_5_code, 1, none, 1, lk_7)
set_option maxRecDepth 20000 in
theorem mt_109 : mt 109 = some row_109 := rfl
theorem r_X7_nextNumber_100 {gl : Nat} {gx : Nat → Int32} {d : Nat} {P : PL} {Q : PO} {mi : MI} {w : WS} {lv : LV} {s0 : Int32} (hw : w.2.1 = true) (h : Q aU (u3 mi 6 0 3 s0, RS w, lv)) : Wp gl gx (d + 1) P 109 100 [aR 6 0] [aI s0, aR 6 0] (mi, RS w, lv) Q := by
  obtain ⟨w1, w2, w3⟩ := w
  have hw2 : w2 = true := hw
  subst hw2
  let w : WS := (w1, true, w3)
  exact wpT row_109 mt_109 [.putfield 20, .return_] (by decide +kernel) [] (by decide +kernel) 24 (h)

theorem r_X7_nextNumber_81 {gl : Nat} {gx : Nat → Int32} {d : Nat} {P : PL} {Q : PO} {mi : MI} {w : WS} {lv : LV}  (hw : w.2.1 = true) (h : Q aU (u3 mi 6 0 3 (if ((mi 6 0 2) - (mi 6 0 4)) ≤ 2 then 1 else 4), RS w, lv)) : Wp gl gx (d + 1) P 109 81 [aR 6 0] [] (mi, RS w, lv) Q := by
  obtain ⟨w1, w2, w3⟩ := w
  have hw2 : w2 = true := hw
  subst hw2
  let w : WS := (w1, true, w3)
  exact wpT row_109 mt_109 [.aload_n 0, .aload_n 0, .getfield 17, .aload_n 0, .getfield 23, .isub, .iconst 2, .if_icmp .le 7] (by decide +kernel) [(99, [.iconst 1]), (95, [.iconst 4, .goto 4])] (by decide +kernel) 42 (And.intro (fun q284 => r_X7_nextNumber_100 (s0 := 1) (mi := mi) (hw := rfl) (mv9 (fun v => Q aU (u3 mi 6 0 3 v, RS w, lv)) (show (if ((mi 6 0 2) - (mi 6 0 4)) ≤ 2 then 1 else 4) = 1 from if_pos (show ((mi 6 0 2) - (mi 6 0 4)) ≤ 2 from q284)) h)) (fun q285 => r_X7_nextNumber_100 (s0 := 4) (mi := mi) (hw := rfl) (mv9 (fun v => Q aU (u3 mi 6 0 3 v, RS w, lv)) (show (if ((mi 6 0 2) - (mi 6 0 4)) ≤ 2 then 1 else 4) = 4 from if_neg (show ¬ (((mi 6 0 2) - (mi 6 0 4)) ≤ 2) from q285)) h)))

theorem r_X7_nextNumber_68 {gl : Nat} {gx : Nat → Int32} {d : Nat} {P : PL} {Q : PO} {mi : MI} {w : WS} {lv : LV}  (hw : w.2.1 = true) (h : Wp gl gx (d + 1) P 109 5 [aR 6 0] [] (u3 mi 6 0 2 ((mi 6 0 2) + 1), RS w, lv) Q) : Wp gl gx (d + 1) P 109 68 [aR 6 0] [] (mi, RS w, lv) Q := by
  obtain ⟨w1, w2, w3⟩ := w
  have hw2 : w2 = true := hw
  subst hw2
  let w : WS := (w1, true, w3)
  exact wpT row_109 mt_109 [.aload_n 0, .dup, .getfield 17, .iconst 1, .iadd, .putfield 17, .goto (.negSucc 72)] (by decide +kernel) [] (by decide +kernel) 34 (h)

theorem r_X7_nextNumber_5 {gl : Nat} {gx : Nat → Int32} {d : Nat} {P : PL} {Q : PO} {mi : MI} {w : WS} {lv : LV}  (hw : w.2.1 = true) (h : (((mi 6 0 1) ≤ (mi 6 0 2)) → Q aU (u3 mi 6 0 3 (if ((mi 6 0 2) - (mi 6 0 4)) ≤ 2 then 1 else 4), RS w, lv)) ∧ (¬ ((mi 6 0 1) ≤ (mi 6 0 2)) → (vp_in (mi 6 0 2) 600) ∧ ((¬ (¬ ((mi 20 0 ((mi 6 0 2).toNatClampNeg)) < 48) ∧ (¬ (57 < (mi 20 0 ((mi 6 0 2).toNatClampNeg))))) → Q aU (u3 mi 6 0 3 (if ((mi 6 0 2) - (mi 6 0 4)) ≤ 2 then 1 else 4), RS w, lv)) ∧ (¬ ((mi 20 0 ((mi 6 0 2).toNatClampNeg)) < 48) ∧ (¬ (57 < (mi 20 0 ((mi 6 0 2).toNatClampNeg)))) → ((2 ≤ ((mi 6 0 2) - (mi 6 0 4))) → Wp gl gx (d + 1) P 109 5 [aR 6 0] [] (u3 mi 6 0 2 ((mi 6 0 2) + 1), RS w, lv) Q) ∧ (¬ (2 ≤ ((mi 6 0 2) - (mi 6 0 4))) → (vp_in (mi 6 0 2) 600) ∧ ((∀ m30 : MI, m30 = u3 mi 6 0 5 ((((mi 6 0 5) * 10) + (mi 20 0 ((mi 6 0 2).toNatClampNeg))) - 48) → Wp gl gx (d + 1) P 109 5 [aR 6 0] [] (u3 m30 6 0 2 ((m30 6 0 2) + 1), RS w, lv) Q))))))) : Wp gl gx (d + 1) P 109 5 [aR 6 0] [] (mi, RS w, lv) Q := by
  obtain ⟨w1, w2, w3⟩ := w
  have hw2 : w2 = true := hw
  subst hw2
  let w : WS := (w1, true, w3)
  exact wpT row_109 mt_109 [.aload_n 0, .getfield 17, .aload_n 0, .getfield 13, .if_icmp .ge 68] (by decide +kernel) [(16, [.aload_n 0, .getfield 7, .aload_n 0, .getfield 17, .iaload]), (25, [.invokestatic 48]), (28, [.ifCond .eq 53]), (31, [.aload_n 0, .getfield 17, .aload_n 0, .getfield 23, .isub, .iconst 2, .if_icmp .ge 27]), (44, [.aload_n 0, .aload_n 0, .getfield 26, .bipush 10, .imul, .aload_n 0, .getfield 7, .aload_n 0, .getfield 17, .iaload]), (61, [.iadd, .bipush 48, .isub, .putfield 26])] (by decide +kernel) 86 (And.intro (fun q286 => r_X7_nextNumber_81 (mi := mi) (hw := rfl) (h.1 q286)) (fun q287 => And.intro (h.2 q287).1 (And.intro ⟨Nat.le_of_ble_eq_true rfl, rfl, rfl⟩ (s_X7_isDigit (d := d) (And.intro (fun q288 => r_X7_nextNumber_81 (mi := mi) (hw := rfl) ((h.2 q287).2.1 (b2_0 q288))) (fun q289 => And.intro (fun q290 => r_X7_nextNumber_68 (mi := mi) (hw := rfl) (((h.2 q287).2.2 (b2_n q289)).1 q290)) (fun q291 => And.intro (((h.2 q287).2.2 (b2_n q289)).2 q291).1 ((let m30 : MI := u3 mi 6 0 5 ((((mi 6 0 5) * 10) + (mi 20 0 ((mi 6 0 2).toNatClampNeg))) - 48); r_X7_nextNumber_68 (mi := m30) (hw := rfl) ((((h.2 q287).2.2 (b2_n q289)).2 q291).2 _ rfl))))))))))

theorem r_X7_nextNumber_0 {gl : Nat} {gx : Nat → Int32} {d : Nat} {P : PL} {Q : PO} {mi : MI} {w : WS} {lv : LV}  (hw : w.2.1 = true) (h : Wp gl gx (d + 1) P 109 5 [aR 6 0] [] (u3 mi 6 0 5 0, RS w, lv) Q) : Wp gl gx (d + 1) P 109 0 [aR 6 0] [] (mi, RS w, lv) Q := by
  obtain ⟨w1, w2, w3⟩ := w
  have hw2 : w2 = true := hw
  subst hw2
  let w : WS := (w1, true, w3)
  exact wpT row_109 mt_109 [.aload_n 0, .iconst 0, .putfield 26] (by decide +kernel) [] (by decide +kernel) 26 (h)

def L_X7_nextNumber_5 (w : WS) : Nat → MI → Option MI
  | 0, _ => none
  | n + 1, mi => if (mi 6 0 1) ≤ (mi 6 0 2) then some (u3 mi 6 0 3 (if ((mi 6 0 2) - (mi 6 0 4)) ≤ 2 then 1 else 4)) else ck (¬ ((mi 6 0 2) < 0 ∨ 600 ≤ (mi 6 0 2).toNatClampNeg)) (if ¬ ((mi 20 0 ((mi 6 0 2).toNatClampNeg)) < 48) ∧ (¬ (57 < (mi 20 0 ((mi 6 0 2).toNatClampNeg)))) then if 2 ≤ ((mi 6 0 2) - (mi 6 0 4)) then L_X7_nextNumber_5 w n (u3 mi 6 0 2 ((mi 6 0 2) + 1)) else ck (¬ ((mi 6 0 2) < 0 ∨ 600 ≤ (mi 6 0 2).toNatClampNeg)) (lt (u3 mi 6 0 5 ((((mi 6 0 5) * 10) + (mi 20 0 ((mi 6 0 2).toNatClampNeg))) - 48)) fun m30 => L_X7_nextNumber_5 w n (u3 m30 6 0 2 ((m30 6 0 2) + 1))) else some (u3 mi 6 0 3 (if ((mi 6 0 2) - (mi 6 0 4)) ≤ 2 then 1 else 4)))

theorem l_X7_nextNumber_5 {gl : Nat} {gx : Nat → Int32} {d : Nat} {P : PL} {Q : PO} {lv : LV} {w : WS} (hw : w.2.1 = true) (n : Nat) : ∀ {mi : MI} {r : MI}, L_X7_nextNumber_5 w n mi = some r → (Q aU (r, RS w, lv)) → Wp gl gx (d + 1) P 109 5 [aR 6 0] [] (mi, RS w, lv) Q := by
  induction n with
  | zero => intro mi r hf h0; exact o_none hf
  | succ n ih => intro mi r hf h0; exact r_X7_nextNumber_5 hw (⟨fun q292 => k_ifp q292 hf (fun q294 => o_rMV q294 h0), fun q293 => k_ifn q293 hf (fun q294 => k_ck q294 (fun q296 q295 => ⟨q296, ⟨fun q297 => k_ifn q297 q295 (fun q299 => o_rMV q299 h0), fun q298 => k_ifp q298 q295 (fun q299 => ⟨fun q300 => k_ifp q300 q299 (fun q302 => ih q302 h0), fun q301 => k_ifn q301 q299 (fun q302 => k_ck q302 (fun q304 q303 => ⟨q304, fun m30 hm30 => k_lt q303 hm30 (fun q305 => ih q305 h0)⟩))⟩)⟩⟩))⟩)

def F_X7_nextNumber (mi : MI) (w : WS)  : Option MI := ck (w.2.1 = true) (L_X7_nextNumber_5 w 1000000 (u3 mi 6 0 5 0))

theorem s_X7_nextNumber {gl : Nat} {gx : Nat → Int32} {d : Nat} {P : PL} {Q : PO} {mi : MI} {w : WS} {lv : LV}  {r : MI} (hf : F_X7_nextNumber mi w  = some r) (h0 : Q aU (r, RS w, lv)) : Wp gl gx (d + 1) P 109 0 [aR 6 0] [] (mi, RS w, lv) Q := k_ck hf (fun hw hf => r_X7_nextNumber_0 hw (l_X7_nextNumber_5 hw 1000000 hf h0))

abbrev row_107 : MT := (⟨"StencilHouse$Tokens", "next", "()V"⟩, prog_9_method_3_code, 1, none, 1, lk_7)
set_option maxRecDepth 20000 in
theorem mt_107 : mt 107 = some row_107 := rfl
theorem r_X7_next_138 {gl : Nat} {gx : Nat → Int32} {d : Nat} {P : PL} {Q : PO} {mi : MI} {w : WS} {lv : LV} {s0 : Int32} (hw : w.2.1 = true) (h : (∀ m34 : MI, m34 = u3 (u3 mi 6 0 3 s0) 6 0 2 (((u3 mi 6 0 3 s0) 6 0 2) + 1) → Q aU (m34, RS w, lv))) : Wp gl gx (d + 2) P 107 138 [aR 6 0] [aI s0, aR 6 0] (mi, RS w, lv) Q := by
  obtain ⟨w1, w2, w3⟩ := w
  have hw2 : w2 = true := hw
  subst hw2
  let w : WS := (w1, true, w3)
  exact wpT row_107 mt_107 [.putfield 20, .aload_n 0, .dup, .getfield 17, .iconst 1, .iadd, .putfield 17] (by decide +kernel) [(151, [.return_])] (by decide +kernel) 36 ((h _ rfl))

theorem r_X7_next_47 {gl : Nat} {gx : Nat → Int32} {d : Nat} {P : PL} {Q : PO} {mi : MI} {w : WS} {lv : LV}  (hw : w.2.1 = true) (h : ((((u3 mi 6 0 2 (mi 6 0 4)) 6 0 4) < ((u3 mi 6 0 2 (mi 6 0 4)) 6 0 1)) → (vp_in ((u3 mi 6 0 2 (mi 6 0 4)) 6 0 4) 600) ∧ ((¬ (¬ (((u3 mi 6 0 2 (mi 6 0 4)) 20 0 (((u3 mi 6 0 2 (mi 6 0 4)) 6 0 4).toNatClampNeg)) < 97) ∧ (¬ (122 < ((u3 mi 6 0 2 (mi 6 0 4)) 20 0 (((u3 mi 6 0 2 (mi 6 0 4)) 6 0 4).toNatClampNeg))))) → (vp_in ((u3 mi 6 0 2 (mi 6 0 4)) 6 0 4) 600) ∧ ((¬ (¬ (((u3 mi 6 0 2 (mi 6 0 4)) 20 0 (((u3 mi 6 0 2 (mi 6 0 4)) 6 0 4).toNatClampNeg)) < 48) ∧ (¬ (57 < ((u3 mi 6 0 2 (mi 6 0 4)) 20 0 (((u3 mi 6 0 2 (mi 6 0 4)) 6 0 4).toNatClampNeg))))) → (vp_in ((u3 mi 6 0 2 (mi 6 0 4)) 6 0 4) 600) ∧ ((∀ m34 : MI, m34 = u3 (u3 (u3 mi 6 0 2 (mi 6 0 4)) 6 0 3 (if ((u3 mi 6 0 2 (mi 6 0 4)) 20 0 (((u3 mi 6 0 2 (mi 6 0 4)) 6 0 4).toNatClampNeg)) = 59 then 2 else 4)) 6 0 2 (((u3 (u3 mi 6 0 2 (mi 6 0 4)) 6 0 3 (if ((u3 mi 6 0 2 (mi 6 0 4)) 20 0 (((u3 mi 6 0 2 (mi 6 0 4)) 6 0 4).toNatClampNeg)) = 59 then 2 else 4)) 6 0 2) + 1) → Q aU (m34, RS w, lv)))) ∧ (¬ (((u3 mi 6 0 2 (mi 6 0 4)) 20 0 (((u3 mi 6 0 2 (mi 6 0 4)) 6 0 4).toNatClampNeg)) < 48) ∧ (¬ (57 < ((u3 mi 6 0 2 (mi 6 0 4)) 20 0 (((u3 mi 6 0 2 (mi 6 0 4)) 6 0 4).toNatClampNeg)))) → (∃ c31 : MI, F_X7_nextNumber (u3 mi 6 0 2 (mi 6 0 4)) w  = some c31 ∧ Q aU (c31, RS w, lv))))) ∧ (¬ (((u3 mi 6 0 2 (mi 6 0 4)) 20 0 (((u3 mi 6 0 2 (mi 6 0 4)) 6 0 4).toNatClampNeg)) < 97) ∧ (¬ (122 < ((u3 mi 6 0 2 (mi 6 0 4)) 20 0 (((u3 mi 6 0 2 (mi 6 0 4)) 6 0 4).toNatClampNeg)))) → (∃ c32 : MI, F_X7_nextWord (u3 mi 6 0 2 (mi 6 0 4)) w  = some c32 ∧ Q aU (c32, RS w, lv))))) ∧ (¬ (((u3 mi 6 0 2 (mi 6 0 4)) 6 0 4) < ((u3 mi 6 0 2 (mi 6 0 4)) 6 0 1)) → (∀ m33 : MI, m33 = u3 (u3 mi 6 0 2 (mi 6 0 4)) 6 0 3 3 → Q aU (m33, RS w, lv)))) : Wp gl gx (d + 2) P 107 47 [aR 6 0] [] (mi, RS w, lv) Q := by
  obtain ⟨w1, w2, w3⟩ := w
  have hw2 : w2 = true := hw
  subst hw2
  let w : WS := (w1, true, w3)
  exact wpT row_107 mt_107 [.aload_n 0, .aload_n 0, .getfield 23, .putfield 17, .aload_n 0, .getfield 23, .aload_n 0, .getfield 13, .if_icmp .lt 11] (by decide +kernel) [(74, [.aload_n 0, .getfield 7, .aload_n 0, .getfield 23, .iaload]), (83, [.invokestatic 42]), (86, [.ifCond .eq 10]), (96, [.aload_n 0, .getfield 7, .aload_n 0, .getfield 23, .iaload]), (105, [.invokestatic 48]), (108, [.ifCond .eq 10]), (118, [.aload_n 0, .aload_n 0, .getfield 7, .aload_n 0, .getfield 23, .iaload]), (128, [.bipush 59, .if_icmp .ne 7]), (137, [.iconst 4]), (133, [.iconst 2, .goto 4]), (111, [.aload_n 0, .invokevirtual 51]), (115, [.goto 36]), (151, [.return_]), (89, [.aload_n 0, .invokevirtual 45]), (93, [.goto 58]), (66, [.aload_n 0, .iconst 3, .putfield 20]), (71, [.goto 80])] (by decide +kernel) 110 (And.intro (fun q306 => And.intro (h.1 q306).1 (And.intro ⟨Nat.le_of_ble_eq_true rfl, rfl, rfl⟩ (s_X7_isLetter (d := d + 1) (And.intro (fun q308 => And.intro ((h.1 q306).2.1 (b2_0 q308)).1 (And.intro ⟨Nat.le_of_ble_eq_true rfl, rfl, rfl⟩ (s_X7_isDigit (d := d + 1) (And.intro (fun q310 => And.intro (((h.1 q306).2.1 (b2_0 q308)).2.1 (b2_0 q310)).1 (And.intro (fun q312 => r_X7_next_138 (s0 := 4) (mi := (u3 mi 6 0 2 (mi 6 0 4))) (hw := rfl) (mv9 (fun v => (∀ m34 : MI, m34 = u3 (u3 (u3 mi 6 0 2 (mi 6 0 4)) 6 0 3 v) 6 0 2 (((u3 (u3 mi 6 0 2 (mi 6 0 4)) 6 0 3 v) 6 0 2) + 1) → Q aU (m34, RS w, lv))) (show (if ((u3 mi 6 0 2 (mi 6 0 4)) 20 0 (((u3 mi 6 0 2 (mi 6 0 4)) 6 0 4).toNatClampNeg)) = 59 then 2 else 4) = 4 from if_neg (show ¬ (((u3 mi 6 0 2 (mi 6 0 4)) 20 0 (((u3 mi 6 0 2 (mi 6 0 4)) 6 0 4).toNatClampNeg)) = 59) from q312)) ((((h.1 q306).2.1 (b2_0 q308)).2.1 (b2_0 q310)).2))) (fun q313 => r_X7_next_138 (s0 := 2) (mi := (u3 mi 6 0 2 (mi 6 0 4))) (hw := rfl) (mv9 (fun v => (∀ m34 : MI, m34 = u3 (u3 (u3 mi 6 0 2 (mi 6 0 4)) 6 0 3 v) 6 0 2 (((u3 (u3 mi 6 0 2 (mi 6 0 4)) 6 0 3 v) 6 0 2) + 1) → Q aU (m34, RS w, lv))) (show (if ((u3 mi 6 0 2 (mi 6 0 4)) 20 0 (((u3 mi 6 0 2 (mi 6 0 4)) 6 0 4).toNatClampNeg)) = 59 then 2 else 4) = 2 from if_pos (show ((u3 mi 6 0 2 (mi 6 0 4)) 20 0 (((u3 mi 6 0 2 (mi 6 0 4)) 6 0 4).toNatClampNeg)) = 59 from q313)) ((((h.1 q306).2.1 (b2_0 q308)).2.1 (b2_0 q310)).2))))) (fun q311 => Exists.elim (((h.1 q306).2.1 (b2_0 q308)).2.2 (b2_n q311)) (fun c31 zc31 => And.intro ⟨Nat.le_of_ble_eq_true rfl, rfl, rfl⟩ (s_X7_nextNumber (d := d) zc31.1 (zc31.2)))))))) (fun q309 => Exists.elim ((h.1 q306).2.2 (b2_n q309)) (fun c32 zc32 => And.intro ⟨Nat.le_of_ble_eq_true rfl, rfl, rfl⟩ (s_X7_nextWord (d := d) zc32.1 (zc32.2)))))))) (fun q307 => ((h.2 q307) _ rfl)))

theorem r_X7_next_8 {gl : Nat} {gx : Nat → Int32} {d : Nat} {P : PL} {Q : PO} {mi : MI} {w : WS} {lv : LV}  (hw : w.2.1 = true) (h : (((mi 6 0 1) ≤ (mi 6 0 4)) → Wp gl gx (d + 2) P 107 47 [aR 6 0] [] (mi, RS w, lv) Q) ∧ (¬ ((mi 6 0 1) ≤ (mi 6 0 4)) → (vp_in (mi 6 0 4) 600) ∧ ((¬ (((mi 20 0 ((mi 6 0 4).toNatClampNeg)) = 10) ∨ ((mi 20 0 ((mi 6 0 4).toNatClampNeg)) = 32)) → Wp gl gx (d + 2) P 107 47 [aR 6 0] [] (mi, RS w, lv) Q) ∧ (((mi 20 0 ((mi 6 0 4).toNatClampNeg)) = 10) ∨ ((mi 20 0 ((mi 6 0 4).toNatClampNeg)) = 32) → Wp gl gx (d + 2) P 107 8 [aR 6 0] [] (u3 mi 6 0 4 ((mi 6 0 4) + 1), RS w, lv) Q)))) : Wp gl gx (d + 2) P 107 8 [aR 6 0] [] (mi, RS w, lv) Q := by
  obtain ⟨w1, w2, w3⟩ := w
  have hw2 : w2 = true := hw
  subst hw2
  let w : WS := (w1, true, w3)
  exact wpT row_107 mt_107 [.aload_n 0, .getfield 23, .aload_n 0, .getfield 13, .if_icmp .ge 31] (by decide +kernel) [(19, [.aload_n 0, .getfield 7, .aload_n 0, .getfield 23, .iaload]), (28, [.invokestatic 38]), (31, [.ifCond .eq 16]), (34, [.aload_n 0, .dup, .getfield 23, .iconst 1, .iadd, .putfield 23, .goto (.negSucc 35)])] (by decide +kernel) 58 (And.intro (fun q314 => (h.1 q314)) (fun q315 => And.intro (h.2 q315).1 (And.intro ⟨Nat.le_of_ble_eq_true rfl, rfl, rfl⟩ (s_X7_isBlank (d := d + 1) (And.intro (fun q316 => ((h.2 q315).2.1 (b2_0 q316))) (fun q317 => ((h.2 q315).2.2 (b2_n q317))))))))

theorem r_X7_next_0 {gl : Nat} {gx : Nat → Int32} {d : Nat} {P : PL} {Q : PO} {mi : MI} {w : WS} {lv : LV}  (hw : w.2.1 = true) (h : Wp gl gx (d + 2) P 107 8 [aR 6 0] [] (u3 mi 6 0 4 (mi 6 0 2), RS w, lv) Q) : Wp gl gx (d + 2) P 107 0 [aR 6 0] [] (mi, RS w, lv) Q := by
  obtain ⟨w1, w2, w3⟩ := w
  have hw2 : w2 = true := hw
  subst hw2
  let w : WS := (w1, true, w3)
  exact wpT row_107 mt_107 [.aload_n 0, .aload_n 0, .getfield 17, .putfield 23] (by decide +kernel) [] (by decide +kernel) 28 (h)

def L_X7_next_8 (w : WS) : Nat → MI → Option MI
  | 0, _ => none
  | n + 1, mi => if (mi 6 0 1) ≤ (mi 6 0 4) then if ((u3 mi 6 0 2 (mi 6 0 4)) 6 0 4) < ((u3 mi 6 0 2 (mi 6 0 4)) 6 0 1) then ck (¬ (((u3 mi 6 0 2 (mi 6 0 4)) 6 0 4) < 0 ∨ 600 ≤ ((u3 mi 6 0 2 (mi 6 0 4)) 6 0 4).toNatClampNeg)) (if ¬ (((u3 mi 6 0 2 (mi 6 0 4)) 20 0 (((u3 mi 6 0 2 (mi 6 0 4)) 6 0 4).toNatClampNeg)) < 97) ∧ (¬ (122 < ((u3 mi 6 0 2 (mi 6 0 4)) 20 0 (((u3 mi 6 0 2 (mi 6 0 4)) 6 0 4).toNatClampNeg)))) then (F_X7_nextWord (u3 mi 6 0 2 (mi 6 0 4)) w ).bind fun c32 => some c32 else ck (¬ (((u3 mi 6 0 2 (mi 6 0 4)) 6 0 4) < 0 ∨ 600 ≤ ((u3 mi 6 0 2 (mi 6 0 4)) 6 0 4).toNatClampNeg)) (if ¬ (((u3 mi 6 0 2 (mi 6 0 4)) 20 0 (((u3 mi 6 0 2 (mi 6 0 4)) 6 0 4).toNatClampNeg)) < 48) ∧ (¬ (57 < ((u3 mi 6 0 2 (mi 6 0 4)) 20 0 (((u3 mi 6 0 2 (mi 6 0 4)) 6 0 4).toNatClampNeg)))) then (F_X7_nextNumber (u3 mi 6 0 2 (mi 6 0 4)) w ).bind fun c31 => some c31 else ck (¬ (((u3 mi 6 0 2 (mi 6 0 4)) 6 0 4) < 0 ∨ 600 ≤ ((u3 mi 6 0 2 (mi 6 0 4)) 6 0 4).toNatClampNeg)) (lt (u3 (u3 (u3 mi 6 0 2 (mi 6 0 4)) 6 0 3 (if ((u3 mi 6 0 2 (mi 6 0 4)) 20 0 (((u3 mi 6 0 2 (mi 6 0 4)) 6 0 4).toNatClampNeg)) = 59 then 2 else 4)) 6 0 2 (((u3 (u3 mi 6 0 2 (mi 6 0 4)) 6 0 3 (if ((u3 mi 6 0 2 (mi 6 0 4)) 20 0 (((u3 mi 6 0 2 (mi 6 0 4)) 6 0 4).toNatClampNeg)) = 59 then 2 else 4)) 6 0 2) + 1)) fun m34 => some m34))) else lt (u3 (u3 mi 6 0 2 (mi 6 0 4)) 6 0 3 3) fun m33 => some m33 else ck (¬ ((mi 6 0 4) < 0 ∨ 600 ≤ (mi 6 0 4).toNatClampNeg)) (if ((mi 20 0 ((mi 6 0 4).toNatClampNeg)) = 10) ∨ ((mi 20 0 ((mi 6 0 4).toNatClampNeg)) = 32) then L_X7_next_8 w n (u3 mi 6 0 4 ((mi 6 0 4) + 1)) else if ((u3 mi 6 0 2 (mi 6 0 4)) 6 0 4) < ((u3 mi 6 0 2 (mi 6 0 4)) 6 0 1) then ck (¬ (((u3 mi 6 0 2 (mi 6 0 4)) 6 0 4) < 0 ∨ 600 ≤ ((u3 mi 6 0 2 (mi 6 0 4)) 6 0 4).toNatClampNeg)) (if ¬ (((u3 mi 6 0 2 (mi 6 0 4)) 20 0 (((u3 mi 6 0 2 (mi 6 0 4)) 6 0 4).toNatClampNeg)) < 97) ∧ (¬ (122 < ((u3 mi 6 0 2 (mi 6 0 4)) 20 0 (((u3 mi 6 0 2 (mi 6 0 4)) 6 0 4).toNatClampNeg)))) then (F_X7_nextWord (u3 mi 6 0 2 (mi 6 0 4)) w ).bind fun c32 => some c32 else ck (¬ (((u3 mi 6 0 2 (mi 6 0 4)) 6 0 4) < 0 ∨ 600 ≤ ((u3 mi 6 0 2 (mi 6 0 4)) 6 0 4).toNatClampNeg)) (if ¬ (((u3 mi 6 0 2 (mi 6 0 4)) 20 0 (((u3 mi 6 0 2 (mi 6 0 4)) 6 0 4).toNatClampNeg)) < 48) ∧ (¬ (57 < ((u3 mi 6 0 2 (mi 6 0 4)) 20 0 (((u3 mi 6 0 2 (mi 6 0 4)) 6 0 4).toNatClampNeg)))) then (F_X7_nextNumber (u3 mi 6 0 2 (mi 6 0 4)) w ).bind fun c31 => some c31 else ck (¬ (((u3 mi 6 0 2 (mi 6 0 4)) 6 0 4) < 0 ∨ 600 ≤ ((u3 mi 6 0 2 (mi 6 0 4)) 6 0 4).toNatClampNeg)) (lt (u3 (u3 (u3 mi 6 0 2 (mi 6 0 4)) 6 0 3 (if ((u3 mi 6 0 2 (mi 6 0 4)) 20 0 (((u3 mi 6 0 2 (mi 6 0 4)) 6 0 4).toNatClampNeg)) = 59 then 2 else 4)) 6 0 2 (((u3 (u3 mi 6 0 2 (mi 6 0 4)) 6 0 3 (if ((u3 mi 6 0 2 (mi 6 0 4)) 20 0 (((u3 mi 6 0 2 (mi 6 0 4)) 6 0 4).toNatClampNeg)) = 59 then 2 else 4)) 6 0 2) + 1)) fun m34 => some m34))) else lt (u3 (u3 mi 6 0 2 (mi 6 0 4)) 6 0 3 3) fun m33 => some m33)

theorem l_X7_next_8 {gl : Nat} {gx : Nat → Int32} {d : Nat} {P : PL} {Q : PO} {lv : LV} {w : WS} (hw : w.2.1 = true) (n : Nat) : ∀ {mi : MI} {r : MI}, L_X7_next_8 w n mi = some r → (Q aU (r, RS w, lv)) → Wp gl gx (d + 2) P 107 8 [aR 6 0] [] (mi, RS w, lv) Q := by
  induction n with
  | zero => intro mi r hf h0; exact o_none hf
  | succ n ih => intro mi r hf h0; exact r_X7_next_8 hw (⟨fun q318 => k_ifp q318 hf (fun q320 => r_X7_next_47 hw (⟨fun q321 => k_ifp q321 q320 (fun q323 => k_ck q323 (fun q325 q324 => ⟨q325, ⟨fun q326 => k_ifn q326 q324 (fun q328 => k_ck q328 (fun q330 q329 => ⟨q330, ⟨fun q331 => k_ifn q331 q329 (fun q333 => k_ck q333 (fun q335 q334 => ⟨q335, fun m34 hm34 => k_lt q334 hm34 (fun q336 => o_rMV q336 h0)⟩)), fun q332 => k_ifp q332 q329 (fun q333 => o_bind q333 (fun c31 qc31 pc31 => ⟨c31, qc31, o_rMV pc31 h0⟩))⟩⟩)), fun q327 => k_ifp q327 q324 (fun q328 => o_bind q328 (fun c32 qc32 pc32 => ⟨c32, qc32, o_rMV pc32 h0⟩))⟩⟩)), fun q322 => k_ifn q322 q320 (fun q323 => fun m33 hm33 => k_lt q323 hm33 (fun q337 => o_rMV q337 h0))⟩)), fun q319 => k_ifn q319 hf (fun q320 => k_ck q320 (fun q339 q338 => ⟨q339, ⟨fun q340 => k_ifn q340 q338 (fun q342 => r_X7_next_47 hw (⟨fun q343 => k_ifp q343 q342 (fun q345 => k_ck q345 (fun q347 q346 => ⟨q347, ⟨fun q348 => k_ifn q348 q346 (fun q350 => k_ck q350 (fun q352 q351 => ⟨q352, ⟨fun q353 => k_ifn q353 q351 (fun q355 => k_ck q355 (fun q357 q356 => ⟨q357, fun m34 hm34 => k_lt q356 hm34 (fun q358 => o_rMV q358 h0)⟩)), fun q354 => k_ifp q354 q351 (fun q355 => o_bind q355 (fun c31 qc31 pc31 => ⟨c31, qc31, o_rMV pc31 h0⟩))⟩⟩)), fun q349 => k_ifp q349 q346 (fun q350 => o_bind q350 (fun c32 qc32 pc32 => ⟨c32, qc32, o_rMV pc32 h0⟩))⟩⟩)), fun q344 => k_ifn q344 q342 (fun q345 => fun m33 hm33 => k_lt q345 hm33 (fun q359 => o_rMV q359 h0))⟩)), fun q341 => k_ifp q341 q338 (fun q342 => ih q342 h0)⟩⟩))⟩)

def F_X7_next (mi : MI) (w : WS)  : Option MI := ck (w.2.1 = true) (L_X7_next_8 w 1000000 (u3 mi 6 0 4 (mi 6 0 2)))

theorem s_X7_next {gl : Nat} {gx : Nat → Int32} {d : Nat} {P : PL} {Q : PO} {mi : MI} {w : WS} {lv : LV}  {r : MI} (hf : F_X7_next mi w  = some r) (h0 : Q aU (r, RS w, lv)) : Wp gl gx (d + 2) P 107 0 [aR 6 0] [] (mi, RS w, lv) Q := k_ck hf (fun hw hf => r_X7_next_0 hw (l_X7_next_8 hw 1000000 hf h0))

abbrev row_106 : MT := (⟨"StencilHouse$Tokens", "begin", "([II)V"⟩, prog_9_method_2_code, 3, none, 1, lk_7)
set_option maxRecDepth 20000 in
theorem mt_106 : mt 106 = some row_106 := rfl
theorem r_X7_begin_5 {gl : Nat} {gx : Nat → Int32} {d : Nat} {P : PL} {Q : PO} {mi : MI} {w : WS} {lv : LV} {x2 : Int32} (h : (∀ m35 : MI, m35 = u3 (u3 mi 6 0 1 (imin x2 600)) 6 0 2 0 → (∃ c36 : MI, F_X7_next m35 w  = some c36 ∧ Q aU (c36, RS w, lv)))) : Wp gl gx (d + 3) P 106 5 [aR 6 0, aR 20 0, aI x2] [] (mi, RS w, lv) Q := 
  wpT row_106 mt_106 [.aload_n 0, .iload_n 2, .aload_n 1, .arraylength, .invokestatic 29] (by decide +kernel) [(12, [.putfield 13, .aload_n 0, .iconst 0, .putfield 17]), (20, [.aload_n 0, .invokevirtual 35]), (24, [.return_])] (by decide +kernel) 44 (And.intro (Nat.le_of_ble_eq_true rfl) (Exists.elim (h _ rfl) (fun c36 zc36 => And.intro ⟨Nat.le_of_ble_eq_true rfl, rfl, rfl⟩ (s_X7_next (d := d) zc36.1 (zc36.2)))))

theorem r_X7_begin_0 {gl : Nat} {gx : Nat → Int32} {d : Nat} {P : PL} {Q : PO} {mi : MI} {w : WS} {lv : LV} {x2 : Int32} (h : Wp gl gx (d + 3) P 106 5 [aR 6 0, aR 20 0, aI x2] [] (mi, RS (w.1, true, w.2.2), lv) Q) : Wp gl gx (d + 3) P 106 0 [aR 6 0, aR 20 0, aI x2] [] (mi, RS w, lv) Q := 
  wpT row_106 mt_106 [.aload_n 0, .aload_n 1, .putfield 7] (by decide +kernel) [] (by decide +kernel) 26 (wp_rs rs_tape h)

def F_X7_begin (mi : MI) (w : WS) (x2 : Int32) : Option (MI × WS) := lt (u3 (u3 mi 6 0 1 (imin x2 600)) 6 0 2 0) fun m35 => (F_X7_next m35 (w.1, true, w.2.2) ).bind fun c36 => some (c36, (w.1, true, w.2.2))

theorem s_X7_begin {gl : Nat} {gx : Nat → Int32} {d : Nat} {P : PL} {Q : PO} {mi : MI} {w : WS} {lv : LV} {x2 : Int32} {r : (MI × WS)} (hf : F_X7_begin mi w x2 = some r) (h0 : Q aU (r.1, RS r.2, lv)) : Wp gl gx (d + 3) P 106 0 [aR 6 0, aR 20 0, aI x2] [] (mi, RS w, lv) Q := r_X7_begin_0 (r_X7_begin_5 (fun m35 hm35 => k_lt hf hm35 (fun q360 => o_bind q360 (fun c36 qc36 pc36 => ⟨c36, qc36, o_rV pc36 h0⟩))))
end
section
/-! METHODS AS FUNCTIONS (4) -/
theorem vpd {x : Int32} {n : Nat} (h : decide (¬ (x < 0 ∨ n ≤ x.toNatClampNeg)) = true) : vp_in x n := (of_decide_eq_true h : ¬ (x < 0 ∨ n ≤ x.toNatClampNeg))
abbrev row_5 : MT := (⟨"StencilHouse$Figures", "leastPatches", "(LStencilHouse$Shop;III)I"⟩, prog_3_method_3_code, 7, some .int, 0, lk_1)
set_option maxRecDepth 20000 in
theorem mt_5 : mt 5 = some row_5 := rfl
theorem r_X1_leastPatches_69 {gl : Nat} {gx : Nat → Int32} {d : Nat} {P : PL} {Q : PO} {mi : MI} {w : WS} {lv : LV} {i0 : Nat} {x1 : Int32} {x2 : Int32} {x3 : Int32} {x4 : Int32} {x5 : Int32} {v6 : AV} {kr : Nat → Int32 → Int32 → Int32 → Option Int32} (hkr : ∀ {P : PL} {Q : PO} {i0 : Nat} {x1 : Int32} {x2 : Int32} {x3 : Int32} {r : Int32}, kr i0 x1 x2 x3 = some r → Q (aI r) (mi, RS w, lv) → Wp gl gx (d + 3) P 5 0 [aR 5 i0, aI x1, aI x2, aI x3, aU, aU, aU] [] (mi, RS w, lv) Q) (h : Wp gl gx (d + 4) P 5 21 [aR 5 i0, aI x1, aI x2, aI x3, aI (x4 + 1), aI x5, v6] [] (mi, RS w, lv) Q) : Wp gl gx (d + 4) P 5 69 [aR 5 i0, aI x1, aI x2, aI x3, aI x4, aI x5, v6] [] (mi, RS w, lv) Q := 
  wpT row_5 mt_5 [.iinc 4 1, .goto (.negSucc 50)] (by decide +kernel) [] (by decide +kernel) 24 (h)

theorem r_X1_leastPatches_21 {gl : Nat} {gx : Nat → Int32} {d : Nat} {P : PL} {Q : PO} {mi : MI} {w : WS} {lv : LV} {i0 : Nat} {x1 : Int32} {x2 : Int32} {x3 : Int32} {x4 : Int32} {v5 : AV} {v6 : AV} {kr : Nat → Int32 → Int32 → Int32 → Option Int32} (hkr : ∀ {P : PL} {Q : PO} {i0 : Nat} {x1 : Int32} {x2 : Int32} {x3 : Int32} {r : Int32}, kr i0 x1 x2 x3 = some r → Q (aI r) (mi, RS w, lv) → Wp gl gx (d + 3) P 5 0 [aR 5 i0, aI x1, aI x2, aI x3, aU, aU, aU] [] (mi, RS w, lv) Q) (h : ((x3 ≤ x4) → Q (aI (-1)) (mi, RS w, lv)) ∧ (¬ (x3 ≤ x4) → (((x1 &&& ((1 : Int32) <<< (x4 &&& 31))) = 0) → Wp gl gx (d + 4) P 5 21 [aR 5 i0, aI x1, aI x2, aI x3, aI (x4 + 1), aI ((1 : Int32) <<< (x4 &&& 31)), v6] [] (mi, RS w, lv) Q) ∧ (¬ ((x1 &&& ((1 : Int32) <<< (x4 &&& 31))) = 0) → (∃ c1 : Int32, kr i0 (x1 &&& (((1 : Int32) <<< (x4 &&& 31)) ^^^ (-1))) (x2 - 1) x4 = some c1 ∧ ((c1 = (-1)) → Wp gl gx (d + 4) P 5 21 [aR 5 i0, aI x1, aI x2, aI x3, aI (x4 + 1), aI ((1 : Int32) <<< (x4 &&& 31)), (aI c1)] [] (mi, RS w, lv) Q) ∧ (¬ (c1 = (-1)) → Q (aI (c1 ||| ((1 : Int32) <<< (x4 &&& 31)))) (mi, RS w, lv)))))) : Wp gl gx (d + 4) P 5 21 [aR 5 i0, aI x1, aI x2, aI x3, aI x4, v5, v6] [] (mi, RS w, lv) Q := 
  wpT row_5 mt_5 [.iload 4, .iload_n 3, .if_icmp .ge 51] (by decide +kernel) [(75, [.iconst (.negSucc 0), .ireturn]), (27, [.iconst 1, .iload 4, .ishl, .istore 5, .iload_n 1, .iload 5, .iand, .ifCond .eq 32]), (40, [.aload_n 0, .iload_n 1, .iload 5, .iconst (.negSucc 0), .ixor, .iand, .iload_n 2, .iconst 1, .isub, .iload 4, .invokestatic 9]), (55, [.istore 6, .iload 6, .iconst (.negSucc 0), .if_icmp .eq 9]), (63, [.iload 6, .iload 5, .ior, .ireturn])] (by decide +kernel) 84 (And.intro (fun q1 => (h.1 q1)) (fun q2 => And.intro (fun q3 => r_X1_leastPatches_69 (i0 := i0) (x1 := x1) (x2 := x2) (x3 := x3) (x4 := x4) (x5 := ((1 : Int32) <<< (x4 &&& 31))) (v6 := v6) (mi := mi) (hkr := hkr) ((h.2 q2).1 q3)) (fun q4 => Exists.elim ((h.2 q2).2 q4) (fun c1 zc1 => And.intro ⟨Nat.le_of_ble_eq_true rfl, rfl, rfl⟩ (hkr zc1.1 (And.intro (fun q5 => r_X1_leastPatches_69 (i0 := i0) (x1 := x1) (x2 := x2) (x3 := x3) (x4 := x4) (x5 := ((1 : Int32) <<< (x4 &&& 31))) (v6 := (aI c1)) (mi := mi) (hkr := hkr) (zc1.2.1 q5)) (fun q6 => (zc1.2.2 q6))))))))

theorem r_X1_leastPatches_0 {gl : Nat} {gx : Nat → Int32} {d : Nat} {P : PL} {Q : PO} {mi : MI} {w : WS} {lv : LV} {i0 : Nat} {x1 : Int32} {x2 : Int32} {x3 : Int32} {kr : Nat → Int32 → Int32 → Int32 → Option Int32} (hkr : ∀ {P : PL} {Q : PO} {i0 : Nat} {x1 : Int32} {x2 : Int32} {x3 : Int32} {r : Int32}, kr i0 x1 x2 x3 = some r → Q (aI r) (mi, RS w, lv) → Wp gl gx (d + 3) P 5 0 [aR 5 i0, aI x1, aI x2, aI x3, aU, aU, aU] [] (mi, RS w, lv) Q) (h : ((0 < x2) → Wp gl gx (d + 4) P 5 21 [aR 5 i0, aI x1, aI x2, aI x3, aI 0, aU, aU] [] (mi, RS w, lv) Q) ∧ (¬ (0 < x2) → Q (aI (if (f_X6_falling mi i0 x1) = 0 then 0 else (-1))) (mi, RS w, lv))) : Wp gl gx (d + 4) P 5 0 [aR 5 i0, aI x1, aI x2, aI x3, aU, aU, aU] [] (mi, RS w, lv) Q := 
  wpT row_5 mt_5 [.iload_n 2, .ifCond .gt 17] (by decide +kernel) [(18, [.iconst 0, .istore 4]), (4, [.aload_n 0, .iload_n 1, .invokevirtual 15]), (9, [.ifCond .ne 7]), (16, [.iconst (.negSucc 0), .ireturn]), (12, [.iconst 0, .goto 4]), (17, [.ireturn])] (by decide +kernel) 46 (And.intro (fun q7 => (h.1 q7)) (fun q8 => And.intro ⟨Nat.le_of_ble_eq_true rfl, rfl, rfl⟩ (s_X6_falling (d := d) (And.intro (fun q9 => (mv9 (fun v => Q (aI v) (mi, RS w, lv)) (show (if (f_X6_falling mi i0 x1) = 0 then 0 else (-1)) = (-1) from if_neg (show ¬ ((f_X6_falling mi i0 x1) = 0) from q9)) (h.2 q8))) (fun q10 => (mv9 (fun v => Q (aI v) (mi, RS w, lv)) (show (if (f_X6_falling mi i0 x1) = 0 then 0 else (-1)) = 0 from if_pos (show (f_X6_falling mi i0 x1) = 0 from q10)) (h.2 q8)))))))

def L_X1_leastPatches_21 (mi : MI) (w : WS) (kr : Nat → Int32 → Int32 → Int32 → Option Int32) : Nat → Nat → Int32 → Int32 → Int32 → Int32 → Option Int32
  | 0, _, _, _, _, _ => none
  | n + 1, i0, x1, x2, x3, x4 => if x3 ≤ x4 then some (-1 : Int32) else if (x1 &&& ((1 : Int32) <<< (x4 &&& 31))) = 0 then L_X1_leastPatches_21 mi w kr n i0 x1 x2 x3 (x4 + 1) else (kr i0 (x1 &&& (((1 : Int32) <<< (x4 &&& 31)) ^^^ (-1))) (x2 - 1) x4).bind fun c1 => if c1 = (-1) then L_X1_leastPatches_21 mi w kr n i0 x1 x2 x3 (x4 + 1) else some (c1 ||| ((1 : Int32) <<< (x4 &&& 31)))

theorem l_X1_leastPatches_21 {gl : Nat} {gx : Nat → Int32} {d : Nat} {P : PL} {Q : PO} {lv : LV} {mi : MI} {w : WS} {kr : Nat → Int32 → Int32 → Int32 → Option Int32} (hkr : ∀ {P : PL} {Q : PO} {i0 : Nat} {x1 : Int32} {x2 : Int32} {x3 : Int32} {r : Int32}, kr i0 x1 x2 x3 = some r → Q (aI r) (mi, RS w, lv) → Wp gl gx (d + 3) P 5 0 [aR 5 i0, aI x1, aI x2, aI x3, aU, aU, aU] [] (mi, RS w, lv) Q) (n : Nat) : ∀ {i0 : Nat} {x1 : Int32} {x2 : Int32} {x3 : Int32} {x4 : Int32} {v5 : AV} {v6 : AV} {r : Int32}, L_X1_leastPatches_21 mi w kr n i0 x1 x2 x3 x4 = some r → (Q (aI r) (mi, RS w, lv)) → Wp gl gx (d + 4) P 5 21 [aR 5 i0, aI x1, aI x2, aI x3, aI x4, v5, v6] [] (mi, RS w, lv) Q := by
  induction n with
  | zero => intro i0 x1 x2 x3 x4 v5 v6 r hf h0; exact o_none hf
  | succ n ih => intro i0 x1 x2 x3 x4 v5 v6 r hf h0; exact r_X1_leastPatches_21 hkr (⟨fun q11 => k_ifp q11 hf (fun q13 => o_rP q13 h0), fun q12 => k_ifn q12 hf (fun q13 => ⟨fun q14 => k_ifp q14 q13 (fun q16 => ih q16 h0), fun q15 => k_ifn q15 q13 (fun q16 => o_bind q16 (fun c1 qc1 pc1 => ⟨c1, qc1, ⟨fun q17 => k_ifp q17 pc1 (fun q19 => ih q19 h0), fun q18 => k_ifn q18 pc1 (fun q19 => o_rP q19 h0)⟩⟩))⟩)⟩)

def F_X1_leastPatches (mi : MI) (w : WS) : Nat → Nat → Int32 → Int32 → Int32 → Option Int32
  | 0, _, _, _, _ => none
  | n + 1, i0, x1, x2, x3 => if 0 < x2 then L_X1_leastPatches_21 mi w (F_X1_leastPatches mi w n) 1000000 i0 x1 x2 x3 0 else some (if (f_X6_falling mi i0 x1) = 0 then 0 else (-1))

theorem n_X1_leastPatches {gl : Nat} {gx : Nat → Int32} {mi : MI} {w : WS} {lv : LV} (n : Nat) : ∀ {d : Nat} {P : PL} {Q : PO} {i0 : Nat} {x1 : Int32} {x2 : Int32} {x3 : Int32} {r : Int32}, F_X1_leastPatches mi w n i0 x1 x2 x3 = some r → Q (aI r) (mi, RS w, lv) → Wp gl gx (d + n + 3) P 5 0 [aR 5 i0, aI x1, aI x2, aI x3, aU, aU, aU] [] (mi, RS w, lv) Q := by
  induction n with
  | zero => intro d P Q i0 x1 x2 x3 r hf h0; exact o_none hf
  | succ n ih =>
    intro d P Q i0 x1 x2 x3 r hf h0
    have hkr : ∀ {P : PL} {Q : PO} {i0 : Nat} {x1 : Int32} {x2 : Int32} {x3 : Int32} {r : Int32}, F_X1_leastPatches mi w n i0 x1 x2 x3 = some r → Q (aI r) (mi, RS w, lv) → Wp gl gx (d + n + 3) P 5 0 [aR 5 i0, aI x1, aI x2, aI x3, aU, aU, aU] [] (mi, RS w, lv) Q := fun hf h => ih hf h
    exact r_X1_leastPatches_0 (d := d + n) hkr (⟨fun q20 => k_ifp q20 hf (fun q22 => l_X1_leastPatches_21 hkr 1000000 q22 h0), fun q21 => k_ifn q21 hf (fun q22 => o_rP q22 h0)⟩)

theorem s_X1_leastPatches {gl : Nat} {gx : Nat → Int32} {d : Nat} {P : PL} {Q : PO} {mi : MI} {w : WS} {lv : LV} {i0 : Nat} {x1 : Int32} {x2 : Int32} {x3 : Int32} {r : Int32} (hf : F_X1_leastPatches mi w 16 i0 x1 x2 x3 = some r) (h0 : Q (aI r) (mi, RS w, lv)) : Wp gl gx (d + 19) P 5 0 [aR 5 i0, aI x1, aI x2, aI x3, aU, aU, aU] [] (mi, RS w, lv) Q := n_X1_leastPatches 16 (d := d) hf h0

abbrev row_6 : MT := (⟨"StencilHouse$Figures", "fewestCovering", "(LStencilHouse$Shop;)I"⟩, prog_3_method_4_code, 5, some .int, 0, lk_1)
set_option maxRecDepth 20000 in
theorem mt_6 : mt 6 = some row_6 := rfl
theorem r_X1_fewestCovering_47 {gl : Nat} {gx : Nat → Int32} {d : Nat} {P : PL} {Q : PO} {mi : MI} {w : WS} {lv : LV} {i0 : Nat} {x1 : Int32} {x2 : Int32} {x3 : Int32} {x4 : Int32} (h : Wp gl gx (d + 1) P 6 16 [aR 5 i0, aI x1, aI x2, aI x3, aI (x4 + 1)] [] (mi, RS w, lv) Q) : Wp gl gx (d + 1) P 6 47 [aR 5 i0, aI x1, aI x2, aI x3, aI x4] [] (mi, RS w, lv) Q := 
  wpT row_6 mt_6 [.iinc 4 1, .goto (.negSucc 33)] (by decide +kernel) [] (by decide +kernel) 24 (h)

theorem r_X1_fewestCovering_16 {gl : Nat} {gx : Nat → Int32} {d : Nat} {P : PL} {Q : PO} {mi : MI} {w : WS} {lv : LV} {i0 : Nat} {x1 : Int32} {x2 : Int32} {x3 : Int32} {x4 : Int32} (h : ((x1 < x4) → Q (aI x3) (mi, RS w, lv)) ∧ (¬ (x1 < x4) → (((pop32 x3) ≤ (pop32 x4)) → Wp gl gx (d + 1) P 6 16 [aR 5 i0, aI x1, aI x2, aI x3, aI (x4 + 1)] [] (mi, RS w, lv) Q) ∧ (¬ ((pop32 x3) ≤ (pop32 x4)) → (∃ c3 : Int32, F_X6_union mi w i0 x4 = some c3 ∧ Wp gl gx (d + 1) P 6 16 [aR 5 i0, aI x1, aI x2, aI (if c3 = x2 then x4 else x3), aI (x4 + 1)] [] (mi, RS w, lv) Q)))) : Wp gl gx (d + 1) P 6 16 [aR 5 i0, aI x1, aI x2, aI x3, aI x4] [] (mi, RS w, lv) Q := 
  wpT row_6 mt_6 [.iload 4, .iload_n 1, .if_icmp .gt 34] (by decide +kernel) [(53, [.iload_n 3, .ireturn]), (22, [.iload 4, .invokestatic 28]), (27, [.iload_n 3, .invokestatic 28]), (31, [.if_icmp .ge 16]), (34, [.aload_n 0, .iload 4, .invokevirtual 25]), (40, [.iload_n 2, .if_icmp .ne 6]), (44, [.iload 4, .istore_n 3])] (by decide +kernel) 54 (And.intro (fun q23 => (h.1 q23)) (fun q24 => And.intro ⟨Nat.le_of_ble_eq_true rfl, rfl, rfl⟩ (s_J6_bitCount_0f7a4 (d := d) (And.intro ⟨Nat.le_of_ble_eq_true rfl, rfl, rfl⟩ (s_J6_bitCount_0f7a4 (d := d) (And.intro (fun q25 => r_X1_fewestCovering_47 (i0 := i0) (x1 := x1) (x2 := x2) (x3 := x3) (x4 := x4) (mi := mi) ((h.2 q24).1 q25)) (fun q26 => Exists.elim ((h.2 q24).2 q26) (fun c3 zc3 => And.intro ⟨Nat.le_of_ble_eq_true rfl, rfl, rfl⟩ (s_X6_union (d := d) zc3.1 (And.intro (fun q27 => r_X1_fewestCovering_47 (i0 := i0) (x1 := x1) (x2 := x2) (x3 := x3) (x4 := x4) (mi := mi) (mv9 (fun v => Wp gl gx (d + 1) P 6 16 [aR 5 i0, aI x1, aI x2, aI v, aI (x4 + 1)] [] (mi, RS w, lv) Q) (show (if c3 = x2 then x4 else x3) = x3 from if_neg (show ¬ (c3 = x2) from q27)) zc3.2)) (fun q28 => r_X1_fewestCovering_47 (i0 := i0) (x1 := x1) (x2 := x2) (x3 := x4) (x4 := x4) (mi := mi) (mv9 (fun v => Wp gl gx (d + 1) P 6 16 [aR 5 i0, aI x1, aI x2, aI v, aI (x4 + 1)] [] (mi, RS w, lv) Q) (show (if c3 = x2 then x4 else x3) = x4 from if_pos (show c3 = x2 from q28)) zc3.2))))))))))))

theorem r_X1_fewestCovering_0 {gl : Nat} {gx : Nat → Int32} {d : Nat} {P : PL} {Q : PO} {mi : MI} {w : WS} {lv : LV} {i0 : Nat} (h : (∃ c2 : Int32, F_X6_union mi w i0 (f_X6_everySheet mi i0) = some c2 ∧ Wp gl gx (d + 1) P 6 16 [aR 5 i0, aI (f_X6_everySheet mi i0), aI c2, aI (f_X6_everySheet mi i0), aI 0] [] (mi, RS w, lv) Q)) : Wp gl gx (d + 1) P 6 0 [aR 5 i0, aU, aU, aU, aU] [] (mi, RS w, lv) Q := 
  wpT row_6 mt_6 [.aload_n 0, .invokevirtual 21] (by decide +kernel) [(4, [.istore_n 1, .aload_n 0, .iload_n 1, .invokevirtual 25]), (10, [.istore_n 2, .iload_n 1, .istore_n 3, .iconst 0, .istore 4])] (by decide +kernel) 42 (And.intro ⟨Nat.le_of_ble_eq_true rfl, rfl, rfl⟩ (s_X6_everySheet (d := d) (Exists.elim h (fun c2 zc2 => And.intro ⟨Nat.le_of_ble_eq_true rfl, rfl, rfl⟩ (s_X6_union (d := d) zc2.1 (zc2.2))))))

def L_X1_fewestCovering_16 (mi : MI) (w : WS) : Nat → Nat → Int32 → Int32 → Int32 → Int32 → Option Int32
  | 0, _, _, _, _, _ => none
  | n + 1, i0, x1, x2, x3, x4 => if x1 < x4 then some x3 else if (pop32 x3) ≤ (pop32 x4) then L_X1_fewestCovering_16 mi w n i0 x1 x2 x3 (x4 + 1) else (F_X6_union mi w i0 x4).bind fun c3 => L_X1_fewestCovering_16 mi w n i0 x1 x2 (if c3 = x2 then x4 else x3) (x4 + 1)

theorem l_X1_fewestCovering_16 {gl : Nat} {gx : Nat → Int32} {d : Nat} {P : PL} {Q : PO} {lv : LV} {mi : MI} {w : WS} (n : Nat) : ∀ {i0 : Nat} {x1 : Int32} {x2 : Int32} {x3 : Int32} {x4 : Int32} {r : Int32}, L_X1_fewestCovering_16 mi w n i0 x1 x2 x3 x4 = some r → (Q (aI r) (mi, RS w, lv)) → Wp gl gx (d + 1) P 6 16 [aR 5 i0, aI x1, aI x2, aI x3, aI x4] [] (mi, RS w, lv) Q := by
  induction n with
  | zero => intro i0 x1 x2 x3 x4 r hf h0; exact o_none hf
  | succ n ih => intro i0 x1 x2 x3 x4 r hf h0; exact r_X1_fewestCovering_16 (⟨fun q29 => k_ifp q29 hf (fun q31 => o_rP q31 h0), fun q30 => k_ifn q30 hf (fun q31 => ⟨fun q32 => k_ifp q32 q31 (fun q34 => ih q34 h0), fun q33 => k_ifn q33 q31 (fun q34 => o_bind q34 (fun c3 qc3 pc3 => ⟨c3, qc3, ih pc3 h0⟩))⟩)⟩)

def F_X1_fewestCovering (mi : MI) (w : WS) (i0 : Nat) : Option Int32 := (F_X6_union mi w i0 (f_X6_everySheet mi i0)).bind fun c2 => L_X1_fewestCovering_16 mi w 1000000 i0 (f_X6_everySheet mi i0) c2 (f_X6_everySheet mi i0) 0

theorem s_X1_fewestCovering {gl : Nat} {gx : Nat → Int32} {d : Nat} {P : PL} {Q : PO} {mi : MI} {w : WS} {lv : LV} {i0 : Nat} {r : Int32} (hf : F_X1_fewestCovering mi w i0 = some r) (h0 : Q (aI r) (mi, RS w, lv)) : Wp gl gx (d + 1) P 6 0 [aR 5 i0, aU, aU, aU, aU] [] (mi, RS w, lv) Q := r_X1_fewestCovering_0 (o_bind hf (fun c2 qc2 pc2 => ⟨c2, qc2, l_X1_fewestCovering_16 1000000 pc2 h0⟩))

abbrev row_8 : MT := (⟨"StencilHouse$Figures", "liesApart", "(LStencilHouse$Shop;I)Z"⟩, prog_3_method_6_code, 4, some .boolean, 0, lk_1)
set_option maxRecDepth 20000 in
theorem mt_8 : mt 8 = some row_8 := rfl
theorem r_X1_liesApart_42 {gl : Nat} {gx : Nat → Int32} {d : Nat} {P : PL} {Q : PO} {mi : MI} {w : WS} {lv : LV} {i0 : Nat} {x1 : Int32} {x2 : Int32} {x3 : Int32} (h : Wp gl gx d P 8 4 [aR 5 i0, aI x1, aI x2, aI (x3 + 1)] [] (mi, RS w, lv) Q) : Wp gl gx d P 8 42 [aR 5 i0, aI x1, aI x2, aI x3] [] (mi, RS w, lv) Q := 
  wpT row_8 mt_8 [.iinc 3 1, .goto (.negSucc 40)] (by decide +kernel) [] (by decide +kernel) 24 (h)

theorem r_X1_liesApart_4 {gl : Nat} {gx : Nat → Int32} {d : Nat} {P : PL} {Q : PO} {mi : MI} {w : WS} {lv : LV} {i0 : Nat} {x1 : Int32} {x2 : Int32} {x3 : Int32} (h : (((mi 5 i0 3) ≤ x3) → Q (aI 1) (mi, RS w, lv)) ∧ (¬ ((mi 5 i0 3) ≤ x3) → ((((x1 >>> (x3 &&& 31)) &&& 1) = 0) → Wp gl gx d P 8 4 [aR 5 i0, aI x1, aI x2, aI (x3 + 1)] [] (mi, RS w, lv) Q) ∧ (¬ (((x1 >>> (x3 &&& 31)) &&& 1) = 0) → (vp_in x3 6) ∧ ((((x2 &&& (mi 28 i0 x3.toNatClampNeg)) = 0) → (vp_in x3 6) ∧ (Wp gl gx d P 8 4 [aR 5 i0, aI x1, aI (x2 ||| (mi 28 i0 x3.toNatClampNeg)), aI (x3 + 1)] [] (mi, RS w, lv) Q)) ∧ (¬ ((x2 &&& (mi 28 i0 x3.toNatClampNeg)) = 0) → Q (aI 0) (mi, RS w, lv)))))) : Wp gl gx d P 8 4 [aR 5 i0, aI x1, aI x2, aI x3] [] (mi, RS w, lv) Q := 
  wpT row_8 mt_8 [.iload_n 3, .aload_n 0, .getfield 37, .if_icmp .ge 39] (by decide +kernel) [(48, [.iconst 1, .ireturn]), (12, [.iload_n 1, .iload_n 3, .ishr, .iconst 1, .iand, .ifCond .eq 25]), (20, [.iload_n 2, .aload_n 0, .getfield 41, .iload_n 3, .iaload]), (27, [.iand, .ifCond .eq 5]), (33, [.iload_n 2, .aload_n 0, .getfield 41, .iload_n 3, .iaload]), (40, [.ior, .istore_n 2]), (31, [.iconst 0, .ireturn])] (by decide +kernel) 76 (And.intro (fun q35 => And.intro rfl (h.1 q35)) (fun q36 => And.intro (fun q37 => r_X1_liesApart_42 (i0 := i0) (x1 := x1) (x2 := x2) (x3 := x3) (mi := mi) ((h.2 q36).1 q37)) (fun q38 => And.intro ((h.2 q36).2 q38).1 (And.intro (fun q39 => And.intro (((h.2 q36).2 q38).2.1 q39).1 (r_X1_liesApart_42 (i0 := i0) (x1 := x1) (x2 := (x2 ||| (mi 28 i0 x3.toNatClampNeg))) (x3 := x3) (mi := mi) ((((h.2 q36).2 q38).2.1 q39).2))) (fun q40 => And.intro rfl (((h.2 q36).2 q38).2.2 q40))))))

theorem r_X1_liesApart_0 {gl : Nat} {gx : Nat → Int32} {d : Nat} {P : PL} {Q : PO} {mi : MI} {w : WS} {lv : LV} {i0 : Nat} {x1 : Int32} (h : Wp gl gx d P 8 4 [aR 5 i0, aI x1, aI 0, aI 0] [] (mi, RS w, lv) Q) : Wp gl gx d P 8 0 [aR 5 i0, aI x1, aU, aU] [] (mi, RS w, lv) Q := 
  wpT row_8 mt_8 [.iconst 0, .istore_n 2, .iconst 0, .istore_n 3] (by decide +kernel) [] (by decide +kernel) 28 (h)

def L_X1_liesApart_4 (mi : MI) (w : WS) : Nat → Nat → Int32 → Int32 → Int32 → Option Int32
  | 0, _, _, _, _ => none
  | n + 1, i0, x1, x2, x3 => if (mi 5 i0 3) ≤ x3 then some (1 : Int32) else if ((x1 >>> (x3 &&& 31)) &&& 1) = 0 then L_X1_liesApart_4 mi w n i0 x1 x2 (x3 + 1) else ck (¬ (x3 < 0 ∨ 6 ≤ x3.toNatClampNeg)) (if (x2 &&& (mi 28 i0 x3.toNatClampNeg)) = 0 then ck (¬ (x3 < 0 ∨ 6 ≤ x3.toNatClampNeg)) (L_X1_liesApart_4 mi w n i0 x1 (x2 ||| (mi 28 i0 x3.toNatClampNeg)) (x3 + 1)) else some (0 : Int32))

theorem l_X1_liesApart_4 {gl : Nat} {gx : Nat → Int32} {d : Nat} {P : PL} {Q : PO} {lv : LV} {mi : MI} {w : WS} (n : Nat) : ∀ {i0 : Nat} {x1 : Int32} {x2 : Int32} {x3 : Int32} {r : Int32}, L_X1_liesApart_4 mi w n i0 x1 x2 x3 = some r → (Q (aI r) (mi, RS w, lv)) → Wp gl gx d P 8 4 [aR 5 i0, aI x1, aI x2, aI x3] [] (mi, RS w, lv) Q := by
  induction n with
  | zero => intro i0 x1 x2 x3 r hf h0; exact o_none hf
  | succ n ih => intro i0 x1 x2 x3 r hf h0; exact r_X1_liesApart_4 (⟨fun q41 => k_ifp q41 hf (fun q43 => o_rP q43 h0), fun q42 => k_ifn q42 hf (fun q43 => ⟨fun q44 => k_ifp q44 q43 (fun q46 => ih q46 h0), fun q45 => k_ifn q45 q43 (fun q46 => k_ck q46 (fun q48 q47 => ⟨q48, ⟨fun q49 => k_ifp q49 q47 (fun q51 => k_ck q51 (fun q53 q52 => ⟨q53, ih q52 h0⟩)), fun q50 => k_ifn q50 q47 (fun q51 => o_rP q51 h0)⟩⟩))⟩)⟩)

def F_X1_liesApart (mi : MI) (w : WS) (i0 : Nat) (x1 : Int32) : Option Int32 := L_X1_liesApart_4 mi w 1000000 i0 x1 0 0

theorem s_X1_liesApart {gl : Nat} {gx : Nat → Int32} {d : Nat} {P : PL} {Q : PO} {mi : MI} {w : WS} {lv : LV} {i0 : Nat} {x1 : Int32} {r : Int32} (hf : F_X1_liesApart mi w i0 x1 = some r) (h0 : Q (aI r) (mi, RS w, lv)) : Wp gl gx d P 8 0 [aR 5 i0, aI x1, aU, aU] [] (mi, RS w, lv) Q := r_X1_liesApart_0 (l_X1_liesApart_4 1000000 hf h0)

abbrev row_11 : MT := (⟨"StencilHouse$Figures", "bestWorth", "(LStencilHouse$Shop;IIIIII)I"⟩, prog_3_method_9_code, 12, some .int, 0, lk_1)
set_option maxRecDepth 20000 in
theorem mt_11 : mt 11 = some row_11 := rfl
theorem r_X1_bestWorth_123 {gl : Nat} {gx : Nat → Int32} {d : Nat} {P : PL} {Q : PO} {mi : MI} {w : WS} {lv : LV} {i0 : Nat} {x1 : Int32} {x2 : Int32} {x3 : Int32} {x4 : Int32} {x5 : Int32} {x6 : Int32} {x7 : Int32} {x8 : Int32} {v9 : AV} {v10 : AV} {v11 : AV} {kr : Nat → Int32 → Int32 → Int32 → Int32 → Int32 → Int32 → Option Int32} (hkr : ∀ {P : PL} {Q : PO} {i0 : Nat} {x1 : Int32} {x2 : Int32} {x3 : Int32} {x4 : Int32} {x5 : Int32} {x6 : Int32} {r : Int32}, kr i0 x1 x2 x3 x4 x5 x6 = some r → Q (aI r) (mi, RS w, lv) → Wp gl gx d P 11 0 [aR 5 i0, aI x1, aI x2, aI x3, aI x4, aI x5, aI x6, aU, aU, aU, aU, aU] [] (mi, RS w, lv) Q) (h : Wp gl gx (d + 1) P 11 38 [aR 5 i0, aI x1, aI x2, aI x3, aI x4, aI x5, aI x6, aI x7, aI (x8 + 1), v9, v10, v11] [] (mi, RS w, lv) Q) : Wp gl gx (d + 1) P 11 123 [aR 5 i0, aI x1, aI x2, aI x3, aI x4, aI x5, aI x6, aI x7, aI x8, v9, v10, v11] [] (mi, RS w, lv) Q := 
  wpT row_11 mt_11 [.iinc 8 1, .goto (.negSucc 87)] (by decide +kernel) [] (by decide +kernel) 24 (h)

theorem r_X1_bestWorth_38 {gl : Nat} {gx : Nat → Int32} {d : Nat} {P : PL} {Q : PO} {mi : MI} {w : WS} {lv : LV} {i0 : Nat} {x1 : Int32} {x2 : Int32} {x3 : Int32} {x4 : Int32} {x5 : Int32} {x6 : Int32} {x7 : Int32} {x8 : Int32} {v9 : AV} {v10 : AV} {v11 : AV} {kr : Nat → Int32 → Int32 → Int32 → Int32 → Int32 → Int32 → Option Int32} (hkr : ∀ {P : PL} {Q : PO} {i0 : Nat} {x1 : Int32} {x2 : Int32} {x3 : Int32} {x4 : Int32} {x5 : Int32} {x6 : Int32} {r : Int32}, kr i0 x1 x2 x3 x4 x5 x6 = some r → Q (aI r) (mi, RS w, lv) → Wp gl gx d P 11 0 [aR 5 i0, aI x1, aI x2, aI x3, aI x4, aI x5, aI x6, aU, aU, aU, aU, aU] [] (mi, RS w, lv) Q) (h : (((mi 5 i0 3) ≤ x8) → Q (aI x7) (mi, RS w, lv)) ∧ (¬ ((mi 5 i0 3) ≤ x8) → ((x6 ≤ x7) → Q (aI x7) (mi, RS w, lv)) ∧ (¬ (x6 ≤ x7) → (¬ (((x2 >>> (x8 &&& 31)) &&& 1) = 0) → Wp gl gx (d + 1) P 11 38 [aR 5 i0, aI x1, aI x2, aI x3, aI x4, aI x5, aI x6, aI x7, aI (x8 + 1), v9, v10, v11] [] (mi, RS w, lv) Q) ∧ ((((x2 >>> (x8 &&& 31)) &&& 1) = 0) → (vp_in x8 6) ∧ ((∃ c5 : Int32, kr i0 (x1 - 1) (x2 ||| ((1 : Int32) <<< (x8 &&& 31))) (x4 &&& ((mi 28 i0 x8.toNatClampNeg) ^^^ (-1))) (x3 ||| (mi 28 i0 x8.toNatClampNeg)) (-x6) (-(imax x5 x7)) = some c5 ∧ Wp gl gx (d + 1) P 11 38 [aR 5 i0, aI x1, aI x2, aI x3, aI x4, aI x5, aI x6, aI (imax x7 (-c5)), aI (x8 + 1), (aI (mi 28 i0 x8.toNatClampNeg)), (aI (imax x5 x7)), (aI (-c5))] [] (mi, RS w, lv) Q)))))) : Wp gl gx (d + 1) P 11 38 [aR 5 i0, aI x1, aI x2, aI x3, aI x4, aI x5, aI x6, aI x7, aI x8, v9, v10, v11] [] (mi, RS w, lv) Q := 
  wpT row_11 mt_11 [.iload 8, .aload_n 0, .getfield 37, .if_icmp .ge 85] (by decide +kernel) [(129, [.iload 7, .ireturn]), (47, [.iload 7, .iload 6, .if_icmp .ge 78]), (54, [.iload_n 2, .iload 8, .ishr, .iconst 1, .iand, .ifCond .ne 63]), (63, [.aload_n 0, .getfield 41, .iload 8, .iaload]), (70, [.istore 9, .iload 5, .iload 7, .invokestatic 53]), (79, [.istore 10, .aload_n 0, .iload_n 1, .iconst 1, .isub, .iload_n 2, .iconst 1, .iload 8, .ishl, .ior, .iload 4, .iload 9, .iconst (.negSucc 0), .ixor, .iand, .iload_n 3, .iload 9, .ior, .iload 6, .ineg, .iload 10, .ineg, .invokestatic 45]), (111, [.ineg, .istore 11, .iload 7, .iload 11, .invokestatic 53]), (121, [.istore 7])] (by decide +kernel) 124 (And.intro (fun q54 => (h.1 q54)) (fun q55 => And.intro (fun q56 => ((h.2 q55).1 q56)) (fun q57 => And.intro (fun q58 => r_X1_bestWorth_123 (i0 := i0) (x1 := x1) (x2 := x2) (x3 := x3) (x4 := x4) (x5 := x5) (x6 := x6) (x7 := x7) (x8 := x8) (v9 := v9) (v10 := v10) (v11 := v11) (mi := mi) (hkr := hkr) (((h.2 q55).2 q57).1 q58)) (fun q59 => And.intro (((h.2 q55).2 q57).2 q59).1 (And.intro (Nat.le_of_ble_eq_true rfl) (Exists.elim ((((h.2 q55).2 q57).2 q59).2) (fun c5 zc5 => And.intro ⟨Nat.le_of_ble_eq_true rfl, rfl, rfl⟩ (hkr zc5.1 (And.intro (Nat.le_of_ble_eq_true rfl) (r_X1_bestWorth_123 (i0 := i0) (x1 := x1) (x2 := x2) (x3 := x3) (x4 := x4) (x5 := x5) (x6 := x6) (x7 := (imax x7 (-c5))) (x8 := x8) (v9 := (aI (mi 28 i0 x8.toNatClampNeg))) (v10 := (aI (imax x5 x7))) (v11 := (aI (-c5))) (mi := mi) (hkr := hkr) zc5.2))))))))))

theorem r_X1_bestWorth_0 {gl : Nat} {gx : Nat → Int32} {d : Nat} {P : PL} {Q : PO} {mi : MI} {w : WS} {lv : LV} {i0 : Nat} {x1 : Int32} {x2 : Int32} {x3 : Int32} {x4 : Int32} {x5 : Int32} {x6 : Int32} {kr : Nat → Int32 → Int32 → Int32 → Int32 → Int32 → Int32 → Option Int32} (hkr : ∀ {P : PL} {Q : PO} {i0 : Nat} {x1 : Int32} {x2 : Int32} {x3 : Int32} {x4 : Int32} {x5 : Int32} {x6 : Int32} {r : Int32}, kr i0 x1 x2 x3 x4 x5 x6 = some r → Q (aI r) (mi, RS w, lv) → Wp gl gx d P 11 0 [aR 5 i0, aI x1, aI x2, aI x3, aI x4, aI x5, aI x6, aU, aU, aU, aU, aU] [] (mi, RS w, lv) Q) (h : ((0 < x1) → (∃ c4 : Int32, kr i0 (x1 - 1) x2 x4 x3 (-x6) (-x5) = some c4 ∧ Wp gl gx (d + 1) P 11 38 [aR 5 i0, aI x1, aI x2, aI x3, aI x4, aI x5, aI x6, aI (-c4), aI 0, aU, aU, aU] [] (mi, RS w, lv) Q)) ∧ (¬ (0 < x1) → Q (aI ((pop32 x3) - (pop32 x4))) (mi, RS w, lv))) : Wp gl gx (d + 1) P 11 0 [aR 5 i0, aI x1, aI x2, aI x3, aI x4, aI x5, aI x6, aU, aU, aU, aU, aU] [] (mi, RS w, lv) Q := 
  wpT row_11 mt_11 [.iload_n 1, .ifCond .gt 14] (by decide +kernel) [(15, [.aload_n 0, .iload_n 1, .iconst 1, .isub, .iload_n 2, .iload 4, .iload_n 3, .iload 6, .ineg, .iload 5, .ineg, .invokestatic 45]), (32, [.ineg, .istore 7, .iconst 0, .istore 8]), (4, [.iload_n 3, .invokestatic 28]), (8, [.iload 4, .invokestatic 28]), (13, [.isub, .ireturn])] (by decide +kernel) 68 (And.intro (fun q60 => Exists.elim (h.1 q60) (fun c4 zc4 => And.intro ⟨Nat.le_of_ble_eq_true rfl, rfl, rfl⟩ (hkr zc4.1 (zc4.2)))) (fun q61 => And.intro ⟨Nat.le_of_ble_eq_true rfl, rfl, rfl⟩ (s_J6_bitCount_0f7a4 (d := d) (And.intro ⟨Nat.le_of_ble_eq_true rfl, rfl, rfl⟩ (s_J6_bitCount_0f7a4 (d := d) ((h.2 q61)))))))

def L_X1_bestWorth_38 (mi : MI) (w : WS) (kr : Nat → Int32 → Int32 → Int32 → Int32 → Int32 → Int32 → Option Int32) : Nat → Nat → Int32 → Int32 → Int32 → Int32 → Int32 → Int32 → Int32 → Int32 → Option Int32
  | 0, _, _, _, _, _, _, _, _, _ => none
  | n + 1, i0, x1, x2, x3, x4, x5, x6, x7, x8 => if (mi 5 i0 3) ≤ x8 then some x7 else if x6 ≤ x7 then some x7 else if ((x2 >>> (x8 &&& 31)) &&& 1) = 0 then ck (¬ (x8 < 0 ∨ 6 ≤ x8.toNatClampNeg)) ((kr i0 (x1 - 1) (x2 ||| ((1 : Int32) <<< (x8 &&& 31))) (x4 &&& ((mi 28 i0 x8.toNatClampNeg) ^^^ (-1))) (x3 ||| (mi 28 i0 x8.toNatClampNeg)) (-x6) (-(imax x5 x7))).bind fun c5 => L_X1_bestWorth_38 mi w kr n i0 x1 x2 x3 x4 x5 x6 (imax x7 (-c5)) (x8 + 1)) else L_X1_bestWorth_38 mi w kr n i0 x1 x2 x3 x4 x5 x6 x7 (x8 + 1)

theorem l_X1_bestWorth_38 {gl : Nat} {gx : Nat → Int32} {d : Nat} {P : PL} {Q : PO} {lv : LV} {mi : MI} {w : WS} {kr : Nat → Int32 → Int32 → Int32 → Int32 → Int32 → Int32 → Option Int32} (hkr : ∀ {P : PL} {Q : PO} {i0 : Nat} {x1 : Int32} {x2 : Int32} {x3 : Int32} {x4 : Int32} {x5 : Int32} {x6 : Int32} {r : Int32}, kr i0 x1 x2 x3 x4 x5 x6 = some r → Q (aI r) (mi, RS w, lv) → Wp gl gx d P 11 0 [aR 5 i0, aI x1, aI x2, aI x3, aI x4, aI x5, aI x6, aU, aU, aU, aU, aU] [] (mi, RS w, lv) Q) (n : Nat) : ∀ {i0 : Nat} {x1 : Int32} {x2 : Int32} {x3 : Int32} {x4 : Int32} {x5 : Int32} {x6 : Int32} {x7 : Int32} {x8 : Int32} {v9 : AV} {v10 : AV} {v11 : AV} {r : Int32}, L_X1_bestWorth_38 mi w kr n i0 x1 x2 x3 x4 x5 x6 x7 x8 = some r → (Q (aI r) (mi, RS w, lv)) → Wp gl gx (d + 1) P 11 38 [aR 5 i0, aI x1, aI x2, aI x3, aI x4, aI x5, aI x6, aI x7, aI x8, v9, v10, v11] [] (mi, RS w, lv) Q := by
  induction n with
  | zero => intro i0 x1 x2 x3 x4 x5 x6 x7 x8 v9 v10 v11 r hf h0; exact o_none hf
  | succ n ih => intro i0 x1 x2 x3 x4 x5 x6 x7 x8 v9 v10 v11 r hf h0; exact r_X1_bestWorth_38 hkr (⟨fun q62 => k_ifp q62 hf (fun q64 => o_rP q64 h0), fun q63 => k_ifn q63 hf (fun q64 => ⟨fun q65 => k_ifp q65 q64 (fun q67 => o_rP q67 h0), fun q66 => k_ifn q66 q64 (fun q67 => ⟨fun q68 => k_ifn q68 q67 (fun q70 => ih q70 h0), fun q69 => k_ifp q69 q67 (fun q70 => k_ck q70 (fun q72 q71 => ⟨q72, o_bind q71 (fun c5 qc5 pc5 => ⟨c5, qc5, ih pc5 h0⟩)⟩))⟩)⟩)⟩)

def F_X1_bestWorth (mi : MI) (w : WS) : Nat → Nat → Int32 → Int32 → Int32 → Int32 → Int32 → Int32 → Option Int32
  | 0, _, _, _, _, _, _, _ => none
  | n + 1, i0, x1, x2, x3, x4, x5, x6 => if 0 < x1 then ((F_X1_bestWorth mi w n) i0 (x1 - 1) x2 x4 x3 (-x6) (-x5)).bind fun c4 => L_X1_bestWorth_38 mi w (F_X1_bestWorth mi w n) 1000000 i0 x1 x2 x3 x4 x5 x6 (-c4) 0 else some ((pop32 x3) - (pop32 x4))

theorem n_X1_bestWorth {gl : Nat} {gx : Nat → Int32} {mi : MI} {w : WS} {lv : LV} (n : Nat) : ∀ {d : Nat} {P : PL} {Q : PO} {i0 : Nat} {x1 : Int32} {x2 : Int32} {x3 : Int32} {x4 : Int32} {x5 : Int32} {x6 : Int32} {r : Int32}, F_X1_bestWorth mi w n i0 x1 x2 x3 x4 x5 x6 = some r → Q (aI r) (mi, RS w, lv) → Wp gl gx (d + n) P 11 0 [aR 5 i0, aI x1, aI x2, aI x3, aI x4, aI x5, aI x6, aU, aU, aU, aU, aU] [] (mi, RS w, lv) Q := by
  induction n with
  | zero => intro d P Q i0 x1 x2 x3 x4 x5 x6 r hf h0; exact o_none hf
  | succ n ih =>
    intro d P Q i0 x1 x2 x3 x4 x5 x6 r hf h0
    have hkr : ∀ {P : PL} {Q : PO} {i0 : Nat} {x1 : Int32} {x2 : Int32} {x3 : Int32} {x4 : Int32} {x5 : Int32} {x6 : Int32} {r : Int32}, F_X1_bestWorth mi w n i0 x1 x2 x3 x4 x5 x6 = some r → Q (aI r) (mi, RS w, lv) → Wp gl gx (d + n) P 11 0 [aR 5 i0, aI x1, aI x2, aI x3, aI x4, aI x5, aI x6, aU, aU, aU, aU, aU] [] (mi, RS w, lv) Q := fun hf h => ih hf h
    exact r_X1_bestWorth_0 (d := d + n) hkr (⟨fun q73 => k_ifp q73 hf (fun q75 => o_bind q75 (fun c4 qc4 pc4 => ⟨c4, qc4, l_X1_bestWorth_38 hkr 1000000 pc4 h0⟩)), fun q74 => k_ifn q74 hf (fun q75 => o_rP q75 h0)⟩)

theorem s_X1_bestWorth {gl : Nat} {gx : Nat → Int32} {d : Nat} {P : PL} {Q : PO} {mi : MI} {w : WS} {lv : LV} {i0 : Nat} {x1 : Int32} {x2 : Int32} {x3 : Int32} {x4 : Int32} {x5 : Int32} {x6 : Int32} {r : Int32} (hf : F_X1_bestWorth mi w 16 i0 x1 x2 x3 x4 x5 x6 = some r) (h0 : Q (aI r) (mi, RS w, lv)) : Wp gl gx (d + 16) P 11 0 [aR 5 i0, aI x1, aI x2, aI x3, aI x4, aI x5, aI x6, aU, aU, aU, aU, aU] [] (mi, RS w, lv) Q := n_X1_bestWorth 16 (d := d) hf h0

abbrev row_13 : MT := (⟨"StencilHouse$Figures", "chanceUnder", "(LStencilHouse$Shop;I)I"⟩, prog_3_method_11_code, 4, some .int, 0, lk_1)
set_option maxRecDepth 20000 in
theorem mt_13 : mt 13 = some row_13 := rfl
theorem r_X1_chanceUnder_13 {gl : Nat} {gx : Nat → Int32} {d : Nat} {P : PL} {Q : PO} {mi : MI} {w : WS} {lv : LV} {i0 : Nat} {x1 : Int32} {x2 : Int32} {x3 : Int32} (h : (((mi 5 i0 3) ≤ x3) → Q (aI x2) (mi, RS w, lv)) ∧ (¬ ((mi 5 i0 3) ≤ x3) → Wp gl gx d P 13 13 [aR 5 i0, aI x1, aI (x2 * 10), aI (x3 + 1)] [] (mi, RS w, lv) Q)) : Wp gl gx d P 13 13 [aR 5 i0, aI x1, aI x2, aI x3] [] (mi, RS w, lv) Q := 
  wpT row_13 mt_13 [.iload_n 3, .aload_n 0, .getfield 37, .if_icmp .ge 14] (by decide +kernel) [(32, [.iload_n 2, .ireturn]), (21, [.iload_n 2, .bipush 10, .imul, .istore_n 2, .iinc 3 1, .goto (.negSucc 15)])] (by decide +kernel) 44 (And.intro (fun q76 => (h.1 q76)) (fun q77 => (h.2 q77)))

theorem r_X1_chanceUnder_10 {gl : Nat} {gx : Nat → Int32} {d : Nat} {P : PL} {Q : PO} {mi : MI} {w : WS} {lv : LV} {i0 : Nat} {x1 : Int32} {v2 : AV} {v3 : AV} {s0 : Int32} (h : Wp gl gx d P 13 13 [aR 5 i0, aI x1, aI s0, aI x1] [] (mi, RS w, lv) Q) : Wp gl gx d P 13 10 [aR 5 i0, aI x1, v2, v3] [aI s0] (mi, RS w, lv) Q := 
  wpT row_13 mt_13 [.istore_n 2, .iload_n 1, .istore_n 3] (by decide +kernel) [] (by decide +kernel) 26 (h)

theorem r_X1_chanceUnder_0 {gl : Nat} {gx : Nat → Int32} {d : Nat} {P : PL} {Q : PO} {mi : MI} {w : WS} {lv : LV} {i0 : Nat} {x1 : Int32} (h : Wp gl gx d P 13 13 [aR 5 i0, aI x1, aI (if x1 = 0 then 1 else 10), aI x1] [] (mi, RS w, lv) Q) : Wp gl gx d P 13 0 [aR 5 i0, aI x1, aU, aU] [] (mi, RS w, lv) Q := 
  wpT row_13 mt_13 [.iload_n 1, .ifCond .ne 7] (by decide +kernel) [(8, [.bipush 10]), (4, [.iconst 1, .goto 5])] (by decide +kernel) 30 (And.intro (fun q78 => r_X1_chanceUnder_10 (i0 := i0) (x1 := x1) (v2 := aU) (v3 := aU) (s0 := 10) (mi := mi) (mv9 (fun v => Wp gl gx d P 13 13 [aR 5 i0, aI x1, aI v, aI x1] [] (mi, RS w, lv) Q) (show (if x1 = 0 then 1 else 10) = 10 from if_neg (show ¬ (x1 = 0) from q78)) h)) (fun q79 => r_X1_chanceUnder_10 (i0 := i0) (x1 := x1) (v2 := aU) (v3 := aU) (s0 := 1) (mi := mi) (mv9 (fun v => Wp gl gx d P 13 13 [aR 5 i0, aI x1, aI v, aI x1] [] (mi, RS w, lv) Q) (show (if x1 = 0 then 1 else 10) = 1 from if_pos (show x1 = 0 from q79)) h)))

def L_X1_chanceUnder_13 (mi : MI) (w : WS) : Nat → Nat → Int32 → Int32 → Int32 → Option Int32
  | 0, _, _, _, _ => none
  | n + 1, i0, x1, x2, x3 => if (mi 5 i0 3) ≤ x3 then some x2 else L_X1_chanceUnder_13 mi w n i0 x1 (x2 * 10) (x3 + 1)

theorem l_X1_chanceUnder_13 {gl : Nat} {gx : Nat → Int32} {d : Nat} {P : PL} {Q : PO} {lv : LV} {mi : MI} {w : WS} (n : Nat) : ∀ {i0 : Nat} {x1 : Int32} {x2 : Int32} {x3 : Int32} {r : Int32}, L_X1_chanceUnder_13 mi w n i0 x1 x2 x3 = some r → (Q (aI r) (mi, RS w, lv)) → Wp gl gx d P 13 13 [aR 5 i0, aI x1, aI x2, aI x3] [] (mi, RS w, lv) Q := by
  induction n with
  | zero => intro i0 x1 x2 x3 r hf h0; exact o_none hf
  | succ n ih => intro i0 x1 x2 x3 r hf h0; exact r_X1_chanceUnder_13 (⟨fun q80 => k_ifp q80 hf (fun q82 => o_rP q82 h0), fun q81 => k_ifn q81 hf (fun q82 => ih q82 h0)⟩)

def F_X1_chanceUnder (mi : MI) (w : WS) (i0 : Nat) (x1 : Int32) : Option Int32 := L_X1_chanceUnder_13 mi w 1000000 i0 x1 (if x1 = 0 then 1 else 10) x1

theorem s_X1_chanceUnder {gl : Nat} {gx : Nat → Int32} {d : Nat} {P : PL} {Q : PO} {mi : MI} {w : WS} {lv : LV} {i0 : Nat} {x1 : Int32} {r : Int32} (hf : F_X1_chanceUnder mi w i0 x1 = some r) (h0 : Q (aI r) (mi, RS w, lv)) : Wp gl gx d P 13 0 [aR 5 i0, aI x1, aU, aU] [] (mi, RS w, lv) Q := r_X1_chanceUnder_0 (l_X1_chanceUnder_13 1000000 hf h0)

abbrev row_14 : MT := (⟨"StencilHouse$Figures", "openTenths", "(LStencilHouse$Shop;II)I"⟩, prog_3_method_12_code, 6, some .int, 0, lk_1)
set_option maxRecDepth 20000 in
theorem mt_14 : mt 14 = some row_14 := rfl
theorem r_X1_openTenths_0 {gl : Nat} {gx : Nat → Int32} {d : Nat} {P : PL} {Q : PO} {mi : MI} {w : WS} {lv : LV} {i0 : Nat} {x1 : Int32} {x2 : Int32} (h : (vp_in x1 6) ∧ ((∃ c6 : Int32, F_X6_slid mi w i0 (mi 28 i0 x1.toNatClampNeg) 1 0 = some c6 ∧ Q (aI ((((10 : Int32) - (mi 5 i0 2)) * (((mi 28 i0 x1.toNatClampNeg) >>> (x2 &&& 31)) &&& 1)) + ((mi 5 i0 2) * ((c6 >>> (x2 &&& 31)) &&& 1)))) (mi, RS w, lv)))) : Wp gl gx (d + 2) P 14 0 [aR 5 i0, aI x1, aI x2, aU, aU, aU] [] (mi, RS w, lv) Q := 
  wpT row_14 mt_14 [.aload_n 0, .getfield 41, .iload_n 1, .iaload] (by decide +kernel) [(6, [.istore_n 3, .iload_n 3, .iload_n 2, .ishr, .iconst 1, .iand, .istore 4, .aload_n 0, .iload_n 3, .iconst 1, .iconst 0, .invokevirtual 63]), (21, [.iload_n 2, .ishr, .iconst 1, .iand, .istore 5, .bipush 10, .aload_n 0, .getfield 67, .isub, .iload 4, .imul, .aload_n 0, .getfield 67, .iload 5, .imul, .iadd, .ireturn])] (by decide +kernel) 86 (And.intro h.1 (Exists.elim h.2 (fun c6 zc6 => And.intro ⟨Nat.le_of_ble_eq_true rfl, rfl, rfl⟩ (s_X6_slid (d := d) zc6.1 (zc6.2)))))

def F_X1_openTenths (mi : MI) (w : WS) (i0 : Nat) (x1 : Int32) (x2 : Int32) : Option Int32 := ck (¬ (x1 < 0 ∨ 6 ≤ x1.toNatClampNeg)) ((F_X6_slid mi w i0 (mi 28 i0 x1.toNatClampNeg) 1 0).bind fun c6 => some ((((10 : Int32) - (mi 5 i0 2)) * (((mi 28 i0 x1.toNatClampNeg) >>> (x2 &&& 31)) &&& 1)) + ((mi 5 i0 2) * ((c6 >>> (x2 &&& 31)) &&& 1))))

theorem s_X1_openTenths {gl : Nat} {gx : Nat → Int32} {d : Nat} {P : PL} {Q : PO} {mi : MI} {w : WS} {lv : LV} {i0 : Nat} {x1 : Int32} {x2 : Int32} {r : Int32} (hf : F_X1_openTenths mi w i0 x1 x2 = some r) (h0 : Q (aI r) (mi, RS w, lv)) : Wp gl gx (d + 2) P 14 0 [aR 5 i0, aI x1, aI x2, aU, aU, aU] [] (mi, RS w, lv) Q := r_X1_openTenths_0 (k_ck hf (fun q84 q83 => ⟨q84, o_bind q83 (fun c6 qc6 pc6 => ⟨c6, qc6, o_rP pc6 h0⟩)⟩))

abbrev row_15 : MT := (⟨"StencilHouse$Figures", "greatestDivisor", "(II)I"⟩, prog_3_method_13_code, 6, some .int, 0, lk_1)
set_option maxRecDepth 20000 in
theorem mt_15 : mt 15 = some row_15 := rfl
theorem r_X1_greatestDivisor_7 {gl : Nat} {gx : Nat → Int32} {d : Nat} {P : PL} {Q : PO} {mi : MI} {w : WS} {lv : LV} {x0 : Int32} {x1 : Int32} {x2 : Int32} {x3 : Int32} {x4 : Int32} {v5 : AV} (h : ((64 ≤ x4) → Q (aI x2) (mi, RS w, lv)) ∧ (¬ (64 ≤ x4) → ((x3 ≤ 0) → Q (aI x2) (mi, RS w, lv)) ∧ (¬ (x3 ≤ 0) → (¬ x3 = 0) ∧ (Wp gl gx d P 15 7 [aI x0, aI x1, aI x3, aI (irem x2 x3), aI (x4 + 1), aI (irem x2 x3)] [] (mi, RS w, lv) Q)))) : Wp gl gx d P 15 7 [aI x0, aI x1, aI x2, aI x3, aI x4, v5] [] (mi, RS w, lv) Q := 
  wpT row_15 mt_15 [.iload 4, .bipush 64, .if_icmp .ge 23] (by decide +kernel) [(34, [.iload_n 2, .ireturn]), (14, [.iload_n 3, .ifCond .le 19]), (18, [.iload_n 2, .iload_n 3, .irem]), (21, [.istore 5, .iload_n 3, .istore_n 2, .iload 5, .istore_n 3, .iinc 4 1, .goto (.negSucc 23)])] (by decide +kernel) 54 (And.intro (fun q85 => (h.1 q85)) (fun q86 => And.intro (fun q87 => ((h.2 q86).1 q87)) (fun q88 => And.intro ((h.2 q86).2 q88).1 (((h.2 q86).2 q88).2))))

theorem r_X1_greatestDivisor_0 {gl : Nat} {gx : Nat → Int32} {d : Nat} {P : PL} {Q : PO} {mi : MI} {w : WS} {lv : LV} {x0 : Int32} {x1 : Int32} (h : Wp gl gx d P 15 7 [aI x0, aI x1, aI x0, aI x1, aI 0, aU] [] (mi, RS w, lv) Q) : Wp gl gx d P 15 0 [aI x0, aI x1, aU, aU, aU, aU] [] (mi, RS w, lv) Q := 
  wpT row_15 mt_15 [.iload_n 0, .istore_n 2, .iload_n 1, .istore_n 3, .iconst 0, .istore 4] (by decide +kernel) [] (by decide +kernel) 32 (h)

def L_X1_greatestDivisor_7 (mi : MI) (w : WS) : Nat → Int32 → Int32 → Int32 → Int32 → Int32 → Option Int32
  | 0, _, _, _, _, _ => none
  | n + 1, x0, x1, x2, x3, x4 => if 64 ≤ x4 then some x2 else if x3 ≤ 0 then some x2 else ck (¬ x3 = 0) (L_X1_greatestDivisor_7 mi w n x0 x1 x3 (irem x2 x3) (x4 + 1))

theorem l_X1_greatestDivisor_7 {gl : Nat} {gx : Nat → Int32} {d : Nat} {P : PL} {Q : PO} {lv : LV} {mi : MI} {w : WS} (n : Nat) : ∀ {x0 : Int32} {x1 : Int32} {x2 : Int32} {x3 : Int32} {x4 : Int32} {v5 : AV} {r : Int32}, L_X1_greatestDivisor_7 mi w n x0 x1 x2 x3 x4 = some r → (Q (aI r) (mi, RS w, lv)) → Wp gl gx d P 15 7 [aI x0, aI x1, aI x2, aI x3, aI x4, v5] [] (mi, RS w, lv) Q := by
  induction n with
  | zero => intro x0 x1 x2 x3 x4 v5 r hf h0; exact o_none hf
  | succ n ih => intro x0 x1 x2 x3 x4 v5 r hf h0; exact r_X1_greatestDivisor_7 (⟨fun q89 => k_ifp q89 hf (fun q91 => o_rP q91 h0), fun q90 => k_ifn q90 hf (fun q91 => ⟨fun q92 => k_ifp q92 q91 (fun q94 => o_rP q94 h0), fun q93 => k_ifn q93 q91 (fun q94 => k_ck q94 (fun q96 q95 => ⟨q96, ih q95 h0⟩))⟩)⟩)

def F_X1_greatestDivisor (mi : MI) (w : WS) (x0 : Int32) (x1 : Int32) : Option Int32 := L_X1_greatestDivisor_7 mi w 1000000 x0 x1 x0 x1 0

theorem s_X1_greatestDivisor {gl : Nat} {gx : Nat → Int32} {d : Nat} {P : PL} {Q : PO} {mi : MI} {w : WS} {lv : LV} {x0 : Int32} {x1 : Int32} {r : Int32} (hf : F_X1_greatestDivisor mi w x0 x1 = some r) (h0 : Q (aI r) (mi, RS w, lv)) : Wp gl gx d P 15 0 [aI x0, aI x1, aU, aU, aU, aU] [] (mi, RS w, lv) Q := r_X1_greatestDivisor_0 (l_X1_greatestDivisor_7 1000000 hf h0)

abbrev row_16 : MT := (⟨"StencilHouse$Figures", "slidesWithin", "(LStencilHouse$Shop;II)I"⟩, prog_3_method_14_code, 7, some .int, 0, lk_1)
set_option maxRecDepth 20000 in
theorem mt_16 : mt 16 = some row_16 := rfl
theorem r_X1_slidesWithin_48 {gl : Nat} {gx : Nat → Int32} {d : Nat} {P : PL} {Q : PO} {mi : MI} {w : WS} {lv : LV} {i0 : Nat} {x1 : Int32} {x2 : Int32} {x3 : Int32} {x4 : Int32} {x5 : Int32} {x6 : Int32} (h : Wp gl gx (d + 2) P 16 14 [aR 5 i0, aI x1, aI x2, aI x3, aI x4, aI (x5 + 1), aI x6] [] (mi, RS w, lv) Q) : Wp gl gx (d + 2) P 16 48 [aR 5 i0, aI x1, aI x2, aI x3, aI x4, aI x5, aI x6] [] (mi, RS w, lv) Q := 
  wpT row_16 mt_16 [.iinc 5 1, .goto (.negSucc 36)] (by decide +kernel) [] (by decide +kernel) 24 (h)

theorem r_X1_slidesWithin_14 {gl : Nat} {gx : Nat → Int32} {d : Nat} {P : PL} {Q : PO} {mi : MI} {w : WS} {lv : LV} {i0 : Nat} {x1 : Int32} {x2 : Int32} {x3 : Int32} {x4 : Int32} {x5 : Int32} {v6 : AV} (h : ((5 ≤ x5) → Wp gl gx (d + 2) P 16 5 [aR 5 i0, aI x1, aI x2, aI x3, aI (x4 + 1), aI x5, v6] [] (mi, RS w, lv) Q) ∧ (¬ (5 ≤ x5) → (∃ c7 : Int32, F_X6_slid mi w i0 x1 x5 x4 = some c7 ∧ Wp gl gx (d + 2) P 16 14 [aR 5 i0, aI x1, aI x2, aI (if c7 = 0 then x3 else if (c7 &&& (x2 ^^^ (-1))) = 0 then x3 + 1 else x3), aI x4, aI (x5 + 1), aI c7] [] (mi, RS w, lv) Q))) : Wp gl gx (d + 2) P 16 14 [aR 5 i0, aI x1, aI x2, aI x3, aI x4, aI x5, v6] [] (mi, RS w, lv) Q := 
  wpT row_16 mt_16 [.iload 5, .iconst 5, .if_icmp .ge 37] (by decide +kernel) [(54, [.iinc 4 1, .goto (.negSucc 51)]), (20, [.aload_n 0, .iload_n 1, .iload 5, .iload 4, .invokevirtual 63]), (29, [.istore 6, .iload 6, .ifCond .eq 15]), (36, [.iload 6, .iload_n 2, .iconst (.negSucc 0), .ixor, .iand, .ifCond .ne 6]), (45, [.iinc 3 1])] (by decide +kernel) 60 (And.intro (fun q97 => (h.1 q97)) (fun q98 => Exists.elim (h.2 q98) (fun c7 zc7 => And.intro ⟨Nat.le_of_ble_eq_true rfl, rfl, rfl⟩ (s_X6_slid (d := d) zc7.1 (And.intro (fun q99 => r_X1_slidesWithin_48 (i0 := i0) (x1 := x1) (x2 := x2) (x3 := x3) (x4 := x4) (x5 := x5) (x6 := c7) (mi := mi) (mv9 (fun v => Wp gl gx (d + 2) P 16 14 [aR 5 i0, aI x1, aI x2, aI v, aI x4, aI (x5 + 1), aI c7] [] (mi, RS w, lv) Q) (show (if c7 = 0 then x3 else if (c7 &&& (x2 ^^^ (-1))) = 0 then x3 + 1 else x3) = x3 from if_pos (show c7 = 0 from q99)) zc7.2)) (fun q100 => And.intro (fun q101 => r_X1_slidesWithin_48 (i0 := i0) (x1 := x1) (x2 := x2) (x3 := x3) (x4 := x4) (x5 := x5) (x6 := c7) (mi := mi) (mv9 (fun v => Wp gl gx (d + 2) P 16 14 [aR 5 i0, aI x1, aI x2, aI v, aI x4, aI (x5 + 1), aI c7] [] (mi, RS w, lv) Q) (show (if (c7 &&& (x2 ^^^ (-1))) = 0 then x3 + 1 else x3) = x3 from if_neg (show ¬ ((c7 &&& (x2 ^^^ (-1))) = 0) from q101)) (mv9 (fun v => Wp gl gx (d + 2) P 16 14 [aR 5 i0, aI x1, aI x2, aI v, aI x4, aI (x5 + 1), aI c7] [] (mi, RS w, lv) Q) (show (if c7 = 0 then x3 else if (c7 &&& (x2 ^^^ (-1))) = 0 then x3 + 1 else x3) = (if (c7 &&& (x2 ^^^ (-1))) = 0 then x3 + 1 else x3) from if_neg (show ¬ (c7 = 0) from q100)) zc7.2))) (fun q102 => r_X1_slidesWithin_48 (i0 := i0) (x1 := x1) (x2 := x2) (x3 := (x3 + 1)) (x4 := x4) (x5 := x5) (x6 := c7) (mi := mi) (mv9 (fun v => Wp gl gx (d + 2) P 16 14 [aR 5 i0, aI x1, aI x2, aI v, aI x4, aI (x5 + 1), aI c7] [] (mi, RS w, lv) Q) (show (if (c7 &&& (x2 ^^^ (-1))) = 0 then x3 + 1 else x3) = (x3 + 1) from if_pos (show (c7 &&& (x2 ^^^ (-1))) = 0 from q102)) (mv9 (fun v => Wp gl gx (d + 2) P 16 14 [aR 5 i0, aI x1, aI x2, aI v, aI x4, aI (x5 + 1), aI c7] [] (mi, RS w, lv) Q) (show (if c7 = 0 then x3 else if (c7 &&& (x2 ^^^ (-1))) = 0 then x3 + 1 else x3) = (if (c7 &&& (x2 ^^^ (-1))) = 0 then x3 + 1 else x3) from if_neg (show ¬ (c7 = 0) from q100)) zc7.2)))))))))

theorem r_X1_slidesWithin_5 {gl : Nat} {gx : Nat → Int32} {d : Nat} {P : PL} {Q : PO} {mi : MI} {w : WS} {lv : LV} {i0 : Nat} {x1 : Int32} {x2 : Int32} {x3 : Int32} {x4 : Int32} {v5 : AV} {v6 : AV} (h : ((5 ≤ x4) → Q (aI x3) (mi, RS w, lv)) ∧ (¬ (5 ≤ x4) → Wp gl gx (d + 2) P 16 14 [aR 5 i0, aI x1, aI x2, aI x3, aI x4, aI 0, v6] [] (mi, RS w, lv) Q)) : Wp gl gx (d + 2) P 16 5 [aR 5 i0, aI x1, aI x2, aI x3, aI x4, v5, v6] [] (mi, RS w, lv) Q := 
  wpT row_16 mt_16 [.iload 4, .iconst 5, .if_icmp .ge 52] (by decide +kernel) [(60, [.iload_n 3, .ireturn]), (11, [.iconst 0, .istore 5])] (by decide +kernel) 34 (And.intro (fun q103 => (h.1 q103)) (fun q104 => (h.2 q104)))

theorem r_X1_slidesWithin_0 {gl : Nat} {gx : Nat → Int32} {d : Nat} {P : PL} {Q : PO} {mi : MI} {w : WS} {lv : LV} {i0 : Nat} {x1 : Int32} {x2 : Int32} (h : Wp gl gx (d + 2) P 16 5 [aR 5 i0, aI x1, aI x2, aI 0, aI 0, aU, aU] [] (mi, RS w, lv) Q) : Wp gl gx (d + 2) P 16 0 [aR 5 i0, aI x1, aI x2, aU, aU, aU, aU] [] (mi, RS w, lv) Q := 
  wpT row_16 mt_16 [.iconst 0, .istore_n 3, .iconst 0, .istore 4] (by decide +kernel) [] (by decide +kernel) 28 (h)

def L_X1_slidesWithin_14 (mi : MI) (w : WS) (k5 : Nat → Int32 → Int32 → Int32 → Int32 → Option Int32) : Nat → Nat → Int32 → Int32 → Int32 → Int32 → Int32 → Option Int32
  | 0, _, _, _, _, _, _ => none
  | n + 1, i0, x1, x2, x3, x4, x5 => if 5 ≤ x5 then k5 i0 x1 x2 x3 (x4 + 1) else (F_X6_slid mi w i0 x1 x5 x4).bind fun c7 => L_X1_slidesWithin_14 mi w k5 n i0 x1 x2 (if c7 = 0 then x3 else if (c7 &&& (x2 ^^^ (-1))) = 0 then x3 + 1 else x3) x4 (x5 + 1)

theorem l_X1_slidesWithin_14 {gl : Nat} {gx : Nat → Int32} {d : Nat} {P : PL} {Q : PO} {lv : LV} {mi : MI} {w : WS} {k5 : Nat → Int32 → Int32 → Int32 → Int32 → Option Int32} (hk5 : ∀ {i0 : Nat} {x1 : Int32} {x2 : Int32} {x3 : Int32} {x4 : Int32} {v5 : AV} {v6 : AV} {r : Int32}, k5 i0 x1 x2 x3 x4 = some r → (Q (aI r) (mi, RS w, lv)) → Wp gl gx (d + 2) P 16 5 [aR 5 i0, aI x1, aI x2, aI x3, aI x4, v5, v6] [] (mi, RS w, lv) Q) (n : Nat) : ∀ {i0 : Nat} {x1 : Int32} {x2 : Int32} {x3 : Int32} {x4 : Int32} {x5 : Int32} {v6 : AV} {r : Int32}, L_X1_slidesWithin_14 mi w k5 n i0 x1 x2 x3 x4 x5 = some r → (Q (aI r) (mi, RS w, lv)) → Wp gl gx (d + 2) P 16 14 [aR 5 i0, aI x1, aI x2, aI x3, aI x4, aI x5, v6] [] (mi, RS w, lv) Q := by
  induction n with
  | zero => intro i0 x1 x2 x3 x4 x5 v6 r hf h0; exact o_none hf
  | succ n ih => intro i0 x1 x2 x3 x4 x5 v6 r hf h0; exact r_X1_slidesWithin_14 (⟨fun q105 => k_ifp q105 hf (fun q107 => hk5 q107 h0), fun q106 => k_ifn q106 hf (fun q107 => o_bind q107 (fun c7 qc7 pc7 => ⟨c7, qc7, ih pc7 h0⟩))⟩)

def L_X1_slidesWithin_5 (mi : MI) (w : WS) : Nat → Nat → Int32 → Int32 → Int32 → Int32 → Option Int32
  | 0, _, _, _, _, _ => none
  | n + 1, i0, x1, x2, x3, x4 => if 5 ≤ x4 then some x3 else L_X1_slidesWithin_14 mi w (fun i0 x1 x2 x3 x4 => L_X1_slidesWithin_5 mi w n i0 x1 x2 x3 x4) 1000000 i0 x1 x2 x3 x4 0

theorem l_X1_slidesWithin_5 {gl : Nat} {gx : Nat → Int32} {d : Nat} {P : PL} {Q : PO} {lv : LV} {mi : MI} {w : WS} (n : Nat) : ∀ {i0 : Nat} {x1 : Int32} {x2 : Int32} {x3 : Int32} {x4 : Int32} {v5 : AV} {v6 : AV} {r : Int32}, L_X1_slidesWithin_5 mi w n i0 x1 x2 x3 x4 = some r → (Q (aI r) (mi, RS w, lv)) → Wp gl gx (d + 2) P 16 5 [aR 5 i0, aI x1, aI x2, aI x3, aI x4, v5, v6] [] (mi, RS w, lv) Q := by
  induction n with
  | zero => intro i0 x1 x2 x3 x4 v5 v6 r hf h0; exact o_none hf
  | succ n ih => intro i0 x1 x2 x3 x4 v5 v6 r hf h0; exact r_X1_slidesWithin_5 (⟨fun q108 => k_ifp q108 hf (fun q110 => o_rP q110 h0), fun q109 => k_ifn q109 hf (fun q110 => l_X1_slidesWithin_14 (fun hf h0 => ih hf h0) 1000000 q110 h0)⟩)

def F_X1_slidesWithin (mi : MI) (w : WS) (i0 : Nat) (x1 : Int32) (x2 : Int32) : Option Int32 := L_X1_slidesWithin_5 mi w 1000000 i0 x1 x2 0 0

theorem s_X1_slidesWithin {gl : Nat} {gx : Nat → Int32} {d : Nat} {P : PL} {Q : PO} {mi : MI} {w : WS} {lv : LV} {i0 : Nat} {x1 : Int32} {x2 : Int32} {r : Int32} (hf : F_X1_slidesWithin mi w i0 x1 x2 = some r) (h0 : Q (aI r) (mi, RS w, lv)) : Wp gl gx (d + 2) P 16 0 [aR 5 i0, aI x1, aI x2, aU, aU, aU, aU] [] (mi, RS w, lv) Q := r_X1_slidesWithin_0 (l_X1_slidesWithin_5 1000000 hf h0)

abbrev row_17 : MT := (⟨"StencilHouse$Figures", "holeCount", "(LStencilHouse$Shop;I)I"⟩, prog_3_method_15_code, 5, some .int, 0, lk_1)
set_option maxRecDepth 20000 in
theorem mt_17 : mt 17 = some row_17 := rfl
theorem r_X1_holeCount_40 {gl : Nat} {gx : Nat → Int32} {d : Nat} {P : PL} {Q : PO} {mi : MI} {w : WS} {lv : LV} {i0 : Nat} {x1 : Int32} {x2 : Int32} {x3 : Int32} {x4 : Int32} (h : Wp gl gx (d + 3) P 17 7 [aR 5 i0, aI x1, aI x2, aI x3, aI (x4 + 1)] [] (mi, RS w, lv) Q) : Wp gl gx (d + 3) P 17 40 [aR 5 i0, aI x1, aI x2, aI x3, aI x4] [] (mi, RS w, lv) Q := 
  wpT row_17 mt_17 [.iinc 4 1, .goto (.negSucc 35)] (by decide +kernel) [] (by decide +kernel) 24 (h)

theorem r_X1_holeCount_7 {gl : Nat} {gx : Nat → Int32} {d : Nat} {P : PL} {Q : PO} {mi : MI} {w : WS} {lv : LV} {i0 : Nat} {x1 : Int32} {x2 : Int32} {x3 : Int32} {x4 : Int32} (h : ((25 ≤ x4) → Q (aI x2) (mi, RS w, lv)) ∧ (¬ (25 ≤ x4) → ((((x3 >>> (x4 &&& 31)) &&& 1) = 0) → Wp gl gx (d + 3) P 17 7 [aR 5 i0, aI x1, aI x2, aI x3, aI (x4 + 1)] [] (mi, RS w, lv) Q) ∧ (¬ (((x3 >>> (x4 &&& 31)) &&& 1) = 0) → Wp gl gx (d + 3) P 17 7 [aR 5 i0, aI x1, aI (x2 + 1), aI (x3 &&& ((fGrown mi i0 x3 25 ((1 : Int32) <<< (x4 &&& 31))) ^^^ (-1))), aI (x4 + 1)] [] (mi, RS w, lv) Q))) : Wp gl gx (d + 3) P 17 7 [aR 5 i0, aI x1, aI x2, aI x3, aI x4] [] (mi, RS w, lv) Q := 
  wpT row_17 mt_17 [.iload 4, .bipush 25, .if_icmp .ge 35] (by decide +kernel) [(46, [.iload_n 2, .ireturn]), (14, [.iload_n 3, .iload 4, .ishr, .iconst 1, .iand, .ifCond .eq 20]), (23, [.iinc 2 1, .iload_n 3, .aload_n 0, .iconst 1, .iload 4, .ishl, .iload_n 3, .invokevirtual 70]), (36, [.iconst (.negSucc 0), .ixor, .iand, .istore_n 3])] (by decide +kernel) 66 (And.intro (fun q111 => (h.1 q111)) (fun q112 => And.intro (fun q113 => r_X1_holeCount_40 (i0 := i0) (x1 := x1) (x2 := x2) (x3 := x3) (x4 := x4) (mi := mi) ((h.2 q112).1 q113)) (fun q114 => And.intro ⟨Nat.le_of_ble_eq_true rfl, rfl, rfl⟩ (s_X6_grown (d := d) (r_X1_holeCount_40 (i0 := i0) (x1 := x1) (x2 := (x2 + 1)) (x3 := (x3 &&& ((fGrown mi i0 x3 25 ((1 : Int32) <<< (x4 &&& 31))) ^^^ (-1)))) (x4 := x4) (mi := mi) ((h.2 q112).2 q114))))))

theorem r_X1_holeCount_0 {gl : Nat} {gx : Nat → Int32} {d : Nat} {P : PL} {Q : PO} {mi : MI} {w : WS} {lv : LV} {i0 : Nat} {x1 : Int32} (h : Wp gl gx (d + 3) P 17 7 [aR 5 i0, aI x1, aI 0, aI x1, aI 0] [] (mi, RS w, lv) Q) : Wp gl gx (d + 3) P 17 0 [aR 5 i0, aI x1, aU, aU, aU] [] (mi, RS w, lv) Q := 
  wpT row_17 mt_17 [.iconst 0, .istore_n 2, .iload_n 1, .istore_n 3, .iconst 0, .istore 4] (by decide +kernel) [] (by decide +kernel) 32 (h)

def L_X1_holeCount_7 (mi : MI) (w : WS) : Nat → Nat → Int32 → Int32 → Int32 → Int32 → Option Int32
  | 0, _, _, _, _, _ => none
  | n + 1, i0, x1, x2, x3, x4 => if 25 ≤ x4 then some x2 else if ((x3 >>> (x4 &&& 31)) &&& 1) = 0 then L_X1_holeCount_7 mi w n i0 x1 x2 x3 (x4 + 1) else L_X1_holeCount_7 mi w n i0 x1 (x2 + 1) (x3 &&& ((fGrown mi i0 x3 25 ((1 : Int32) <<< (x4 &&& 31))) ^^^ (-1))) (x4 + 1)

theorem l_X1_holeCount_7 {gl : Nat} {gx : Nat → Int32} {d : Nat} {P : PL} {Q : PO} {lv : LV} {mi : MI} {w : WS} (n : Nat) : ∀ {i0 : Nat} {x1 : Int32} {x2 : Int32} {x3 : Int32} {x4 : Int32} {r : Int32}, L_X1_holeCount_7 mi w n i0 x1 x2 x3 x4 = some r → (Q (aI r) (mi, RS w, lv)) → Wp gl gx (d + 3) P 17 7 [aR 5 i0, aI x1, aI x2, aI x3, aI x4] [] (mi, RS w, lv) Q := by
  induction n with
  | zero => intro i0 x1 x2 x3 x4 r hf h0; exact o_none hf
  | succ n ih => intro i0 x1 x2 x3 x4 r hf h0; exact r_X1_holeCount_7 (⟨fun q115 => k_ifp q115 hf (fun q117 => o_rP q117 h0), fun q116 => k_ifn q116 hf (fun q117 => ⟨fun q118 => k_ifp q118 q117 (fun q120 => ih q120 h0), fun q119 => k_ifn q119 q117 (fun q120 => ih q120 h0)⟩)⟩)

def F_X1_holeCount (mi : MI) (w : WS) (i0 : Nat) (x1 : Int32) : Option Int32 := L_X1_holeCount_7 mi w 1000000 i0 x1 0 x1 0

theorem s_X1_holeCount {gl : Nat} {gx : Nat → Int32} {d : Nat} {P : PL} {Q : PO} {mi : MI} {w : WS} {lv : LV} {i0 : Nat} {x1 : Int32} {r : Int32} (hf : F_X1_holeCount mi w i0 x1 = some r) (h0 : Q (aI r) (mi, RS w, lv)) : Wp gl gx (d + 3) P 17 0 [aR 5 i0, aI x1, aU, aU, aU] [] (mi, RS w, lv) Q := r_X1_holeCount_0 (l_X1_holeCount_7 1000000 hf h0)

abbrev row_18 : MT := (⟨"StencilHouse$Figures", "largestHole", "(LStencilHouse$Shop;I)I"⟩, prog_3_method_16_code, 6, some .int, 0, lk_1)
set_option maxRecDepth 20000 in
theorem mt_18 : mt 18 = some row_18 := rfl
theorem r_X1_largestHole_51 {gl : Nat} {gx : Nat → Int32} {d : Nat} {P : PL} {Q : PO} {mi : MI} {w : WS} {lv : LV} {i0 : Nat} {x1 : Int32} {x2 : Int32} {x3 : Int32} {x4 : Int32} {v5 : AV} (h : Wp gl gx (d + 3) P 18 7 [aR 5 i0, aI x1, aI x2, aI x3, aI (x4 + 1), v5] [] (mi, RS w, lv) Q) : Wp gl gx (d + 3) P 18 51 [aR 5 i0, aI x1, aI x2, aI x3, aI x4, v5] [] (mi, RS w, lv) Q := 
  wpT row_18 mt_18 [.iinc 4 1, .goto (.negSucc 46)] (by decide +kernel) [] (by decide +kernel) 24 (h)

theorem r_X1_largestHole_7 {gl : Nat} {gx : Nat → Int32} {d : Nat} {P : PL} {Q : PO} {mi : MI} {w : WS} {lv : LV} {i0 : Nat} {x1 : Int32} {x2 : Int32} {x3 : Int32} {x4 : Int32} {v5 : AV} (h : ((25 ≤ x4) → Q (aI x2) (mi, RS w, lv)) ∧ (¬ (25 ≤ x4) → ((((x3 >>> (x4 &&& 31)) &&& 1) = 0) → Wp gl gx (d + 3) P 18 7 [aR 5 i0, aI x1, aI x2, aI x3, aI (x4 + 1), v5] [] (mi, RS w, lv) Q) ∧ (¬ (((x3 >>> (x4 &&& 31)) &&& 1) = 0) → Wp gl gx (d + 3) P 18 7 [aR 5 i0, aI x1, aI (imax x2 (pop32 (fGrown mi i0 x3 25 ((1 : Int32) <<< (x4 &&& 31))))), aI (x3 &&& ((fGrown mi i0 x3 25 ((1 : Int32) <<< (x4 &&& 31))) ^^^ (-1))), aI (x4 + 1), (aI (fGrown mi i0 x3 25 ((1 : Int32) <<< (x4 &&& 31))))] [] (mi, RS w, lv) Q))) : Wp gl gx (d + 3) P 18 7 [aR 5 i0, aI x1, aI x2, aI x3, aI x4, v5] [] (mi, RS w, lv) Q := 
  wpT row_18 mt_18 [.iload 4, .bipush 25, .if_icmp .ge 46] (by decide +kernel) [(57, [.iload_n 2, .ireturn]), (14, [.iload_n 3, .iload 4, .ishr, .iconst 1, .iand, .ifCond .eq 31]), (23, [.aload_n 0, .iconst 1, .iload 4, .ishl, .iload_n 3, .invokevirtual 70]), (32, [.istore 5, .iload_n 2, .iload 5, .invokestatic 28]), (40, [.invokestatic 53]), (43, [.istore_n 2, .iload_n 3, .iload 5, .iconst (.negSucc 0), .ixor, .iand, .istore_n 3])] (by decide +kernel) 78 (And.intro (fun q121 => (h.1 q121)) (fun q122 => And.intro (fun q123 => r_X1_largestHole_51 (i0 := i0) (x1 := x1) (x2 := x2) (x3 := x3) (x4 := x4) (v5 := v5) (mi := mi) ((h.2 q122).1 q123)) (fun q124 => And.intro ⟨Nat.le_of_ble_eq_true rfl, rfl, rfl⟩ (s_X6_grown (d := d) (And.intro ⟨Nat.le_of_ble_eq_true rfl, rfl, rfl⟩ (s_J6_bitCount_0f7a4 (d := d + 2) (And.intro (Nat.le_of_ble_eq_true rfl) (r_X1_largestHole_51 (i0 := i0) (x1 := x1) (x2 := (imax x2 (pop32 (fGrown mi i0 x3 25 ((1 : Int32) <<< (x4 &&& 31)))))) (x3 := (x3 &&& ((fGrown mi i0 x3 25 ((1 : Int32) <<< (x4 &&& 31))) ^^^ (-1)))) (x4 := x4) (v5 := (aI (fGrown mi i0 x3 25 ((1 : Int32) <<< (x4 &&& 31))))) (mi := mi) ((h.2 q122).2 q124)))))))))

theorem r_X1_largestHole_0 {gl : Nat} {gx : Nat → Int32} {d : Nat} {P : PL} {Q : PO} {mi : MI} {w : WS} {lv : LV} {i0 : Nat} {x1 : Int32} (h : Wp gl gx (d + 3) P 18 7 [aR 5 i0, aI x1, aI 0, aI x1, aI 0, aU] [] (mi, RS w, lv) Q) : Wp gl gx (d + 3) P 18 0 [aR 5 i0, aI x1, aU, aU, aU, aU] [] (mi, RS w, lv) Q := 
  wpT row_18 mt_18 [.iconst 0, .istore_n 2, .iload_n 1, .istore_n 3, .iconst 0, .istore 4] (by decide +kernel) [] (by decide +kernel) 32 (h)

def L_X1_largestHole_7 (mi : MI) (w : WS) : Nat → Nat → Int32 → Int32 → Int32 → Int32 → Option Int32
  | 0, _, _, _, _, _ => none
  | n + 1, i0, x1, x2, x3, x4 => if 25 ≤ x4 then some x2 else if ((x3 >>> (x4 &&& 31)) &&& 1) = 0 then L_X1_largestHole_7 mi w n i0 x1 x2 x3 (x4 + 1) else L_X1_largestHole_7 mi w n i0 x1 (imax x2 (pop32 (fGrown mi i0 x3 25 ((1 : Int32) <<< (x4 &&& 31))))) (x3 &&& ((fGrown mi i0 x3 25 ((1 : Int32) <<< (x4 &&& 31))) ^^^ (-1))) (x4 + 1)

theorem l_X1_largestHole_7 {gl : Nat} {gx : Nat → Int32} {d : Nat} {P : PL} {Q : PO} {lv : LV} {mi : MI} {w : WS} (n : Nat) : ∀ {i0 : Nat} {x1 : Int32} {x2 : Int32} {x3 : Int32} {x4 : Int32} {v5 : AV} {r : Int32}, L_X1_largestHole_7 mi w n i0 x1 x2 x3 x4 = some r → (Q (aI r) (mi, RS w, lv)) → Wp gl gx (d + 3) P 18 7 [aR 5 i0, aI x1, aI x2, aI x3, aI x4, v5] [] (mi, RS w, lv) Q := by
  induction n with
  | zero => intro i0 x1 x2 x3 x4 v5 r hf h0; exact o_none hf
  | succ n ih => intro i0 x1 x2 x3 x4 v5 r hf h0; exact r_X1_largestHole_7 (⟨fun q125 => k_ifp q125 hf (fun q127 => o_rP q127 h0), fun q126 => k_ifn q126 hf (fun q127 => ⟨fun q128 => k_ifp q128 q127 (fun q130 => ih q130 h0), fun q129 => k_ifn q129 q127 (fun q130 => ih q130 h0)⟩)⟩)

def F_X1_largestHole (mi : MI) (w : WS) (i0 : Nat) (x1 : Int32) : Option Int32 := L_X1_largestHole_7 mi w 1000000 i0 x1 0 x1 0

theorem s_X1_largestHole {gl : Nat} {gx : Nat → Int32} {d : Nat} {P : PL} {Q : PO} {mi : MI} {w : WS} {lv : LV} {i0 : Nat} {x1 : Int32} {r : Int32} (hf : F_X1_largestHole mi w i0 x1 = some r) (h0 : Q (aI r) (mi, RS w, lv)) : Wp gl gx (d + 3) P 18 0 [aR 5 i0, aI x1, aU, aU, aU, aU] [] (mi, RS w, lv) Q := r_X1_largestHole_0 (l_X1_largestHole_7 1000000 hf h0)

abbrev row_20 : MT := (⟨"StencilHouse$Figures", "isOpenAt", "(LStencilHouse$Shop;III)Z"⟩, prog_3_method_18_code, 4, some .boolean, 0, lk_1)
set_option maxRecDepth 20000 in
theorem mt_20 : mt 20 = some row_20 := rfl
theorem r_X1_isOpenAt_0 {gl : Nat} {gx : Nat → Int32} {d : Nat} {P : PL} {Q : PO} {mi : MI} {w : WS} {lv : LV} {i0 : Nat} {x1 : Int32} {x2 : Int32} {x3 : Int32} (h : Q (aI (b2 ((¬ (x2 < 0) ∧ (¬ ((mi 5 i0 0) ≤ x2) ∧ (¬ (x3 < 0) ∧ (¬ ((mi 5 i0 1) ≤ x3))))) ∧ (¬ (((x1 >>> (((x3 * (mi 5 i0 0)) + x2) &&& 31)) &&& 1) = 0))))) (mi, RS w, lv)) : Wp gl gx (d + 1) P 20 0 [aR 5 i0, aI x1, aI x2, aI x3] [] (mi, RS w, lv) Q := 
  wpT row_20 mt_20 [.aload_n 0, .iload_n 2, .iload_n 3, .invokevirtual 83] (by decide +kernel) [(6, [.ifCond .eq 22]), (28, [.iconst 0, .ireturn]), (9, [.iload_n 1, .iload_n 3, .aload_n 0, .getfield 76, .imul, .iload_n 2, .iadd, .ishr, .iconst 1, .iand, .ifCond .eq 7]), (24, [.iconst 1, .goto 4]), (29, [.ireturn])] (by decide +kernel) 62 (And.intro ⟨Nat.le_of_ble_eq_true rfl, rfl, rfl⟩ (s_X6_hasPlace (d := d) (And.intro (fun q131 => And.intro rfl (mv9 (fun v => Q (aI v) (mi, RS w, lv)) (show (b2 ((¬ (x2 < 0) ∧ (¬ ((mi 5 i0 0) ≤ x2) ∧ (¬ (x3 < 0) ∧ (¬ ((mi 5 i0 1) ≤ x3))))) ∧ (¬ (((x1 >>> (((x3 * (mi 5 i0 0)) + x2) &&& 31)) &&& 1) = 0)))) = 0 from b2a_f (show ¬ (¬ (x2 < 0) ∧ (¬ ((mi 5 i0 0) ≤ x2) ∧ (¬ (x3 < 0) ∧ (¬ ((mi 5 i0 1) ≤ x3))))) from (b2_0 q131))) h)) (fun q132 => And.intro (fun q133 => And.intro rfl (mv9 (fun v => Q (aI v) (mi, RS w, lv)) (show (b2 (¬ (((x1 >>> (((x3 * (mi 5 i0 0)) + x2) &&& 31)) &&& 1) = 0))) = 0 from b2n_t (show ((x1 >>> (((x3 * (mi 5 i0 0)) + x2) &&& 31)) &&& 1) = 0 from q133)) (mv9 (fun v => Q (aI v) (mi, RS w, lv)) (show (b2 ((¬ (x2 < 0) ∧ (¬ ((mi 5 i0 0) ≤ x2) ∧ (¬ (x3 < 0) ∧ (¬ ((mi 5 i0 1) ≤ x3))))) ∧ (¬ (((x1 >>> (((x3 * (mi 5 i0 0)) + x2) &&& 31)) &&& 1) = 0)))) = (b2 (¬ (((x1 >>> (((x3 * (mi 5 i0 0)) + x2) &&& 31)) &&& 1) = 0))) from b2a_t (show ¬ (x2 < 0) ∧ (¬ ((mi 5 i0 0) ≤ x2) ∧ (¬ (x3 < 0) ∧ (¬ ((mi 5 i0 1) ≤ x3)))) from (b2_n q132))) h))) (fun q134 => And.intro rfl (mv9 (fun v => Q (aI v) (mi, RS w, lv)) (show (b2 (¬ (((x1 >>> (((x3 * (mi 5 i0 0)) + x2) &&& 31)) &&& 1) = 0))) = 1 from b2n_f (show ¬ (((x1 >>> (((x3 * (mi 5 i0 0)) + x2) &&& 31)) &&& 1) = 0) from q134)) (mv9 (fun v => Q (aI v) (mi, RS w, lv)) (show (b2 ((¬ (x2 < 0) ∧ (¬ ((mi 5 i0 0) ≤ x2) ∧ (¬ (x3 < 0) ∧ (¬ ((mi 5 i0 1) ≤ x3))))) ∧ (¬ (((x1 >>> (((x3 * (mi 5 i0 0)) + x2) &&& 31)) &&& 1) = 0)))) = (b2 (¬ (((x1 >>> (((x3 * (mi 5 i0 0)) + x2) &&& 31)) &&& 1) = 0))) from b2a_t (show ¬ (x2 < 0) ∧ (¬ ((mi 5 i0 0) ≤ x2) ∧ (¬ (x3 < 0) ∧ (¬ ((mi 5 i0 1) ≤ x3)))) from (b2_n q132))) h)))))))

abbrev f_X1_isOpenAt (mi : MI) (i0 : Nat) (x1 : Int32) (x2 : Int32) (x3 : Int32) : Int32 := b2 ((¬ (x2 < 0) ∧ (¬ ((mi 5 i0 0) ≤ x2) ∧ (¬ (x3 < 0) ∧ (¬ ((mi 5 i0 1) ≤ x3))))) ∧ (¬ (((x1 >>> (((x3 * (mi 5 i0 0)) + x2) &&& 31)) &&& 1) = 0)))
theorem s_X1_isOpenAt {gl : Nat} {gx : Nat → Int32} {d : Nat} {P : PL} {Q : PO} {mi : MI} {w : WS} {lv : LV} {i0 : Nat} {x1 : Int32} {x2 : Int32} {x3 : Int32} (h : Q (aI (f_X1_isOpenAt mi i0 x1 x2 x3)) (mi, RS w, lv)) : Wp gl gx (d + 1) P 20 0 [aR 5 i0, aI x1, aI x2, aI x3] [] (mi, RS w, lv) Q := r_X1_isOpenAt_0 h

abbrev row_21 : MT := (⟨"StencilHouse$Figures", "strokeCount", "(LStencilHouse$Shop;I)I"⟩, prog_3_method_19_code, 5, some .int, 0, lk_1)
set_option maxRecDepth 20000 in
theorem mt_21 : mt 21 = some row_21 := rfl
theorem r_X1_strokeCount_51 {gl : Nat} {gx : Nat → Int32} {d : Nat} {P : PL} {Q : PO} {mi : MI} {w : WS} {lv : LV} {i0 : Nat} {x1 : Int32} {x2 : Int32} {x3 : Int32} {x4 : Int32} (h : Wp gl gx (d + 2) P 21 15 [aR 5 i0, aI x1, aI x2, aI x3, aI (x4 + 1)] [] (mi, RS w, lv) Q) : Wp gl gx (d + 2) P 21 51 [aR 5 i0, aI x1, aI x2, aI x3, aI x4] [] (mi, RS w, lv) Q := 
  wpT row_21 mt_21 [.iinc 4 1, .goto (.negSucc 38)] (by decide +kernel) [] (by decide +kernel) 24 (h)

theorem r_X1_strokeCount_15 {gl : Nat} {gx : Nat → Int32} {d : Nat} {P : PL} {Q : PO} {mi : MI} {w : WS} {lv : LV} {i0 : Nat} {x1 : Int32} {x2 : Int32} {x3 : Int32} {x4 : Int32} (h : (((mi 5 i0 0) ≤ x4) → Wp gl gx (d + 2) P 21 4 [aR 5 i0, aI x1, aI x2, aI (x3 + 1), aI x4] [] (mi, RS w, lv) Q) ∧ (¬ ((mi 5 i0 0) ≤ x4) → (¬ ((¬ (x4 < 0) ∧ (¬ ((mi 5 i0 0) ≤ x4) ∧ (¬ (x3 < 0) ∧ (¬ ((mi 5 i0 1) ≤ x3))))) ∧ (¬ (((x1 >>> (((x3 * (mi 5 i0 0)) + x4) &&& 31)) &&& 1) = 0))) → Wp gl gx (d + 2) P 21 15 [aR 5 i0, aI x1, aI x2, aI x3, aI (x4 + 1)] [] (mi, RS w, lv) Q) ∧ ((¬ (x4 < 0) ∧ (¬ ((mi 5 i0 0) ≤ x4) ∧ (¬ (x3 < 0) ∧ (¬ ((mi 5 i0 1) ≤ x3))))) ∧ (¬ (((x1 >>> (((x3 * (mi 5 i0 0)) + x4) &&& 31)) &&& 1) = 0)) → Wp gl gx (d + 2) P 21 15 [aR 5 i0, aI x1, aI (if (¬ ((x4 - 1) < 0) ∧ (¬ ((mi 5 i0 0) ≤ (x4 - 1)) ∧ (¬ (x3 < 0) ∧ (¬ ((mi 5 i0 1) ≤ x3))))) ∧ (¬ (((x1 >>> (((x3 * (mi 5 i0 0)) + (x4 - 1)) &&& 31)) &&& 1) = 0)) then x2 else x2 + 1), aI x3, aI (x4 + 1)] [] (mi, RS w, lv) Q))) : Wp gl gx (d + 2) P 21 15 [aR 5 i0, aI x1, aI x2, aI x3, aI x4] [] (mi, RS w, lv) Q := 
  wpT row_21 mt_21 [.iload 4, .aload_n 0, .getfield 76, .if_icmp .ge 36] (by decide +kernel) [(57, [.iinc 3 1, .goto (.negSucc 55)]), (24, [.aload_n 0, .iload_n 1, .iload 4, .iload_n 3, .invokestatic 79]), (32, [.ifCond .eq 19]), (35, [.aload_n 0, .iload_n 1, .iload 4, .iconst 1, .isub, .iload_n 3, .invokestatic 79]), (45, [.ifCond .ne 6]), (48, [.iinc 2 1])] (by decide +kernel) 62 (And.intro (fun q135 => (h.1 q135)) (fun q136 => And.intro ⟨Nat.le_of_ble_eq_true rfl, rfl, rfl⟩ (s_X1_isOpenAt (d := d) (And.intro (fun q137 => r_X1_strokeCount_51 (i0 := i0) (x1 := x1) (x2 := x2) (x3 := x3) (x4 := x4) (mi := mi) ((h.2 q136).1 (b2_0 q137))) (fun q138 => And.intro ⟨Nat.le_of_ble_eq_true rfl, rfl, rfl⟩ (s_X1_isOpenAt (d := d) (And.intro (fun q139 => r_X1_strokeCount_51 (i0 := i0) (x1 := x1) (x2 := x2) (x3 := x3) (x4 := x4) (mi := mi) (mv9 (fun v => Wp gl gx (d + 2) P 21 15 [aR 5 i0, aI x1, aI v, aI x3, aI (x4 + 1)] [] (mi, RS w, lv) Q) (show (if (¬ ((x4 - 1) < 0) ∧ (¬ ((mi 5 i0 0) ≤ (x4 - 1)) ∧ (¬ (x3 < 0) ∧ (¬ ((mi 5 i0 1) ≤ x3))))) ∧ (¬ (((x1 >>> (((x3 * (mi 5 i0 0)) + (x4 - 1)) &&& 31)) &&& 1) = 0)) then x2 else x2 + 1) = x2 from if_pos (show (¬ ((x4 - 1) < 0) ∧ (¬ ((mi 5 i0 0) ≤ (x4 - 1)) ∧ (¬ (x3 < 0) ∧ (¬ ((mi 5 i0 1) ≤ x3))))) ∧ (¬ (((x1 >>> (((x3 * (mi 5 i0 0)) + (x4 - 1)) &&& 31)) &&& 1) = 0)) from (b2_n q139))) ((h.2 q136).2 (b2_n q138)))) (fun q140 => r_X1_strokeCount_51 (i0 := i0) (x1 := x1) (x2 := (x2 + 1)) (x3 := x3) (x4 := x4) (mi := mi) (mv9 (fun v => Wp gl gx (d + 2) P 21 15 [aR 5 i0, aI x1, aI v, aI x3, aI (x4 + 1)] [] (mi, RS w, lv) Q) (show (if (¬ ((x4 - 1) < 0) ∧ (¬ ((mi 5 i0 0) ≤ (x4 - 1)) ∧ (¬ (x3 < 0) ∧ (¬ ((mi 5 i0 1) ≤ x3))))) ∧ (¬ (((x1 >>> (((x3 * (mi 5 i0 0)) + (x4 - 1)) &&& 31)) &&& 1) = 0)) then x2 else x2 + 1) = (x2 + 1) from if_neg (show ¬ ((¬ ((x4 - 1) < 0) ∧ (¬ ((mi 5 i0 0) ≤ (x4 - 1)) ∧ (¬ (x3 < 0) ∧ (¬ ((mi 5 i0 1) ≤ x3))))) ∧ (¬ (((x1 >>> (((x3 * (mi 5 i0 0)) + (x4 - 1)) &&& 31)) &&& 1) = 0))) from (b2_0 q140))) ((h.2 q136).2 (b2_n q138)))))))))))

theorem r_X1_strokeCount_4 {gl : Nat} {gx : Nat → Int32} {d : Nat} {P : PL} {Q : PO} {mi : MI} {w : WS} {lv : LV} {i0 : Nat} {x1 : Int32} {x2 : Int32} {x3 : Int32} {v4 : AV} (h : (((mi 5 i0 1) ≤ x3) → Q (aI x2) (mi, RS w, lv)) ∧ (¬ ((mi 5 i0 1) ≤ x3) → Wp gl gx (d + 2) P 21 15 [aR 5 i0, aI x1, aI x2, aI x3, aI 0] [] (mi, RS w, lv) Q)) : Wp gl gx (d + 2) P 21 4 [aR 5 i0, aI x1, aI x2, aI x3, v4] [] (mi, RS w, lv) Q := 
  wpT row_21 mt_21 [.iload_n 3, .aload_n 0, .getfield 73, .if_icmp .ge 54] (by decide +kernel) [(63, [.iload_n 2, .ireturn]), (12, [.iconst 0, .istore 4])] (by decide +kernel) 36 (And.intro (fun q141 => (h.1 q141)) (fun q142 => (h.2 q142)))

theorem r_X1_strokeCount_0 {gl : Nat} {gx : Nat → Int32} {d : Nat} {P : PL} {Q : PO} {mi : MI} {w : WS} {lv : LV} {i0 : Nat} {x1 : Int32} (h : Wp gl gx (d + 2) P 21 4 [aR 5 i0, aI x1, aI 0, aI 0, aU] [] (mi, RS w, lv) Q) : Wp gl gx (d + 2) P 21 0 [aR 5 i0, aI x1, aU, aU, aU] [] (mi, RS w, lv) Q := 
  wpT row_21 mt_21 [.iconst 0, .istore_n 2, .iconst 0, .istore_n 3] (by decide +kernel) [] (by decide +kernel) 28 (h)

def L_X1_strokeCount_15 (mi : MI) (w : WS) (k4 : Nat → Int32 → Int32 → Int32 → Option Int32) : Nat → Nat → Int32 → Int32 → Int32 → Int32 → Option Int32
  | 0, _, _, _, _, _ => none
  | n + 1, i0, x1, x2, x3, x4 => if (mi 5 i0 0) ≤ x4 then k4 i0 x1 x2 (x3 + 1) else if (¬ (x4 < 0) ∧ (¬ ((mi 5 i0 0) ≤ x4) ∧ (¬ (x3 < 0) ∧ (¬ ((mi 5 i0 1) ≤ x3))))) ∧ (¬ (((x1 >>> (((x3 * (mi 5 i0 0)) + x4) &&& 31)) &&& 1) = 0)) then L_X1_strokeCount_15 mi w k4 n i0 x1 (if (¬ ((x4 - 1) < 0) ∧ (¬ ((mi 5 i0 0) ≤ (x4 - 1)) ∧ (¬ (x3 < 0) ∧ (¬ ((mi 5 i0 1) ≤ x3))))) ∧ (¬ (((x1 >>> (((x3 * (mi 5 i0 0)) + (x4 - 1)) &&& 31)) &&& 1) = 0)) then x2 else x2 + 1) x3 (x4 + 1) else L_X1_strokeCount_15 mi w k4 n i0 x1 x2 x3 (x4 + 1)

theorem l_X1_strokeCount_15 {gl : Nat} {gx : Nat → Int32} {d : Nat} {P : PL} {Q : PO} {lv : LV} {mi : MI} {w : WS} {k4 : Nat → Int32 → Int32 → Int32 → Option Int32} (hk4 : ∀ {i0 : Nat} {x1 : Int32} {x2 : Int32} {x3 : Int32} {v4 : AV} {r : Int32}, k4 i0 x1 x2 x3 = some r → (Q (aI r) (mi, RS w, lv)) → Wp gl gx (d + 2) P 21 4 [aR 5 i0, aI x1, aI x2, aI x3, v4] [] (mi, RS w, lv) Q) (n : Nat) : ∀ {i0 : Nat} {x1 : Int32} {x2 : Int32} {x3 : Int32} {x4 : Int32} {r : Int32}, L_X1_strokeCount_15 mi w k4 n i0 x1 x2 x3 x4 = some r → (Q (aI r) (mi, RS w, lv)) → Wp gl gx (d + 2) P 21 15 [aR 5 i0, aI x1, aI x2, aI x3, aI x4] [] (mi, RS w, lv) Q := by
  induction n with
  | zero => intro i0 x1 x2 x3 x4 r hf h0; exact o_none hf
  | succ n ih => intro i0 x1 x2 x3 x4 r hf h0; exact r_X1_strokeCount_15 (⟨fun q143 => k_ifp q143 hf (fun q145 => hk4 q145 h0), fun q144 => k_ifn q144 hf (fun q145 => ⟨fun q146 => k_ifn q146 q145 (fun q148 => ih q148 h0), fun q147 => k_ifp q147 q145 (fun q148 => ih q148 h0)⟩)⟩)

def L_X1_strokeCount_4 (mi : MI) (w : WS) : Nat → Nat → Int32 → Int32 → Int32 → Option Int32
  | 0, _, _, _, _ => none
  | n + 1, i0, x1, x2, x3 => if (mi 5 i0 1) ≤ x3 then some x2 else L_X1_strokeCount_15 mi w (fun i0 x1 x2 x3 => L_X1_strokeCount_4 mi w n i0 x1 x2 x3) 1000000 i0 x1 x2 x3 0

theorem l_X1_strokeCount_4 {gl : Nat} {gx : Nat → Int32} {d : Nat} {P : PL} {Q : PO} {lv : LV} {mi : MI} {w : WS} (n : Nat) : ∀ {i0 : Nat} {x1 : Int32} {x2 : Int32} {x3 : Int32} {v4 : AV} {r : Int32}, L_X1_strokeCount_4 mi w n i0 x1 x2 x3 = some r → (Q (aI r) (mi, RS w, lv)) → Wp gl gx (d + 2) P 21 4 [aR 5 i0, aI x1, aI x2, aI x3, v4] [] (mi, RS w, lv) Q := by
  induction n with
  | zero => intro i0 x1 x2 x3 v4 r hf h0; exact o_none hf
  | succ n ih => intro i0 x1 x2 x3 v4 r hf h0; exact r_X1_strokeCount_4 (⟨fun q149 => k_ifp q149 hf (fun q151 => o_rP q151 h0), fun q150 => k_ifn q150 hf (fun q151 => l_X1_strokeCount_15 (fun hf h0 => ih hf h0) 1000000 q151 h0)⟩)

def F_X1_strokeCount (mi : MI) (w : WS) (i0 : Nat) (x1 : Int32) : Option Int32 := L_X1_strokeCount_4 mi w 1000000 i0 x1 0 0

theorem s_X1_strokeCount {gl : Nat} {gx : Nat → Int32} {d : Nat} {P : PL} {Q : PO} {mi : MI} {w : WS} {lv : LV} {i0 : Nat} {x1 : Int32} {r : Int32} (hf : F_X1_strokeCount mi w i0 x1 = some r) (h0 : Q (aI r) (mi, RS w, lv)) : Wp gl gx (d + 2) P 21 0 [aR 5 i0, aI x1, aU, aU, aU] [] (mi, RS w, lv) Q := r_X1_strokeCount_0 (l_X1_strokeCount_4 1000000 hf h0)

abbrev row_22 : MT := (⟨"StencilHouse$Figures", "longestStroke", "(LStencilHouse$Shop;I)I"⟩, prog_3_method_20_code, 6, some .int, 0, lk_1)
set_option maxRecDepth 20000 in
theorem mt_22 : mt 22 = some row_22 := rfl
theorem r_X1_longestStroke_46 {gl : Nat} {gx : Nat → Int32} {d : Nat} {P : PL} {Q : PO} {mi : MI} {w : WS} {lv : LV} {i0 : Nat} {x1 : Int32} {x2 : Int32} {x3 : Int32} {x4 : Int32} {x5 : Int32} {s0 : Int32} (h : Wp gl gx (d + 2) P 22 18 [aR 5 i0, aI x1, aI (imax x2 s0), aI x3, aI s0, aI (x5 + 1)] [] (mi, RS w, lv) Q) : Wp gl gx (d + 2) P 22 46 [aR 5 i0, aI x1, aI x2, aI x3, aI x4, aI x5] [aI s0] (mi, RS w, lv) Q := 
  wpT row_22 mt_22 [.istore 4, .iload_n 2, .iload 4, .invokestatic 53] (by decide +kernel) [(54, [.istore_n 2, .iinc 5 1, .goto (.negSucc 39)])] (by decide +kernel) 34 (And.intro (Nat.le_of_ble_eq_true rfl) (h))

theorem r_X1_longestStroke_18 {gl : Nat} {gx : Nat → Int32} {d : Nat} {P : PL} {Q : PO} {mi : MI} {w : WS} {lv : LV} {i0 : Nat} {x1 : Int32} {x2 : Int32} {x3 : Int32} {x4 : Int32} {x5 : Int32} (h : (((mi 5 i0 0) ≤ x5) → Wp gl gx (d + 2) P 22 4 [aR 5 i0, aI x1, aI x2, aI (x3 + 1), aI x4, aI x5] [] (mi, RS w, lv) Q) ∧ (¬ ((mi 5 i0 0) ≤ x5) → Wp gl gx (d + 2) P 22 18 [aR 5 i0, aI x1, aI (imax x2 (if (¬ (x5 < 0) ∧ (¬ ((mi 5 i0 0) ≤ x5) ∧ (¬ (x3 < 0) ∧ (¬ ((mi 5 i0 1) ≤ x3))))) ∧ (¬ (((x1 >>> (((x3 * (mi 5 i0 0)) + x5) &&& 31)) &&& 1) = 0)) then x4 + 1 else 0)), aI x3, aI (if (¬ (x5 < 0) ∧ (¬ ((mi 5 i0 0) ≤ x5) ∧ (¬ (x3 < 0) ∧ (¬ ((mi 5 i0 1) ≤ x3))))) ∧ (¬ (((x1 >>> (((x3 * (mi 5 i0 0)) + x5) &&& 31)) &&& 1) = 0)) then x4 + 1 else 0), aI (x5 + 1)] [] (mi, RS w, lv) Q)) : Wp gl gx (d + 2) P 22 18 [aR 5 i0, aI x1, aI x2, aI x3, aI x4, aI x5] [] (mi, RS w, lv) Q := 
  wpT row_22 mt_22 [.iload 5, .aload_n 0, .getfield 76, .if_icmp .ge 37] (by decide +kernel) [(61, [.iinc 3 1, .goto (.negSucc 59)]), (27, [.aload_n 0, .iload_n 1, .iload 5, .iload_n 3, .invokestatic 79]), (35, [.ifCond .eq 10]), (45, [.iconst 0]), (38, [.iload 4, .iconst 1, .iadd, .goto 4])] (by decide +kernel) 54 (And.intro (fun q152 => (h.1 q152)) (fun q153 => And.intro ⟨Nat.le_of_ble_eq_true rfl, rfl, rfl⟩ (s_X1_isOpenAt (d := d) (And.intro (fun q154 => r_X1_longestStroke_46 (i0 := i0) (x1 := x1) (x2 := x2) (x3 := x3) (x4 := x4) (x5 := x5) (s0 := 0) (mi := mi) (mv9 (fun v => Wp gl gx (d + 2) P 22 18 [aR 5 i0, aI x1, aI (imax x2 v), aI x3, aI v, aI (x5 + 1)] [] (mi, RS w, lv) Q) (show (if (¬ (x5 < 0) ∧ (¬ ((mi 5 i0 0) ≤ x5) ∧ (¬ (x3 < 0) ∧ (¬ ((mi 5 i0 1) ≤ x3))))) ∧ (¬ (((x1 >>> (((x3 * (mi 5 i0 0)) + x5) &&& 31)) &&& 1) = 0)) then x4 + 1 else 0) = 0 from if_neg (show ¬ ((¬ (x5 < 0) ∧ (¬ ((mi 5 i0 0) ≤ x5) ∧ (¬ (x3 < 0) ∧ (¬ ((mi 5 i0 1) ≤ x3))))) ∧ (¬ (((x1 >>> (((x3 * (mi 5 i0 0)) + x5) &&& 31)) &&& 1) = 0))) from (b2_0 q154))) (h.2 q153))) (fun q155 => r_X1_longestStroke_46 (i0 := i0) (x1 := x1) (x2 := x2) (x3 := x3) (x4 := x4) (x5 := x5) (s0 := (x4 + 1)) (mi := mi) (mv9 (fun v => Wp gl gx (d + 2) P 22 18 [aR 5 i0, aI x1, aI (imax x2 v), aI x3, aI v, aI (x5 + 1)] [] (mi, RS w, lv) Q) (show (if (¬ (x5 < 0) ∧ (¬ ((mi 5 i0 0) ≤ x5) ∧ (¬ (x3 < 0) ∧ (¬ ((mi 5 i0 1) ≤ x3))))) ∧ (¬ (((x1 >>> (((x3 * (mi 5 i0 0)) + x5) &&& 31)) &&& 1) = 0)) then x4 + 1 else 0) = (x4 + 1) from if_pos (show (¬ (x5 < 0) ∧ (¬ ((mi 5 i0 0) ≤ x5) ∧ (¬ (x3 < 0) ∧ (¬ ((mi 5 i0 1) ≤ x3))))) ∧ (¬ (((x1 >>> (((x3 * (mi 5 i0 0)) + x5) &&& 31)) &&& 1) = 0)) from (b2_n q155))) (h.2 q153)))))))

theorem r_X1_longestStroke_4 {gl : Nat} {gx : Nat → Int32} {d : Nat} {P : PL} {Q : PO} {mi : MI} {w : WS} {lv : LV} {i0 : Nat} {x1 : Int32} {x2 : Int32} {x3 : Int32} {v4 : AV} {v5 : AV} (h : (((mi 5 i0 1) ≤ x3) → Q (aI x2) (mi, RS w, lv)) ∧ (¬ ((mi 5 i0 1) ≤ x3) → Wp gl gx (d + 2) P 22 18 [aR 5 i0, aI x1, aI x2, aI x3, aI 0, aI 0] [] (mi, RS w, lv) Q)) : Wp gl gx (d + 2) P 22 4 [aR 5 i0, aI x1, aI x2, aI x3, v4, v5] [] (mi, RS w, lv) Q := 
  wpT row_22 mt_22 [.iload_n 3, .aload_n 0, .getfield 73, .if_icmp .ge 58] (by decide +kernel) [(67, [.iload_n 2, .ireturn]), (12, [.iconst 0, .istore 4, .iconst 0, .istore 5])] (by decide +kernel) 40 (And.intro (fun q156 => (h.1 q156)) (fun q157 => (h.2 q157)))

theorem r_X1_longestStroke_0 {gl : Nat} {gx : Nat → Int32} {d : Nat} {P : PL} {Q : PO} {mi : MI} {w : WS} {lv : LV} {i0 : Nat} {x1 : Int32} (h : Wp gl gx (d + 2) P 22 4 [aR 5 i0, aI x1, aI 0, aI 0, aU, aU] [] (mi, RS w, lv) Q) : Wp gl gx (d + 2) P 22 0 [aR 5 i0, aI x1, aU, aU, aU, aU] [] (mi, RS w, lv) Q := 
  wpT row_22 mt_22 [.iconst 0, .istore_n 2, .iconst 0, .istore_n 3] (by decide +kernel) [] (by decide +kernel) 28 (h)

def L_X1_longestStroke_18 (mi : MI) (w : WS) (k4 : Nat → Int32 → Int32 → Int32 → Option Int32) : Nat → Nat → Int32 → Int32 → Int32 → Int32 → Int32 → Option Int32
  | 0, _, _, _, _, _, _ => none
  | n + 1, i0, x1, x2, x3, x4, x5 => if (mi 5 i0 0) ≤ x5 then k4 i0 x1 x2 (x3 + 1) else L_X1_longestStroke_18 mi w k4 n i0 x1 (imax x2 (if (¬ (x5 < 0) ∧ (¬ ((mi 5 i0 0) ≤ x5) ∧ (¬ (x3 < 0) ∧ (¬ ((mi 5 i0 1) ≤ x3))))) ∧ (¬ (((x1 >>> (((x3 * (mi 5 i0 0)) + x5) &&& 31)) &&& 1) = 0)) then x4 + 1 else 0)) x3 (if (¬ (x5 < 0) ∧ (¬ ((mi 5 i0 0) ≤ x5) ∧ (¬ (x3 < 0) ∧ (¬ ((mi 5 i0 1) ≤ x3))))) ∧ (¬ (((x1 >>> (((x3 * (mi 5 i0 0)) + x5) &&& 31)) &&& 1) = 0)) then x4 + 1 else 0) (x5 + 1)

theorem l_X1_longestStroke_18 {gl : Nat} {gx : Nat → Int32} {d : Nat} {P : PL} {Q : PO} {lv : LV} {mi : MI} {w : WS} {k4 : Nat → Int32 → Int32 → Int32 → Option Int32} (hk4 : ∀ {i0 : Nat} {x1 : Int32} {x2 : Int32} {x3 : Int32} {v4 : AV} {v5 : AV} {r : Int32}, k4 i0 x1 x2 x3 = some r → (Q (aI r) (mi, RS w, lv)) → Wp gl gx (d + 2) P 22 4 [aR 5 i0, aI x1, aI x2, aI x3, v4, v5] [] (mi, RS w, lv) Q) (n : Nat) : ∀ {i0 : Nat} {x1 : Int32} {x2 : Int32} {x3 : Int32} {x4 : Int32} {x5 : Int32} {r : Int32}, L_X1_longestStroke_18 mi w k4 n i0 x1 x2 x3 x4 x5 = some r → (Q (aI r) (mi, RS w, lv)) → Wp gl gx (d + 2) P 22 18 [aR 5 i0, aI x1, aI x2, aI x3, aI x4, aI x5] [] (mi, RS w, lv) Q := by
  induction n with
  | zero => intro i0 x1 x2 x3 x4 x5 r hf h0; exact o_none hf
  | succ n ih => intro i0 x1 x2 x3 x4 x5 r hf h0; exact r_X1_longestStroke_18 (⟨fun q158 => k_ifp q158 hf (fun q160 => hk4 q160 h0), fun q159 => k_ifn q159 hf (fun q160 => ih q160 h0)⟩)

def L_X1_longestStroke_4 (mi : MI) (w : WS) : Nat → Nat → Int32 → Int32 → Int32 → Option Int32
  | 0, _, _, _, _ => none
  | n + 1, i0, x1, x2, x3 => if (mi 5 i0 1) ≤ x3 then some x2 else L_X1_longestStroke_18 mi w (fun i0 x1 x2 x3 => L_X1_longestStroke_4 mi w n i0 x1 x2 x3) 1000000 i0 x1 x2 x3 0 0

theorem l_X1_longestStroke_4 {gl : Nat} {gx : Nat → Int32} {d : Nat} {P : PL} {Q : PO} {lv : LV} {mi : MI} {w : WS} (n : Nat) : ∀ {i0 : Nat} {x1 : Int32} {x2 : Int32} {x3 : Int32} {v4 : AV} {v5 : AV} {r : Int32}, L_X1_longestStroke_4 mi w n i0 x1 x2 x3 = some r → (Q (aI r) (mi, RS w, lv)) → Wp gl gx (d + 2) P 22 4 [aR 5 i0, aI x1, aI x2, aI x3, v4, v5] [] (mi, RS w, lv) Q := by
  induction n with
  | zero => intro i0 x1 x2 x3 v4 v5 r hf h0; exact o_none hf
  | succ n ih => intro i0 x1 x2 x3 v4 v5 r hf h0; exact r_X1_longestStroke_4 (⟨fun q161 => k_ifp q161 hf (fun q163 => o_rP q163 h0), fun q162 => k_ifn q162 hf (fun q163 => l_X1_longestStroke_18 (fun hf h0 => ih hf h0) 1000000 q163 h0)⟩)

def F_X1_longestStroke (mi : MI) (w : WS) (i0 : Nat) (x1 : Int32) : Option Int32 := L_X1_longestStroke_4 mi w 1000000 i0 x1 0 0

theorem s_X1_longestStroke {gl : Nat} {gx : Nat → Int32} {d : Nat} {P : PL} {Q : PO} {mi : MI} {w : WS} {lv : LV} {i0 : Nat} {x1 : Int32} {r : Int32} (hf : F_X1_longestStroke mi w i0 x1 = some r) (h0 : Q (aI r) (mi, RS w, lv)) : Wp gl gx (d + 2) P 22 0 [aR 5 i0, aI x1, aU, aU, aU, aU] [] (mi, RS w, lv) Q := r_X1_longestStroke_0 (l_X1_longestStroke_4 1000000 hf h0)

abbrev row_23 : MT := (⟨"StencilHouse$Figures", "mirrored", "(LStencilHouse$Shop;)I"⟩, prog_3_method_21_code, 3, some .int, 0, lk_1)
set_option maxRecDepth 20000 in
theorem mt_23 : mt 23 = some row_23 := rfl
theorem r_X1_mirrored_37 {gl : Nat} {gx : Nat → Int32} {d : Nat} {P : PL} {Q : PO} {mi : MI} {w : WS} {lv : LV} {i0 : Nat} {x1 : Int32} {x2 : Int32} (h : Wp gl gx (d + 1) P 23 4 [aR 5 i0, aI x1, aI (x2 + 1)] [] (mi, RS w, lv) Q) : Wp gl gx (d + 1) P 23 37 [aR 5 i0, aI x1, aI x2] [] (mi, RS w, lv) Q := 
  wpT row_23 mt_23 [.iinc 2 1, .goto (.negSucc 35)] (by decide +kernel) [] (by decide +kernel) 24 (h)

theorem r_X1_mirrored_4 {gl : Nat} {gx : Nat → Int32} {d : Nat} {P : PL} {Q : PO} {mi : MI} {w : WS} {lv : LV} {i0 : Nat} {x1 : Int32} {x2 : Int32} (h : (((mi 5 i0 3) ≤ x2) → Q (aI x1) (mi, RS w, lv)) ∧ (¬ ((mi 5 i0 3) ≤ x2) → (vp_in x2 6) ∧ ((∃ c8 : Int32, F_X6_flipped mi w i0 (mi 26 i0 x2.toNatClampNeg) = some c8 ∧ (vp_in x2 6) ∧ (Wp gl gx (d + 1) P 23 4 [aR 5 i0, aI (if c8 = (mi 26 i0 x2.toNatClampNeg) then x1 ||| ((1 : Int32) <<< (x2 &&& 31)) else x1), aI (x2 + 1)] [] (mi, RS w, lv) Q))))) : Wp gl gx (d + 1) P 23 4 [aR 5 i0, aI x1, aI x2] [] (mi, RS w, lv) Q := 
  wpT row_23 mt_23 [.iload_n 2, .aload_n 0, .getfield 37, .if_icmp .ge 34] (by decide +kernel) [(43, [.iload_n 1, .ireturn]), (12, [.aload_n 0, .aload_n 0, .getfield 87, .iload_n 2, .iaload]), (19, [.invokevirtual 90]), (22, [.aload_n 0, .getfield 87, .iload_n 2, .iaload]), (28, [.if_icmp .ne 9]), (31, [.iload_n 1, .iconst 1, .iload_n 2, .ishl, .ior, .istore_n 1])] (by decide +kernel) 66 (And.intro (fun q164 => (h.1 q164)) (fun q165 => And.intro (h.2 q165).1 (Exists.elim ((h.2 q165).2) (fun c8 zc8 => And.intro ⟨Nat.le_of_ble_eq_true rfl, rfl, rfl⟩ (s_X6_flipped (d := d) zc8.1 (And.intro zc8.2.1 (And.intro (fun q166 => r_X1_mirrored_37 (i0 := i0) (x1 := x1) (x2 := x2) (mi := mi) (mv9 (fun v => Wp gl gx (d + 1) P 23 4 [aR 5 i0, aI v, aI (x2 + 1)] [] (mi, RS w, lv) Q) (show (if c8 = (mi 26 i0 x2.toNatClampNeg) then x1 ||| ((1 : Int32) <<< (x2 &&& 31)) else x1) = x1 from if_neg (show ¬ (c8 = (mi 26 i0 x2.toNatClampNeg)) from q166)) zc8.2.2)) (fun q167 => r_X1_mirrored_37 (i0 := i0) (x1 := (x1 ||| ((1 : Int32) <<< (x2 &&& 31)))) (x2 := x2) (mi := mi) (mv9 (fun v => Wp gl gx (d + 1) P 23 4 [aR 5 i0, aI v, aI (x2 + 1)] [] (mi, RS w, lv) Q) (show (if c8 = (mi 26 i0 x2.toNatClampNeg) then x1 ||| ((1 : Int32) <<< (x2 &&& 31)) else x1) = (x1 ||| ((1 : Int32) <<< (x2 &&& 31))) from if_pos (show c8 = (mi 26 i0 x2.toNatClampNeg) from q167)) zc8.2.2)))))))))

theorem r_X1_mirrored_0 {gl : Nat} {gx : Nat → Int32} {d : Nat} {P : PL} {Q : PO} {mi : MI} {w : WS} {lv : LV} {i0 : Nat} (h : Wp gl gx (d + 1) P 23 4 [aR 5 i0, aI 0, aI 0] [] (mi, RS w, lv) Q) : Wp gl gx (d + 1) P 23 0 [aR 5 i0, aU, aU] [] (mi, RS w, lv) Q := 
  wpT row_23 mt_23 [.iconst 0, .istore_n 1, .iconst 0, .istore_n 2] (by decide +kernel) [] (by decide +kernel) 28 (h)

def L_X1_mirrored_4 (mi : MI) (w : WS) : Nat → Nat → Int32 → Int32 → Option Int32
  | 0, _, _, _ => none
  | n + 1, i0, x1, x2 => if (mi 5 i0 3) ≤ x2 then some x1 else ck (¬ (x2 < 0 ∨ 6 ≤ x2.toNatClampNeg)) ((F_X6_flipped mi w i0 (mi 26 i0 x2.toNatClampNeg)).bind fun c8 => ck (¬ (x2 < 0 ∨ 6 ≤ x2.toNatClampNeg)) (L_X1_mirrored_4 mi w n i0 (if c8 = (mi 26 i0 x2.toNatClampNeg) then x1 ||| ((1 : Int32) <<< (x2 &&& 31)) else x1) (x2 + 1)))

theorem l_X1_mirrored_4 {gl : Nat} {gx : Nat → Int32} {d : Nat} {P : PL} {Q : PO} {lv : LV} {mi : MI} {w : WS} (n : Nat) : ∀ {i0 : Nat} {x1 : Int32} {x2 : Int32} {r : Int32}, L_X1_mirrored_4 mi w n i0 x1 x2 = some r → (Q (aI r) (mi, RS w, lv)) → Wp gl gx (d + 1) P 23 4 [aR 5 i0, aI x1, aI x2] [] (mi, RS w, lv) Q := by
  induction n with
  | zero => intro i0 x1 x2 r hf h0; exact o_none hf
  | succ n ih => intro i0 x1 x2 r hf h0; exact r_X1_mirrored_4 (⟨fun q168 => k_ifp q168 hf (fun q170 => o_rP q170 h0), fun q169 => k_ifn q169 hf (fun q170 => k_ck q170 (fun q172 q171 => ⟨q172, o_bind q171 (fun c8 qc8 pc8 => ⟨c8, qc8, k_ck pc8 (fun q174 q173 => ⟨q174, ih q173 h0⟩)⟩)⟩))⟩)

def F_X1_mirrored (mi : MI) (w : WS) (i0 : Nat) : Option Int32 := L_X1_mirrored_4 mi w 1000000 i0 0 0

theorem s_X1_mirrored {gl : Nat} {gx : Nat → Int32} {d : Nat} {P : PL} {Q : PO} {mi : MI} {w : WS} {lv : LV} {i0 : Nat} {r : Int32} (hf : F_X1_mirrored mi w i0 = some r) (h0 : Q (aI r) (mi, RS w, lv)) : Wp gl gx (d + 1) P 23 0 [aR 5 i0, aU, aU] [] (mi, RS w, lv) Q := r_X1_mirrored_0 (l_X1_mirrored_4 1000000 hf h0)

abbrev row_24 : MT := (⟨"StencilHouse$Figures", "turnedAlike", "(LStencilHouse$Shop;)I"⟩, prog_3_method_22_code, 3, some .int, 0, lk_1)
set_option maxRecDepth 20000 in
theorem mt_24 : mt 24 = some row_24 := rfl
theorem r_X1_turnedAlike_37 {gl : Nat} {gx : Nat → Int32} {d : Nat} {P : PL} {Q : PO} {mi : MI} {w : WS} {lv : LV} {i0 : Nat} {x1 : Int32} {x2 : Int32} (h : Wp gl gx (d + 1) P 24 4 [aR 5 i0, aI x1, aI (x2 + 1)] [] (mi, RS w, lv) Q) : Wp gl gx (d + 1) P 24 37 [aR 5 i0, aI x1, aI x2] [] (mi, RS w, lv) Q := 
  wpT row_24 mt_24 [.iinc 2 1, .goto (.negSucc 35)] (by decide +kernel) [] (by decide +kernel) 24 (h)

theorem r_X1_turnedAlike_4 {gl : Nat} {gx : Nat → Int32} {d : Nat} {P : PL} {Q : PO} {mi : MI} {w : WS} {lv : LV} {i0 : Nat} {x1 : Int32} {x2 : Int32} (h : (((mi 5 i0 3) ≤ x2) → Q (aI x1) (mi, RS w, lv)) ∧ (¬ ((mi 5 i0 3) ≤ x2) → (vp_in x2 6) ∧ ((∃ c9 : Int32, F_X6_turned mi w i0 (mi 26 i0 x2.toNatClampNeg) = some c9 ∧ (vp_in x2 6) ∧ (Wp gl gx (d + 1) P 24 4 [aR 5 i0, aI (if c9 = (mi 26 i0 x2.toNatClampNeg) then x1 ||| ((1 : Int32) <<< (x2 &&& 31)) else x1), aI (x2 + 1)] [] (mi, RS w, lv) Q))))) : Wp gl gx (d + 1) P 24 4 [aR 5 i0, aI x1, aI x2] [] (mi, RS w, lv) Q := 
  wpT row_24 mt_24 [.iload_n 2, .aload_n 0, .getfield 37, .if_icmp .ge 34] (by decide +kernel) [(43, [.iload_n 1, .ireturn]), (12, [.aload_n 0, .aload_n 0, .getfield 87, .iload_n 2, .iaload]), (19, [.invokevirtual 93]), (22, [.aload_n 0, .getfield 87, .iload_n 2, .iaload]), (28, [.if_icmp .ne 9]), (31, [.iload_n 1, .iconst 1, .iload_n 2, .ishl, .ior, .istore_n 1])] (by decide +kernel) 66 (And.intro (fun q175 => (h.1 q175)) (fun q176 => And.intro (h.2 q176).1 (Exists.elim ((h.2 q176).2) (fun c9 zc9 => And.intro ⟨Nat.le_of_ble_eq_true rfl, rfl, rfl⟩ (s_X6_turned (d := d) zc9.1 (And.intro zc9.2.1 (And.intro (fun q177 => r_X1_turnedAlike_37 (i0 := i0) (x1 := x1) (x2 := x2) (mi := mi) (mv9 (fun v => Wp gl gx (d + 1) P 24 4 [aR 5 i0, aI v, aI (x2 + 1)] [] (mi, RS w, lv) Q) (show (if c9 = (mi 26 i0 x2.toNatClampNeg) then x1 ||| ((1 : Int32) <<< (x2 &&& 31)) else x1) = x1 from if_neg (show ¬ (c9 = (mi 26 i0 x2.toNatClampNeg)) from q177)) zc9.2.2)) (fun q178 => r_X1_turnedAlike_37 (i0 := i0) (x1 := (x1 ||| ((1 : Int32) <<< (x2 &&& 31)))) (x2 := x2) (mi := mi) (mv9 (fun v => Wp gl gx (d + 1) P 24 4 [aR 5 i0, aI v, aI (x2 + 1)] [] (mi, RS w, lv) Q) (show (if c9 = (mi 26 i0 x2.toNatClampNeg) then x1 ||| ((1 : Int32) <<< (x2 &&& 31)) else x1) = (x1 ||| ((1 : Int32) <<< (x2 &&& 31))) from if_pos (show c9 = (mi 26 i0 x2.toNatClampNeg) from q178)) zc9.2.2)))))))))

theorem r_X1_turnedAlike_0 {gl : Nat} {gx : Nat → Int32} {d : Nat} {P : PL} {Q : PO} {mi : MI} {w : WS} {lv : LV} {i0 : Nat} (h : Wp gl gx (d + 1) P 24 4 [aR 5 i0, aI 0, aI 0] [] (mi, RS w, lv) Q) : Wp gl gx (d + 1) P 24 0 [aR 5 i0, aU, aU] [] (mi, RS w, lv) Q := 
  wpT row_24 mt_24 [.iconst 0, .istore_n 1, .iconst 0, .istore_n 2] (by decide +kernel) [] (by decide +kernel) 28 (h)

def L_X1_turnedAlike_4 (mi : MI) (w : WS) : Nat → Nat → Int32 → Int32 → Option Int32
  | 0, _, _, _ => none
  | n + 1, i0, x1, x2 => if (mi 5 i0 3) ≤ x2 then some x1 else ck (¬ (x2 < 0 ∨ 6 ≤ x2.toNatClampNeg)) ((F_X6_turned mi w i0 (mi 26 i0 x2.toNatClampNeg)).bind fun c9 => ck (¬ (x2 < 0 ∨ 6 ≤ x2.toNatClampNeg)) (L_X1_turnedAlike_4 mi w n i0 (if c9 = (mi 26 i0 x2.toNatClampNeg) then x1 ||| ((1 : Int32) <<< (x2 &&& 31)) else x1) (x2 + 1)))

theorem l_X1_turnedAlike_4 {gl : Nat} {gx : Nat → Int32} {d : Nat} {P : PL} {Q : PO} {lv : LV} {mi : MI} {w : WS} (n : Nat) : ∀ {i0 : Nat} {x1 : Int32} {x2 : Int32} {r : Int32}, L_X1_turnedAlike_4 mi w n i0 x1 x2 = some r → (Q (aI r) (mi, RS w, lv)) → Wp gl gx (d + 1) P 24 4 [aR 5 i0, aI x1, aI x2] [] (mi, RS w, lv) Q := by
  induction n with
  | zero => intro i0 x1 x2 r hf h0; exact o_none hf
  | succ n ih => intro i0 x1 x2 r hf h0; exact r_X1_turnedAlike_4 (⟨fun q179 => k_ifp q179 hf (fun q181 => o_rP q181 h0), fun q180 => k_ifn q180 hf (fun q181 => k_ck q181 (fun q183 q182 => ⟨q183, o_bind q182 (fun c9 qc9 pc9 => ⟨c9, qc9, k_ck pc9 (fun q185 q184 => ⟨q185, ih q184 h0⟩)⟩)⟩))⟩)

def F_X1_turnedAlike (mi : MI) (w : WS) (i0 : Nat) : Option Int32 := L_X1_turnedAlike_4 mi w 1000000 i0 0 0

theorem s_X1_turnedAlike {gl : Nat} {gx : Nat → Int32} {d : Nat} {P : PL} {Q : PO} {mi : MI} {w : WS} {lv : LV} {i0 : Nat} {r : Int32} (hf : F_X1_turnedAlike mi w i0 = some r) (h0 : Q (aI r) (mi, RS w, lv)) : Wp gl gx (d + 1) P 24 0 [aR 5 i0, aU, aU] [] (mi, RS w, lv) Q := r_X1_turnedAlike_0 (l_X1_turnedAlike_4 1000000 hf h0)

abbrev row_26 : MT := (⟨"StencilHouse$Figures", "areTwins", "(LStencilHouse$Shop;II)Z"⟩, prog_3_method_24_code, 4, some .boolean, 0, lk_1)
set_option maxRecDepth 20000 in
theorem mt_26 : mt 26 = some row_26 := rfl
theorem r_X1_areTwins_0 {gl : Nat} {gx : Nat → Int32} {d : Nat} {P : PL} {Q : PO} {mi : MI} {w : WS} {lv : LV} {i0 : Nat} {x1 : Int32} {x2 : Int32} (h : (∃ c10 : Int32, F_X6_flipped mi w i0 x2 = some c10 ∧ ((x1 = x2) → Q (aI 1) (mi, RS w, lv)) ∧ (¬ (x1 = x2) → ((x1 = c10) → Q (aI 1) (mi, RS w, lv)) ∧ (¬ (x1 = c10) → (∃ c11 : Int32, F_X6_turned mi w i0 x2 = some c11 ∧ ((x1 = c11) → Q (aI 1) (mi, RS w, lv)) ∧ (¬ (x1 = c11) → (∃ c12 : Int32, F_X6_turned mi w i0 c10 = some c12 ∧ Q (aI (b2 (x1 = c12))) (mi, RS w, lv)))))))) : Wp gl gx (d + 1) P 26 0 [aR 5 i0, aI x1, aI x2, aU] [] (mi, RS w, lv) Q := 
  wpT row_26 mt_26 [.aload_n 0, .iload_n 2, .invokevirtual 90] (by decide +kernel) [(5, [.istore_n 3, .iload_n 1, .iload_n 2, .if_icmp .eq 26]), (34, [.iconst 1, .goto 4]), (39, [.ireturn]), (11, [.iload_n 1, .iload_n 3, .if_icmp .eq 21]), (16, [.iload_n 1, .aload_n 0, .iload_n 2, .invokevirtual 93]), (22, [.if_icmp .eq 12]), (25, [.iload_n 1, .aload_n 0, .iload_n 3, .invokevirtual 93]), (31, [.if_icmp .ne 7]), (38, [.iconst 0, .ireturn])] (by decide +kernel) 70 (Exists.elim h (fun c10 zc10 => And.intro ⟨Nat.le_of_ble_eq_true rfl, rfl, rfl⟩ (s_X6_flipped (d := d) zc10.1 (And.intro (fun q186 => And.intro rfl (zc10.2.1 q186)) (fun q187 => And.intro (fun q188 => And.intro rfl ((zc10.2.2 q187).1 q188)) (fun q189 => Exists.elim ((zc10.2.2 q187).2 q189) (fun c11 zc11 => And.intro ⟨Nat.le_of_ble_eq_true rfl, rfl, rfl⟩ (s_X6_turned (d := d) zc11.1 (And.intro (fun q190 => And.intro rfl (zc11.2.1 q190)) (fun q191 => Exists.elim (zc11.2.2 q191) (fun c12 zc12 => And.intro ⟨Nat.le_of_ble_eq_true rfl, rfl, rfl⟩ (s_X6_turned (d := d) zc12.1 (And.intro (fun q192 => And.intro rfl (mv9 (fun v => Q (aI v) (mi, RS w, lv)) (show (b2 (x1 = c12)) = 0 from b2_f (show ¬ (x1 = c12) from q192)) zc12.2)) (fun q193 => And.intro rfl (mv9 (fun v => Q (aI v) (mi, RS w, lv)) (show (b2 (x1 = c12)) = 1 from b2_t (show x1 = c12 from q193)) zc12.2)))))))))))))))

def F_X1_areTwins (mi : MI) (w : WS) (i0 : Nat) (x1 : Int32) (x2 : Int32) : Option Int32 := (F_X6_flipped mi w i0 x2).bind fun c10 => if x1 = x2 then some (1 : Int32) else if x1 = c10 then some (1 : Int32) else (F_X6_turned mi w i0 x2).bind fun c11 => if x1 = c11 then some (1 : Int32) else (F_X6_turned mi w i0 c10).bind fun c12 => some (b2 (x1 = c12))

theorem s_X1_areTwins {gl : Nat} {gx : Nat → Int32} {d : Nat} {P : PL} {Q : PO} {mi : MI} {w : WS} {lv : LV} {i0 : Nat} {x1 : Int32} {x2 : Int32} {r : Int32} (hf : F_X1_areTwins mi w i0 x1 x2 = some r) (h0 : Q (aI r) (mi, RS w, lv)) : Wp gl gx (d + 1) P 26 0 [aR 5 i0, aI x1, aI x2, aU] [] (mi, RS w, lv) Q := r_X1_areTwins_0 (o_bind hf (fun c10 qc10 pc10 => ⟨c10, qc10, ⟨fun q194 => k_ifp q194 pc10 (fun q196 => o_rP q196 h0), fun q195 => k_ifn q195 pc10 (fun q196 => ⟨fun q197 => k_ifp q197 q196 (fun q199 => o_rP q199 h0), fun q198 => k_ifn q198 q196 (fun q199 => o_bind q199 (fun c11 qc11 pc11 => ⟨c11, qc11, ⟨fun q200 => k_ifp q200 pc11 (fun q202 => o_rP q202 h0), fun q201 => k_ifn q201 pc11 (fun q202 => o_bind q202 (fun c12 qc12 pc12 => ⟨c12, qc12, o_rP pc12 h0⟩))⟩⟩))⟩)⟩⟩))

abbrev row_27 : MT := (⟨"StencilHouse$Figures", "openToAll", "(LStencilHouse$Shop;)I"⟩, prog_3_method_25_code, 3, some .int, 0, lk_1)
set_option maxRecDepth 20000 in
theorem mt_27 : mt 27 = some row_27 := rfl
theorem r_X1_openToAll_18 {gl : Nat} {gx : Nat → Int32} {d : Nat} {P : PL} {Q : PO} {mi : MI} {w : WS} {lv : LV} {i0 : Nat} {x1 : Int32} {x2 : Int32} (h : (((mi 5 i0 3) ≤ x2) → Q (aI x1) (mi, RS w, lv)) ∧ (¬ ((mi 5 i0 3) ≤ x2) → (vp_in x2 6) ∧ (Wp gl gx d P 27 18 [aR 5 i0, aI (x1 &&& (mi 28 i0 x2.toNatClampNeg)), aI (x2 + 1)] [] (mi, RS w, lv) Q))) : Wp gl gx d P 27 18 [aR 5 i0, aI x1, aI x2] [] (mi, RS w, lv) Q := 
  wpT row_27 mt_27 [.iload_n 2, .aload_n 0, .getfield 37, .if_icmp .ge 18] (by decide +kernel) [(41, [.iload_n 1, .ireturn]), (26, [.iload_n 1, .aload_n 0, .getfield 41, .iload_n 2, .iaload]), (33, [.iand, .istore_n 1, .iinc 2 1, .goto (.negSucc 19)])] (by decide +kernel) 50 (And.intro (fun q203 => (h.1 q203)) (fun q204 => And.intro (h.2 q204).1 ((h.2 q204).2)))

theorem r_X1_openToAll_15 {gl : Nat} {gx : Nat → Int32} {d : Nat} {P : PL} {Q : PO} {mi : MI} {w : WS} {lv : LV} {i0 : Nat} {v1 : AV} {v2 : AV} {s0 : Int32} (h : Wp gl gx d P 27 18 [aR 5 i0, aI s0, aI 0] [] (mi, RS w, lv) Q) : Wp gl gx d P 27 15 [aR 5 i0, v1, v2] [aI s0] (mi, RS w, lv) Q := 
  wpT row_27 mt_27 [.istore_n 1, .iconst 0, .istore_n 2] (by decide +kernel) [] (by decide +kernel) 26 (h)

theorem r_X1_openToAll_0 {gl : Nat} {gx : Nat → Int32} {d : Nat} {P : PL} {Q : PO} {mi : MI} {w : WS} {lv : LV} {i0 : Nat} (h : Wp gl gx d P 27 18 [aR 5 i0, aI (if (mi 5 i0 3) = 0 then 0 else mi 5 i0 7), aI 0] [] (mi, RS w, lv) Q) : Wp gl gx d P 27 0 [aR 5 i0, aU, aU] [] (mi, RS w, lv) Q := 
  wpT row_27 mt_27 [.aload_n 0, .getfield 37, .ifCond .ne 7] (by decide +kernel) [(11, [.aload_n 0, .getfield 100]), (7, [.iconst 0, .goto 7])] (by decide +kernel) 34 (And.intro (fun q205 => r_X1_openToAll_15 (i0 := i0) (v1 := aU) (v2 := aU) (s0 := (mi 5 i0 7)) (mi := mi) (mv9 (fun v => Wp gl gx d P 27 18 [aR 5 i0, aI v, aI 0] [] (mi, RS w, lv) Q) (show (if (mi 5 i0 3) = 0 then 0 else mi 5 i0 7) = (mi 5 i0 7) from if_neg (show ¬ ((mi 5 i0 3) = 0) from q205)) h)) (fun q206 => r_X1_openToAll_15 (i0 := i0) (v1 := aU) (v2 := aU) (s0 := 0) (mi := mi) (mv9 (fun v => Wp gl gx d P 27 18 [aR 5 i0, aI v, aI 0] [] (mi, RS w, lv) Q) (show (if (mi 5 i0 3) = 0 then 0 else mi 5 i0 7) = 0 from if_pos (show (mi 5 i0 3) = 0 from q206)) h)))

def L_X1_openToAll_18 (mi : MI) (w : WS) : Nat → Nat → Int32 → Int32 → Option Int32
  | 0, _, _, _ => none
  | n + 1, i0, x1, x2 => if (mi 5 i0 3) ≤ x2 then some x1 else ck (¬ (x2 < 0 ∨ 6 ≤ x2.toNatClampNeg)) (L_X1_openToAll_18 mi w n i0 (x1 &&& (mi 28 i0 x2.toNatClampNeg)) (x2 + 1))

theorem l_X1_openToAll_18 {gl : Nat} {gx : Nat → Int32} {d : Nat} {P : PL} {Q : PO} {lv : LV} {mi : MI} {w : WS} (n : Nat) : ∀ {i0 : Nat} {x1 : Int32} {x2 : Int32} {r : Int32}, L_X1_openToAll_18 mi w n i0 x1 x2 = some r → (Q (aI r) (mi, RS w, lv)) → Wp gl gx d P 27 18 [aR 5 i0, aI x1, aI x2] [] (mi, RS w, lv) Q := by
  induction n with
  | zero => intro i0 x1 x2 r hf h0; exact o_none hf
  | succ n ih => intro i0 x1 x2 r hf h0; exact r_X1_openToAll_18 (⟨fun q207 => k_ifp q207 hf (fun q209 => o_rP q209 h0), fun q208 => k_ifn q208 hf (fun q209 => k_ck q209 (fun q211 q210 => ⟨q211, ih q210 h0⟩))⟩)

def F_X1_openToAll (mi : MI) (w : WS) (i0 : Nat) : Option Int32 := L_X1_openToAll_18 mi w 1000000 i0 (if (mi 5 i0 3) = 0 then 0 else mi 5 i0 7) 0

theorem s_X1_openToAll {gl : Nat} {gx : Nat → Int32} {d : Nat} {P : PL} {Q : PO} {mi : MI} {w : WS} {lv : LV} {i0 : Nat} {r : Int32} (hf : F_X1_openToAll mi w i0 = some r) (h0 : Q (aI r) (mi, RS w, lv)) : Wp gl gx d P 27 0 [aR 5 i0, aU, aU] [] (mi, RS w, lv) Q := r_X1_openToAll_0 (l_X1_openToAll_18 1000000 hf h0)

abbrev row_28 : MT := (⟨"StencilHouse$Figures", "fallingSheets", "(LStencilHouse$Shop;)I"⟩, prog_3_method_26_code, 3, some .int, 0, lk_1)
set_option maxRecDepth 20000 in
theorem mt_28 : mt 28 = some row_28 := rfl
theorem r_X1_fallingSheets_31 {gl : Nat} {gx : Nat → Int32} {d : Nat} {P : PL} {Q : PO} {mi : MI} {w : WS} {lv : LV} {i0 : Nat} {x1 : Int32} {x2 : Int32} (h : Wp gl gx (d + 4) P 28 4 [aR 5 i0, aI x1, aI (x2 + 1)] [] (mi, RS w, lv) Q) : Wp gl gx (d + 4) P 28 31 [aR 5 i0, aI x1, aI x2] [] (mi, RS w, lv) Q := 
  wpT row_28 mt_28 [.iinc 2 1, .goto (.negSucc 29)] (by decide +kernel) [] (by decide +kernel) 24 (h)

theorem r_X1_fallingSheets_4 {gl : Nat} {gx : Nat → Int32} {d : Nat} {P : PL} {Q : PO} {mi : MI} {w : WS} {lv : LV} {i0 : Nat} {x1 : Int32} {x2 : Int32} (h : (((mi 5 i0 3) ≤ x2) → Q (aI x1) (mi, RS w, lv)) ∧ (¬ ((mi 5 i0 3) ≤ x2) → (vp_in x2 6) ∧ (Wp gl gx (d + 4) P 28 4 [aR 5 i0, aI (if (f_X6_falling mi i0 (mi 26 i0 x2.toNatClampNeg)) = 0 then x1 else x1 ||| ((1 : Int32) <<< (x2 &&& 31))), aI (x2 + 1)] [] (mi, RS w, lv) Q))) : Wp gl gx (d + 4) P 28 4 [aR 5 i0, aI x1, aI x2] [] (mi, RS w, lv) Q := 
  wpT row_28 mt_28 [.iload_n 2, .aload_n 0, .getfield 37, .if_icmp .ge 28] (by decide +kernel) [(37, [.iload_n 1, .ireturn]), (12, [.aload_n 0, .aload_n 0, .getfield 87, .iload_n 2, .iaload]), (19, [.invokevirtual 15]), (22, [.ifCond .eq 9]), (25, [.iload_n 1, .iconst 1, .iload_n 2, .ishl, .ior, .istore_n 1])] (by decide +kernel) 58 (And.intro (fun q212 => (h.1 q212)) (fun q213 => And.intro (h.2 q213).1 (And.intro ⟨Nat.le_of_ble_eq_true rfl, rfl, rfl⟩ (s_X6_falling (d := d) (And.intro (fun q214 => r_X1_fallingSheets_31 (i0 := i0) (x1 := x1) (x2 := x2) (mi := mi) (mv9 (fun v => Wp gl gx (d + 4) P 28 4 [aR 5 i0, aI v, aI (x2 + 1)] [] (mi, RS w, lv) Q) (show (if (f_X6_falling mi i0 (mi 26 i0 x2.toNatClampNeg)) = 0 then x1 else x1 ||| ((1 : Int32) <<< (x2 &&& 31))) = x1 from if_pos (show (f_X6_falling mi i0 (mi 26 i0 x2.toNatClampNeg)) = 0 from q214)) ((h.2 q213).2))) (fun q215 => r_X1_fallingSheets_31 (i0 := i0) (x1 := (x1 ||| ((1 : Int32) <<< (x2 &&& 31)))) (x2 := x2) (mi := mi) (mv9 (fun v => Wp gl gx (d + 4) P 28 4 [aR 5 i0, aI v, aI (x2 + 1)] [] (mi, RS w, lv) Q) (show (if (f_X6_falling mi i0 (mi 26 i0 x2.toNatClampNeg)) = 0 then x1 else x1 ||| ((1 : Int32) <<< (x2 &&& 31))) = (x1 ||| ((1 : Int32) <<< (x2 &&& 31))) from if_neg (show ¬ ((f_X6_falling mi i0 (mi 26 i0 x2.toNatClampNeg)) = 0) from q215)) ((h.2 q213).2))))))))

theorem r_X1_fallingSheets_0 {gl : Nat} {gx : Nat → Int32} {d : Nat} {P : PL} {Q : PO} {mi : MI} {w : WS} {lv : LV} {i0 : Nat} (h : Wp gl gx (d + 4) P 28 4 [aR 5 i0, aI 0, aI 0] [] (mi, RS w, lv) Q) : Wp gl gx (d + 4) P 28 0 [aR 5 i0, aU, aU] [] (mi, RS w, lv) Q := 
  wpT row_28 mt_28 [.iconst 0, .istore_n 1, .iconst 0, .istore_n 2] (by decide +kernel) [] (by decide +kernel) 28 (h)

def L_X1_fallingSheets_4 (mi : MI) (w : WS) : Nat → Nat → Int32 → Int32 → Option Int32
  | 0, _, _, _ => none
  | n + 1, i0, x1, x2 => if (mi 5 i0 3) ≤ x2 then some x1 else ck (¬ (x2 < 0 ∨ 6 ≤ x2.toNatClampNeg)) (L_X1_fallingSheets_4 mi w n i0 (if (f_X6_falling mi i0 (mi 26 i0 x2.toNatClampNeg)) = 0 then x1 else x1 ||| ((1 : Int32) <<< (x2 &&& 31))) (x2 + 1))

theorem l_X1_fallingSheets_4 {gl : Nat} {gx : Nat → Int32} {d : Nat} {P : PL} {Q : PO} {lv : LV} {mi : MI} {w : WS} (n : Nat) : ∀ {i0 : Nat} {x1 : Int32} {x2 : Int32} {r : Int32}, L_X1_fallingSheets_4 mi w n i0 x1 x2 = some r → (Q (aI r) (mi, RS w, lv)) → Wp gl gx (d + 4) P 28 4 [aR 5 i0, aI x1, aI x2] [] (mi, RS w, lv) Q := by
  induction n with
  | zero => intro i0 x1 x2 r hf h0; exact o_none hf
  | succ n ih => intro i0 x1 x2 r hf h0; exact r_X1_fallingSheets_4 (⟨fun q216 => k_ifp q216 hf (fun q218 => o_rP q218 h0), fun q217 => k_ifn q217 hf (fun q218 => k_ck q218 (fun q220 q219 => ⟨q220, ih q219 h0⟩))⟩)

def F_X1_fallingSheets (mi : MI) (w : WS) (i0 : Nat) : Option Int32 := L_X1_fallingSheets_4 mi w 1000000 i0 0 0

theorem s_X1_fallingSheets {gl : Nat} {gx : Nat → Int32} {d : Nat} {P : PL} {Q : PO} {mi : MI} {w : WS} {lv : LV} {i0 : Nat} {r : Int32} (hf : F_X1_fallingSheets mi w i0 = some r) (h0 : Q (aI r) (mi, RS w, lv)) : Wp gl gx (d + 4) P 28 0 [aR 5 i0, aU, aU] [] (mi, RS w, lv) Q := r_X1_fallingSheets_0 (l_X1_fallingSheets_4 1000000 hf h0)

abbrev row_29 : MT := (⟨"StencilHouse$Figures", "needed", "(LStencilHouse$Shop;)I"⟩, prog_3_method_27_code, 4, some .int, 0, lk_1)
set_option maxRecDepth 20000 in
theorem mt_29 : mt 29 = some row_29 := rfl
theorem r_X1_needed_46 {gl : Nat} {gx : Nat → Int32} {d : Nat} {P : PL} {Q : PO} {mi : MI} {w : WS} {lv : LV} {i0 : Nat} {x1 : Int32} {x2 : Int32} {x3 : Int32} (h : Wp gl gx (d + 1) P 29 9 [aR 5 i0, aI x1, aI x2, aI (x3 + 1)] [] (mi, RS w, lv) Q) : Wp gl gx (d + 1) P 29 46 [aR 5 i0, aI x1, aI x2, aI x3] [] (mi, RS w, lv) Q := 
  wpT row_29 mt_29 [.iinc 3 1, .goto (.negSucc 39)] (by decide +kernel) [] (by decide +kernel) 24 (h)

theorem r_X1_needed_9 {gl : Nat} {gx : Nat → Int32} {d : Nat} {P : PL} {Q : PO} {mi : MI} {w : WS} {lv : LV} {i0 : Nat} {x1 : Int32} {x2 : Int32} {x3 : Int32} (h : (((mi 5 i0 3) ≤ x3) → Q (aI x1) (mi, RS w, lv)) ∧ (¬ ((mi 5 i0 3) ≤ x3) → (vp_in x3 6) ∧ ((∃ c13 : Int32, F_X6_union mi w i0 (x2 &&& (((1 : Int32) <<< (x3 &&& 31)) ^^^ (-1))) = some c13 ∧ Wp gl gx (d + 1) P 29 9 [aR 5 i0, aI (if ((mi 28 i0 x3.toNatClampNeg) &&& (c13 ^^^ (-1))) = 0 then x1 else x1 ||| ((1 : Int32) <<< (x3 &&& 31))), aI x2, aI (x3 + 1)] [] (mi, RS w, lv) Q)))) : Wp gl gx (d + 1) P 29 9 [aR 5 i0, aI x1, aI x2, aI x3] [] (mi, RS w, lv) Q := 
  wpT row_29 mt_29 [.iload_n 3, .aload_n 0, .getfield 37, .if_icmp .ge 38] (by decide +kernel) [(52, [.iload_n 1, .ireturn]), (17, [.aload_n 0, .getfield 41, .iload_n 3, .iaload]), (23, [.aload_n 0, .iload_n 2, .iconst 1, .iload_n 3, .ishl, .iconst (.negSucc 0), .ixor, .iand, .invokevirtual 25]), (34, [.iconst (.negSucc 0), .ixor, .iand, .ifCond .eq 9]), (40, [.iload_n 1, .iconst 1, .iload_n 3, .ishl, .ior, .istore_n 1])] (by decide +kernel) 78 (And.intro (fun q221 => (h.1 q221)) (fun q222 => And.intro (h.2 q222).1 (Exists.elim ((h.2 q222).2) (fun c13 zc13 => And.intro ⟨Nat.le_of_ble_eq_true rfl, rfl, rfl⟩ (s_X6_union (d := d) zc13.1 (And.intro (fun q223 => r_X1_needed_46 (i0 := i0) (x1 := x1) (x2 := x2) (x3 := x3) (mi := mi) (mv9 (fun v => Wp gl gx (d + 1) P 29 9 [aR 5 i0, aI v, aI x2, aI (x3 + 1)] [] (mi, RS w, lv) Q) (show (if ((mi 28 i0 x3.toNatClampNeg) &&& (c13 ^^^ (-1))) = 0 then x1 else x1 ||| ((1 : Int32) <<< (x3 &&& 31))) = x1 from if_pos (show ((mi 28 i0 x3.toNatClampNeg) &&& (c13 ^^^ (-1))) = 0 from q223)) zc13.2)) (fun q224 => r_X1_needed_46 (i0 := i0) (x1 := (x1 ||| ((1 : Int32) <<< (x3 &&& 31)))) (x2 := x2) (x3 := x3) (mi := mi) (mv9 (fun v => Wp gl gx (d + 1) P 29 9 [aR 5 i0, aI v, aI x2, aI (x3 + 1)] [] (mi, RS w, lv) Q) (show (if ((mi 28 i0 x3.toNatClampNeg) &&& (c13 ^^^ (-1))) = 0 then x1 else x1 ||| ((1 : Int32) <<< (x3 &&& 31))) = (x1 ||| ((1 : Int32) <<< (x3 &&& 31))) from if_neg (show ¬ (((mi 28 i0 x3.toNatClampNeg) &&& (c13 ^^^ (-1))) = 0) from q224)) zc13.2))))))))

theorem r_X1_needed_0 {gl : Nat} {gx : Nat → Int32} {d : Nat} {P : PL} {Q : PO} {mi : MI} {w : WS} {lv : LV} {i0 : Nat} (h : Wp gl gx (d + 1) P 29 9 [aR 5 i0, aI 0, aI (f_X6_everySheet mi i0), aI 0] [] (mi, RS w, lv) Q) : Wp gl gx (d + 1) P 29 0 [aR 5 i0, aU, aU, aU] [] (mi, RS w, lv) Q := 
  wpT row_29 mt_29 [.iconst 0, .istore_n 1, .aload_n 0, .invokevirtual 21] (by decide +kernel) [(6, [.istore_n 2, .iconst 0, .istore_n 3])] (by decide +kernel) 34 (And.intro ⟨Nat.le_of_ble_eq_true rfl, rfl, rfl⟩ (s_X6_everySheet (d := d) (h)))

def L_X1_needed_9 (mi : MI) (w : WS) : Nat → Nat → Int32 → Int32 → Int32 → Option Int32
  | 0, _, _, _, _ => none
  | n + 1, i0, x1, x2, x3 => if (mi 5 i0 3) ≤ x3 then some x1 else ck (¬ (x3 < 0 ∨ 6 ≤ x3.toNatClampNeg)) ((F_X6_union mi w i0 (x2 &&& (((1 : Int32) <<< (x3 &&& 31)) ^^^ (-1)))).bind fun c13 => L_X1_needed_9 mi w n i0 (if ((mi 28 i0 x3.toNatClampNeg) &&& (c13 ^^^ (-1))) = 0 then x1 else x1 ||| ((1 : Int32) <<< (x3 &&& 31))) x2 (x3 + 1))

theorem l_X1_needed_9 {gl : Nat} {gx : Nat → Int32} {d : Nat} {P : PL} {Q : PO} {lv : LV} {mi : MI} {w : WS} (n : Nat) : ∀ {i0 : Nat} {x1 : Int32} {x2 : Int32} {x3 : Int32} {r : Int32}, L_X1_needed_9 mi w n i0 x1 x2 x3 = some r → (Q (aI r) (mi, RS w, lv)) → Wp gl gx (d + 1) P 29 9 [aR 5 i0, aI x1, aI x2, aI x3] [] (mi, RS w, lv) Q := by
  induction n with
  | zero => intro i0 x1 x2 x3 r hf h0; exact o_none hf
  | succ n ih => intro i0 x1 x2 x3 r hf h0; exact r_X1_needed_9 (⟨fun q225 => k_ifp q225 hf (fun q227 => o_rP q227 h0), fun q226 => k_ifn q226 hf (fun q227 => k_ck q227 (fun q229 q228 => ⟨q229, o_bind q228 (fun c13 qc13 pc13 => ⟨c13, qc13, ih pc13 h0⟩)⟩))⟩)

def F_X1_needed (mi : MI) (w : WS) (i0 : Nat) : Option Int32 := L_X1_needed_9 mi w 1000000 i0 0 (f_X6_everySheet mi i0) 0

theorem s_X1_needed {gl : Nat} {gx : Nat → Int32} {d : Nat} {P : PL} {Q : PO} {mi : MI} {w : WS} {lv : LV} {i0 : Nat} {r : Int32} (hf : F_X1_needed mi w i0 = some r) (h0 : Q (aI r) (mi, RS w, lv)) : Wp gl gx (d + 1) P 29 0 [aR 5 i0, aU, aU, aU] [] (mi, RS w, lv) Q := r_X1_needed_0 (l_X1_needed_9 1000000 hf h0)

abbrev row_30 : MT := (⟨"StencilHouse$Figures", "openCount", "(LStencilHouse$Shop;I)I"⟩, prog_3_method_28_code, 4, some .int, 0, lk_1)
set_option maxRecDepth 20000 in
theorem mt_30 : mt 30 = some row_30 := rfl
theorem r_X1_openCount_24 {gl : Nat} {gx : Nat → Int32} {d : Nat} {P : PL} {Q : PO} {mi : MI} {w : WS} {lv : LV} {i0 : Nat} {x1 : Int32} {x2 : Int32} {x3 : Int32} (h : Wp gl gx (d + 1) P 30 4 [aR 5 i0, aI x1, aI x2, aI (x3 + 1)] [] (mi, RS w, lv) Q) : Wp gl gx (d + 1) P 30 24 [aR 5 i0, aI x1, aI x2, aI x3] [] (mi, RS w, lv) Q := 
  wpT row_30 mt_30 [.iinc 3 1, .goto (.negSucc 22)] (by decide +kernel) [] (by decide +kernel) 24 (h)

theorem r_X1_openCount_4 {gl : Nat} {gx : Nat → Int32} {d : Nat} {P : PL} {Q : PO} {mi : MI} {w : WS} {lv : LV} {i0 : Nat} {x1 : Int32} {x2 : Int32} {x3 : Int32} (h : (((mi 5 i0 3) ≤ x3) → Q (aI x2) (mi, RS w, lv)) ∧ (¬ ((mi 5 i0 3) ≤ x3) → (vp_in x3 6) ∧ (Wp gl gx (d + 1) P 30 4 [aR 5 i0, aI x1, aI (if ¬ (((mi 28 i0 (nt x3)) >>> (x1 &&& 31)) &&& 1) = 0 then x2 + 1 else x2), aI (x3 + 1)] [] (mi, RS w, lv) Q))) : Wp gl gx (d + 1) P 30 4 [aR 5 i0, aI x1, aI x2, aI x3] [] (mi, RS w, lv) Q := 
  wpT row_30 mt_30 [.iload_n 3, .aload_n 0, .getfield 37, .if_icmp .ge 21] (by decide +kernel) [(30, [.iload_n 2, .ireturn]), (12, [.aload_n 0, .iload_n 3, .iload_n 1, .invokevirtual 103]), (18, [.ifCond .eq 6]), (21, [.iinc 2 1])] (by decide +kernel) 44 (And.intro (fun q230 => (h.1 q230)) (fun q231 => And.intro ⟨Nat.le_of_ble_eq_true rfl, rfl, rfl⟩ (s_X6_isOpen (d := d) (h.2 q231).1 (And.intro (fun q232 => r_X1_openCount_24 (i0 := i0) (x1 := x1) (x2 := x2) (x3 := x3) (mi := mi) (mv9 (fun v => Wp gl gx (d + 1) P 30 4 [aR 5 i0, aI x1, aI v, aI (x3 + 1)] [] (mi, RS w, lv) Q) (show (if ¬ (((mi 28 i0 (nt x3)) >>> (x1 &&& 31)) &&& 1) = 0 then x2 + 1 else x2) = x2 from if_neg (show ¬ (¬ (((mi 28 i0 (nt x3)) >>> (x1 &&& 31)) &&& 1) = 0) from (b2_0 q232))) ((h.2 q231).2))) (fun q233 => r_X1_openCount_24 (i0 := i0) (x1 := x1) (x2 := (x2 + 1)) (x3 := x3) (mi := mi) (mv9 (fun v => Wp gl gx (d + 1) P 30 4 [aR 5 i0, aI x1, aI v, aI (x3 + 1)] [] (mi, RS w, lv) Q) (show (if ¬ (((mi 28 i0 (nt x3)) >>> (x1 &&& 31)) &&& 1) = 0 then x2 + 1 else x2) = (x2 + 1) from if_pos (show ¬ (((mi 28 i0 (nt x3)) >>> (x1 &&& 31)) &&& 1) = 0 from (b2_n q233))) ((h.2 q231).2)))))))

theorem r_X1_openCount_0 {gl : Nat} {gx : Nat → Int32} {d : Nat} {P : PL} {Q : PO} {mi : MI} {w : WS} {lv : LV} {i0 : Nat} {x1 : Int32} (h : Wp gl gx (d + 1) P 30 4 [aR 5 i0, aI x1, aI 0, aI 0] [] (mi, RS w, lv) Q) : Wp gl gx (d + 1) P 30 0 [aR 5 i0, aI x1, aU, aU] [] (mi, RS w, lv) Q := 
  wpT row_30 mt_30 [.iconst 0, .istore_n 2, .iconst 0, .istore_n 3] (by decide +kernel) [] (by decide +kernel) 28 (h)

def L_X1_openCount_4 (mi : MI) (w : WS) : Nat → Nat → Int32 → Int32 → Int32 → Option Int32
  | 0, _, _, _, _ => none
  | n + 1, i0, x1, x2, x3 => if (mi 5 i0 3) ≤ x3 then some x2 else ck (¬ (x3 < 0 ∨ 6 ≤ x3.toNatClampNeg)) (L_X1_openCount_4 mi w n i0 x1 (if ¬ (((mi 28 i0 (nt x3)) >>> (x1 &&& 31)) &&& 1) = 0 then x2 + 1 else x2) (x3 + 1))

theorem l_X1_openCount_4 {gl : Nat} {gx : Nat → Int32} {d : Nat} {P : PL} {Q : PO} {lv : LV} {mi : MI} {w : WS} (n : Nat) : ∀ {i0 : Nat} {x1 : Int32} {x2 : Int32} {x3 : Int32} {r : Int32}, L_X1_openCount_4 mi w n i0 x1 x2 x3 = some r → (Q (aI r) (mi, RS w, lv)) → Wp gl gx (d + 1) P 30 4 [aR 5 i0, aI x1, aI x2, aI x3] [] (mi, RS w, lv) Q := by
  induction n with
  | zero => intro i0 x1 x2 x3 r hf h0; exact o_none hf
  | succ n ih => intro i0 x1 x2 x3 r hf h0; exact r_X1_openCount_4 (⟨fun q234 => k_ifp q234 hf (fun q236 => o_rP q236 h0), fun q235 => k_ifn q235 hf (fun q236 => k_ck q236 (fun q238 q237 => ⟨q238, ih q237 h0⟩))⟩)

def F_X1_openCount (mi : MI) (w : WS) (i0 : Nat) (x1 : Int32) : Option Int32 := L_X1_openCount_4 mi w 1000000 i0 x1 0 0

theorem s_X1_openCount {gl : Nat} {gx : Nat → Int32} {d : Nat} {P : PL} {Q : PO} {mi : MI} {w : WS} {lv : LV} {i0 : Nat} {x1 : Int32} {r : Int32} (hf : F_X1_openCount mi w i0 x1 = some r) (h0 : Q (aI r) (mi, RS w, lv)) : Wp gl gx (d + 1) P 30 0 [aR 5 i0, aI x1, aU, aU] [] (mi, RS w, lv) Q := r_X1_openCount_0 (l_X1_openCount_4 1000000 hf h0)

abbrev row_31 : MT := (⟨"StencilHouse$Figures", "stackCell", "(LStencilHouse$Shop;)I"⟩, prog_3_method_29_code, 4, some .int, 0, lk_1)
set_option maxRecDepth 20000 in
theorem mt_31 : mt 31 = some row_31 := rfl
theorem r_X1_stackCell_34 {gl : Nat} {gx : Nat → Int32} {d : Nat} {P : PL} {Q : PO} {mi : MI} {w : WS} {lv : LV} {i0 : Nat} {x1 : Int32} {x2 : Int32} {x3 : Int32} (h : Wp gl gx (d + 2) P 31 14 [aR 5 i0, aI x1, aI x2, aI (x3 + 1)] [] (mi, RS w, lv) Q) : Wp gl gx (d + 2) P 31 34 [aR 5 i0, aI x1, aI x2, aI x3] [] (mi, RS w, lv) Q := 
  wpT row_31 mt_31 [.iinc 3 1, .goto (.negSucc 22)] (by decide +kernel) [] (by decide +kernel) 24 (h)

theorem r_X1_stackCell_14 {gl : Nat} {gx : Nat → Int32} {d : Nat} {P : PL} {Q : PO} {mi : MI} {w : WS} {lv : LV} {i0 : Nat} {x1 : Int32} {x2 : Int32} {x3 : Int32} (h : ((x2 ≤ x3) → Q (aI x1) (mi, RS w, lv)) ∧ (¬ (x2 ≤ x3) → (∃ c14 : Int32, F_X1_openCount mi w i0 x3 = some c14 ∧ (∃ c15 : Int32, F_X1_openCount mi w i0 x1 = some c15 ∧ Wp gl gx (d + 2) P 31 14 [aR 5 i0, aI (if c14 ≤ c15 then x1 else x3), aI x2, aI (x3 + 1)] [] (mi, RS w, lv) Q)))) : Wp gl gx (d + 2) P 31 14 [aR 5 i0, aI x1, aI x2, aI x3] [] (mi, RS w, lv) Q := 
  wpT row_31 mt_31 [.iload_n 3, .iload_n 2, .if_icmp .ge 24] (by decide +kernel) [(40, [.iload_n 1, .ireturn]), (19, [.aload_n 0, .iload_n 3, .invokestatic 106]), (24, [.aload_n 0, .iload_n 1, .invokestatic 106]), (29, [.if_icmp .le 5]), (32, [.iload_n 3, .istore_n 1])] (by decide +kernel) 48 (And.intro (fun q239 => (h.1 q239)) (fun q240 => Exists.elim (h.2 q240) (fun c14 zc14 => And.intro ⟨Nat.le_of_ble_eq_true rfl, rfl, rfl⟩ (s_X1_openCount (d := d) zc14.1 (Exists.elim zc14.2 (fun c15 zc15 => And.intro ⟨Nat.le_of_ble_eq_true rfl, rfl, rfl⟩ (s_X1_openCount (d := d) zc15.1 (And.intro (fun q241 => r_X1_stackCell_34 (i0 := i0) (x1 := x1) (x2 := x2) (x3 := x3) (mi := mi) (mv9 (fun v => Wp gl gx (d + 2) P 31 14 [aR 5 i0, aI v, aI x2, aI (x3 + 1)] [] (mi, RS w, lv) Q) (show (if c14 ≤ c15 then x1 else x3) = x1 from if_pos (show c14 ≤ c15 from q241)) zc15.2)) (fun q242 => r_X1_stackCell_34 (i0 := i0) (x1 := x3) (x2 := x2) (x3 := x3) (mi := mi) (mv9 (fun v => Wp gl gx (d + 2) P 31 14 [aR 5 i0, aI v, aI x2, aI (x3 + 1)] [] (mi, RS w, lv) Q) (show (if c14 ≤ c15 then x1 else x3) = x3 from if_neg (show ¬ (c14 ≤ c15) from q242)) zc15.2))))))))))

theorem r_X1_stackCell_0 {gl : Nat} {gx : Nat → Int32} {d : Nat} {P : PL} {Q : PO} {mi : MI} {w : WS} {lv : LV} {i0 : Nat} (h : Wp gl gx (d + 2) P 31 14 [aR 5 i0, aI 0, aI ((mi 5 i0 0) * (mi 5 i0 1)), aI 1] [] (mi, RS w, lv) Q) : Wp gl gx (d + 2) P 31 0 [aR 5 i0, aU, aU, aU] [] (mi, RS w, lv) Q := 
  wpT row_31 mt_31 [.iconst 0, .istore_n 1, .aload_n 0, .getfield 76, .aload_n 0, .getfield 73, .imul, .istore_n 2, .iconst 1, .istore_n 3] (by decide +kernel) [] (by decide +kernel) 40 (h)

def L_X1_stackCell_14 (mi : MI) (w : WS) : Nat → Nat → Int32 → Int32 → Int32 → Option Int32
  | 0, _, _, _, _ => none
  | n + 1, i0, x1, x2, x3 => if x2 ≤ x3 then some x1 else (F_X1_openCount mi w i0 x3).bind fun c14 => (F_X1_openCount mi w i0 x1).bind fun c15 => L_X1_stackCell_14 mi w n i0 (if c14 ≤ c15 then x1 else x3) x2 (x3 + 1)

theorem l_X1_stackCell_14 {gl : Nat} {gx : Nat → Int32} {d : Nat} {P : PL} {Q : PO} {lv : LV} {mi : MI} {w : WS} (n : Nat) : ∀ {i0 : Nat} {x1 : Int32} {x2 : Int32} {x3 : Int32} {r : Int32}, L_X1_stackCell_14 mi w n i0 x1 x2 x3 = some r → (Q (aI r) (mi, RS w, lv)) → Wp gl gx (d + 2) P 31 14 [aR 5 i0, aI x1, aI x2, aI x3] [] (mi, RS w, lv) Q := by
  induction n with
  | zero => intro i0 x1 x2 x3 r hf h0; exact o_none hf
  | succ n ih => intro i0 x1 x2 x3 r hf h0; exact r_X1_stackCell_14 (⟨fun q243 => k_ifp q243 hf (fun q245 => o_rP q245 h0), fun q244 => k_ifn q244 hf (fun q245 => o_bind q245 (fun c14 qc14 pc14 => ⟨c14, qc14, o_bind pc14 (fun c15 qc15 pc15 => ⟨c15, qc15, ih pc15 h0⟩)⟩))⟩)

def F_X1_stackCell (mi : MI) (w : WS) (i0 : Nat) : Option Int32 := L_X1_stackCell_14 mi w 1000000 i0 0 ((mi 5 i0 0) * (mi 5 i0 1)) 1

theorem s_X1_stackCell {gl : Nat} {gx : Nat → Int32} {d : Nat} {P : PL} {Q : PO} {mi : MI} {w : WS} {lv : LV} {i0 : Nat} {r : Int32} (hf : F_X1_stackCell mi w i0 = some r) (h0 : Q (aI r) (mi, RS w, lv)) : Wp gl gx (d + 2) P 31 0 [aR 5 i0, aU, aU, aU] [] (mi, RS w, lv) Q := r_X1_stackCell_0 (l_X1_stackCell_14 1000000 hf h0)

abbrev row_32 : MT := (⟨"StencilHouse$Figures", "nearestTwo", "(LStencilHouse$Shop;)I"⟩, prog_3_method_30_code, 6, some .int, 0, lk_1)
set_option maxRecDepth 20000 in
theorem mt_32 : mt 32 = some row_32 := rfl
theorem r_X1_nearestTwo_65 {gl : Nat} {gx : Nat → Int32} {d : Nat} {P : PL} {Q : PO} {mi : MI} {w : WS} {lv : LV} {i0 : Nat} {x1 : Int32} {x2 : Int32} {x3 : Int32} {x4 : Int32} {x5 : Int32} (h : Wp gl gx (d + 1) P 32 20 [aR 5 i0, aI x1, aI x2, aI x3, aI (x4 + 1), aI x5] [] (mi, RS w, lv) Q) : Wp gl gx (d + 1) P 32 65 [aR 5 i0, aI x1, aI x2, aI x3, aI x4, aI x5] [] (mi, RS w, lv) Q := 
  wpT row_32 mt_32 [.iinc 4 1, .goto (.negSucc 47)] (by decide +kernel) [] (by decide +kernel) 24 (h)

theorem r_X1_nearestTwo_20 {gl : Nat} {gx : Nat → Int32} {d : Nat} {P : PL} {Q : PO} {mi : MI} {w : WS} {lv : LV} {i0 : Nat} {x1 : Int32} {x2 : Int32} {x3 : Int32} {x4 : Int32} {v5 : AV} (h : (((mi 5 i0 3) ≤ x4) → Wp gl gx (d + 1) P 32 7 [aR 5 i0, aI x1, aI x2, aI (x3 + 1), aI x4, v5] [] (mi, RS w, lv) Q) ∧ (¬ ((mi 5 i0 3) ≤ x4) → (vp_in x3 6) ∧ ((vp_in x4 6) ∧ (((x2 ≤ (pop32 ((mi 28 i0 x3.toNatClampNeg) ^^^ (mi 28 i0 x4.toNatClampNeg)))) → Wp gl gx (d + 1) P 32 20 [aR 5 i0, aI x1, aI x2, aI x3, aI (x4 + 1), aI (pop32 ((mi 28 i0 x3.toNatClampNeg) ^^^ (mi 28 i0 x4.toNatClampNeg)))] [] (mi, RS w, lv) Q) ∧ (¬ (x2 ≤ (pop32 ((mi 28 i0 x3.toNatClampNeg) ^^^ (mi 28 i0 x4.toNatClampNeg)))) → Wp gl gx (d + 1) P 32 20 [aR 5 i0, aI ((x3 * 10) + x4), aI (pop32 ((mi 28 i0 x3.toNatClampNeg) ^^^ (mi 28 i0 x4.toNatClampNeg))), aI x3, aI (x4 + 1), aI (pop32 ((mi 28 i0 x3.toNatClampNeg) ^^^ (mi 28 i0 x4.toNatClampNeg)))] [] (mi, RS w, lv) Q))))) : Wp gl gx (d + 1) P 32 20 [aR 5 i0, aI x1, aI x2, aI x3, aI x4, v5] [] (mi, RS w, lv) Q := 
  wpT row_32 mt_32 [.iload 4, .aload_n 0, .getfield 37, .if_icmp .ge 45] (by decide +kernel) [(71, [.iinc 3 1, .goto (.negSucc 66)]), (29, [.aload_n 0, .getfield 41, .iload_n 3, .iaload]), (35, [.aload_n 0, .getfield 41, .iload 4, .iaload]), (42, [.ixor, .invokestatic 28]), (46, [.istore 5, .iload 5, .iload_n 2, .if_icmp .ge 14]), (54, [.iload 5, .istore_n 2, .iload_n 3, .bipush 10, .imul, .iload 4, .iadd, .istore_n 1])] (by decide +kernel) 76 (And.intro (fun q246 => (h.1 q246)) (fun q247 => And.intro (h.2 q247).1 (And.intro (h.2 q247).2.1 (And.intro ⟨Nat.le_of_ble_eq_true rfl, rfl, rfl⟩ (s_J6_bitCount_0f7a4 (d := d) (And.intro (fun q248 => r_X1_nearestTwo_65 (i0 := i0) (x1 := x1) (x2 := x2) (x3 := x3) (x4 := x4) (x5 := (pop32 ((mi 28 i0 x3.toNatClampNeg) ^^^ (mi 28 i0 x4.toNatClampNeg)))) (mi := mi) ((h.2 q247).2.2.1 q248)) (fun q249 => r_X1_nearestTwo_65 (i0 := i0) (x1 := ((x3 * 10) + x4)) (x2 := (pop32 ((mi 28 i0 x3.toNatClampNeg) ^^^ (mi 28 i0 x4.toNatClampNeg)))) (x3 := x3) (x4 := x4) (x5 := (pop32 ((mi 28 i0 x3.toNatClampNeg) ^^^ (mi 28 i0 x4.toNatClampNeg)))) (mi := mi) ((h.2 q247).2.2.2 q249))))))))

theorem r_X1_nearestTwo_7 {gl : Nat} {gx : Nat → Int32} {d : Nat} {P : PL} {Q : PO} {mi : MI} {w : WS} {lv : LV} {i0 : Nat} {x1 : Int32} {x2 : Int32} {x3 : Int32} {v4 : AV} {v5 : AV} (h : (((mi 5 i0 3) ≤ x3) → Q (aI x1) (mi, RS w, lv)) ∧ (¬ ((mi 5 i0 3) ≤ x3) → Wp gl gx (d + 1) P 32 20 [aR 5 i0, aI x1, aI x2, aI x3, aI (x3 + 1), v5] [] (mi, RS w, lv) Q)) : Wp gl gx (d + 1) P 32 7 [aR 5 i0, aI x1, aI x2, aI x3, v4, v5] [] (mi, RS w, lv) Q := 
  wpT row_32 mt_32 [.iload_n 3, .aload_n 0, .getfield 37, .if_icmp .ge 65] (by decide +kernel) [(77, [.iload_n 1, .ireturn]), (15, [.iload_n 3, .iconst 1, .iadd, .istore 4])] (by decide +kernel) 40 (And.intro (fun q250 => (h.1 q250)) (fun q251 => (h.2 q251)))

theorem r_X1_nearestTwo_0 {gl : Nat} {gx : Nat → Int32} {d : Nat} {P : PL} {Q : PO} {mi : MI} {w : WS} {lv : LV} {i0 : Nat} (h : Wp gl gx (d + 1) P 32 7 [aR 5 i0, aI (-1), aI 26, aI 0, aU, aU] [] (mi, RS w, lv) Q) : Wp gl gx (d + 1) P 32 0 [aR 5 i0, aU, aU, aU, aU, aU] [] (mi, RS w, lv) Q := 
  wpT row_32 mt_32 [.iconst (.negSucc 0), .istore_n 1, .bipush 26, .istore_n 2, .iconst 0, .istore_n 3] (by decide +kernel) [] (by decide +kernel) 32 (h)

def L_X1_nearestTwo_20 (mi : MI) (w : WS) (k7 : Nat → Int32 → Int32 → Int32 → Option Int32) : Nat → Nat → Int32 → Int32 → Int32 → Int32 → Option Int32
  | 0, _, _, _, _, _ => none
  | n + 1, i0, x1, x2, x3, x4 => if (mi 5 i0 3) ≤ x4 then k7 i0 x1 x2 (x3 + 1) else ck (¬ (x3 < 0 ∨ 6 ≤ x3.toNatClampNeg)) (ck (¬ (x4 < 0 ∨ 6 ≤ x4.toNatClampNeg)) (if x2 ≤ (pop32 ((mi 28 i0 x3.toNatClampNeg) ^^^ (mi 28 i0 x4.toNatClampNeg))) then L_X1_nearestTwo_20 mi w k7 n i0 x1 x2 x3 (x4 + 1) else L_X1_nearestTwo_20 mi w k7 n i0 ((x3 * 10) + x4) (pop32 ((mi 28 i0 x3.toNatClampNeg) ^^^ (mi 28 i0 x4.toNatClampNeg))) x3 (x4 + 1)))

theorem l_X1_nearestTwo_20 {gl : Nat} {gx : Nat → Int32} {d : Nat} {P : PL} {Q : PO} {lv : LV} {mi : MI} {w : WS} {k7 : Nat → Int32 → Int32 → Int32 → Option Int32} (hk7 : ∀ {i0 : Nat} {x1 : Int32} {x2 : Int32} {x3 : Int32} {v4 : AV} {v5 : AV} {r : Int32}, k7 i0 x1 x2 x3 = some r → (Q (aI r) (mi, RS w, lv)) → Wp gl gx (d + 1) P 32 7 [aR 5 i0, aI x1, aI x2, aI x3, v4, v5] [] (mi, RS w, lv) Q) (n : Nat) : ∀ {i0 : Nat} {x1 : Int32} {x2 : Int32} {x3 : Int32} {x4 : Int32} {v5 : AV} {r : Int32}, L_X1_nearestTwo_20 mi w k7 n i0 x1 x2 x3 x4 = some r → (Q (aI r) (mi, RS w, lv)) → Wp gl gx (d + 1) P 32 20 [aR 5 i0, aI x1, aI x2, aI x3, aI x4, v5] [] (mi, RS w, lv) Q := by
  induction n with
  | zero => intro i0 x1 x2 x3 x4 v5 r hf h0; exact o_none hf
  | succ n ih => intro i0 x1 x2 x3 x4 v5 r hf h0; exact r_X1_nearestTwo_20 (⟨fun q252 => k_ifp q252 hf (fun q254 => hk7 q254 h0), fun q253 => k_ifn q253 hf (fun q254 => k_ck q254 (fun q256 q255 => ⟨q256, k_ck q255 (fun q258 q257 => ⟨q258, ⟨fun q259 => k_ifp q259 q257 (fun q261 => ih q261 h0), fun q260 => k_ifn q260 q257 (fun q261 => ih q261 h0)⟩⟩)⟩))⟩)

def L_X1_nearestTwo_7 (mi : MI) (w : WS) : Nat → Nat → Int32 → Int32 → Int32 → Option Int32
  | 0, _, _, _, _ => none
  | n + 1, i0, x1, x2, x3 => if (mi 5 i0 3) ≤ x3 then some x1 else L_X1_nearestTwo_20 mi w (fun i0 x1 x2 x3 => L_X1_nearestTwo_7 mi w n i0 x1 x2 x3) 1000000 i0 x1 x2 x3 (x3 + 1)

theorem l_X1_nearestTwo_7 {gl : Nat} {gx : Nat → Int32} {d : Nat} {P : PL} {Q : PO} {lv : LV} {mi : MI} {w : WS} (n : Nat) : ∀ {i0 : Nat} {x1 : Int32} {x2 : Int32} {x3 : Int32} {v4 : AV} {v5 : AV} {r : Int32}, L_X1_nearestTwo_7 mi w n i0 x1 x2 x3 = some r → (Q (aI r) (mi, RS w, lv)) → Wp gl gx (d + 1) P 32 7 [aR 5 i0, aI x1, aI x2, aI x3, v4, v5] [] (mi, RS w, lv) Q := by
  induction n with
  | zero => intro i0 x1 x2 x3 v4 v5 r hf h0; exact o_none hf
  | succ n ih => intro i0 x1 x2 x3 v4 v5 r hf h0; exact r_X1_nearestTwo_7 (⟨fun q262 => k_ifp q262 hf (fun q264 => o_rP q264 h0), fun q263 => k_ifn q263 hf (fun q264 => l_X1_nearestTwo_20 (fun hf h0 => ih hf h0) 1000000 q264 h0)⟩)

def F_X1_nearestTwo (mi : MI) (w : WS) (i0 : Nat) : Option Int32 := L_X1_nearestTwo_7 mi w 1000000 i0 (-1) 26 0

theorem s_X1_nearestTwo {gl : Nat} {gx : Nat → Int32} {d : Nat} {P : PL} {Q : PO} {mi : MI} {w : WS} {lv : LV} {i0 : Nat} {r : Int32} (hf : F_X1_nearestTwo mi w i0 = some r) (h0 : Q (aI r) (mi, RS w, lv)) : Wp gl gx (d + 1) P 32 0 [aR 5 i0, aU, aU, aU, aU, aU] [] (mi, RS w, lv) Q := r_X1_nearestTwo_0 (l_X1_nearestTwo_7 1000000 hf h0)

abbrev row_33 : MT := (⟨"StencilHouse$Figures", "nearestUnlike", "(LStencilHouse$Shop;)I"⟩, prog_3_method_31_code, 2, some .int, 0, lk_1)
set_option maxRecDepth 20000 in
theorem mt_33 : mt 33 = some row_33 := rfl
theorem r_X1_nearestUnlike_0 {gl : Nat} {gx : Nat → Int32} {d : Nat} {P : PL} {Q : PO} {mi : MI} {w : WS} {lv : LV} {i0 : Nat} (h : (∃ c16 : Int32, F_X1_nearestTwo mi w i0 = some c16 ∧ ((c16 = (-1)) → Q (aI 0) (mi, RS w, lv)) ∧ (¬ (c16 = (-1)) → (¬ (¬ ((c16 / 10) < 0) ∧ (¬ ((mi 5 i0 3) ≤ (c16 / 10)) ∧ (¬ (6 ≤ (c16 / 10))))) → Q (aI 0) (mi, RS w, lv)) ∧ (¬ ((c16 / 10) < 0) ∧ (¬ ((mi 5 i0 3) ≤ (c16 / 10)) ∧ (¬ (6 ≤ (c16 / 10)))) → (¬ ((irem c16 10) < 0) ∧ (¬ ((mi 5 i0 3) ≤ (irem c16 10)) ∧ (¬ (6 ≤ (irem c16 10)))) → (vp_in (c16 / 10) 6) ∧ ((vp_in (irem c16 10) 6) ∧ (Q (aI (pop32 ((mi 28 i0 ((c16 / 10).toNatClampNeg)) ^^^ (mi 28 i0 ((irem c16 10).toNatClampNeg))))) (mi, RS w, lv)))) ∧ (¬ (¬ ((irem c16 10) < 0) ∧ (¬ ((mi 5 i0 3) ≤ (irem c16 10)) ∧ (¬ (6 ≤ (irem c16 10))))) → Q (aI 0) (mi, RS w, lv)))))) : Wp gl gx (d + 2) P 33 0 [aR 5 i0, aU] [] (mi, RS w, lv) Q := 
  wpT row_33 mt_33 [.aload_n 0, .invokestatic 109] (by decide +kernel) [(4, [.istore_n 1, .iload_n 1, .iconst (.negSucc 0), .if_icmp .eq 25]), (32, [.iconst 0, .ireturn]), (10, [.aload_n 0, .iload_n 1, .bipush 10, .idiv]), (15, [.invokevirtual 113]), (18, [.ifCond .eq 14]), (21, [.aload_n 0, .iload_n 1, .bipush 10, .irem]), (26, [.invokevirtual 113]), (29, [.ifCond .ne 5]), (34, [.aload_n 0, .getfield 41, .iload_n 1, .bipush 10, .idiv]), (42, [.iaload]), (43, [.aload_n 0, .getfield 41, .iload_n 1, .bipush 10, .irem]), (51, [.iaload]), (52, [.ixor, .invokestatic 28]), (56, [.ireturn])] (by decide +kernel) 90 (Exists.elim h (fun c16 zc16 => And.intro ⟨Nat.le_of_ble_eq_true rfl, rfl, rfl⟩ (s_X1_nearestTwo (d := d) zc16.1 (And.intro (fun q265 => (zc16.2.1 q265)) (fun q266 => And.intro (by decide) (And.intro ⟨Nat.le_of_ble_eq_true rfl, rfl, rfl⟩ (s_X6_hasSheet (d := d + 1) (And.intro (fun q267 => ((zc16.2.2 q266).1 (b2_0 q267))) (fun q268 => And.intro (by decide) (And.intro ⟨Nat.le_of_ble_eq_true rfl, rfl, rfl⟩ (s_X6_hasSheet (d := d + 1) (And.intro (fun q269 => And.intro (by decide) (And.intro (((zc16.2.2 q266).2 (b2_n q268)).1 (b2_n q269)).1 (And.intro (by decide) (And.intro (((zc16.2.2 q266).2 (b2_n q268)).1 (b2_n q269)).2.1 (And.intro ⟨Nat.le_of_ble_eq_true rfl, rfl, rfl⟩ (s_J6_bitCount_0f7a4 (d := d + 1) ((((zc16.2.2 q266).2 (b2_n q268)).1 (b2_n q269)).2.2))))))) (fun q270 => (((zc16.2.2 q266).2 (b2_n q268)).2 (b2_0 q270)))))))))))))))

def F_X1_nearestUnlike (mi : MI) (w : WS) (i0 : Nat) : Option Int32 := (F_X1_nearestTwo mi w i0).bind fun c16 => if c16 = (-1) then some (0 : Int32) else if ¬ ((c16 / 10) < 0) ∧ (¬ ((mi 5 i0 3) ≤ (c16 / 10)) ∧ (¬ (6 ≤ (c16 / 10)))) then if ¬ ((irem c16 10) < 0) ∧ (¬ ((mi 5 i0 3) ≤ (irem c16 10)) ∧ (¬ (6 ≤ (irem c16 10)))) then ck (¬ ((c16 / 10) < 0 ∨ 6 ≤ (c16 / 10).toNatClampNeg)) (ck (¬ ((irem c16 10) < 0 ∨ 6 ≤ (irem c16 10).toNatClampNeg)) (some (pop32 ((mi 28 i0 ((c16 / 10).toNatClampNeg)) ^^^ (mi 28 i0 ((irem c16 10).toNatClampNeg)))))) else some (0 : Int32) else some (0 : Int32)

theorem s_X1_nearestUnlike {gl : Nat} {gx : Nat → Int32} {d : Nat} {P : PL} {Q : PO} {mi : MI} {w : WS} {lv : LV} {i0 : Nat} {r : Int32} (hf : F_X1_nearestUnlike mi w i0 = some r) (h0 : Q (aI r) (mi, RS w, lv)) : Wp gl gx (d + 2) P 33 0 [aR 5 i0, aU] [] (mi, RS w, lv) Q := r_X1_nearestUnlike_0 (o_bind hf (fun c16 qc16 pc16 => ⟨c16, qc16, ⟨fun q271 => k_ifp q271 pc16 (fun q273 => o_rP q273 h0), fun q272 => k_ifn q272 pc16 (fun q273 => ⟨fun q274 => k_ifn q274 q273 (fun q276 => o_rP q276 h0), fun q275 => k_ifp q275 q273 (fun q276 => ⟨fun q277 => k_ifp q277 q276 (fun q279 => k_ck q279 (fun q281 q280 => ⟨q281, k_ck q280 (fun q283 q282 => ⟨q283, o_rP q282 h0⟩)⟩)), fun q278 => k_ifn q278 q276 (fun q279 => o_rP q279 h0)⟩)⟩)⟩⟩))

abbrev row_34 : MT := (⟨"StencilHouse$Figures", "onTop", "(LStencilHouse$Shop;I)I"⟩, prog_3_method_32_code, 3, some .int, 0, lk_1)
set_option maxRecDepth 20000 in
theorem mt_34 : mt 34 = some row_34 := rfl
theorem r_X1_onTop_0 {gl : Nat} {gx : Nat → Int32} {d : Nat} {P : PL} {Q : PO} {mi : MI} {w : WS} {lv : LV} {i0 : Nat} {x1 : Int32} (h : (vp_in x1 6) ∧ ((∃ c17 : Int32, F_X6_union mi w i0 ((f_X6_everySheet mi i0) &&& ((((2 : Int32) <<< (x1 &&& 31)) - 1) ^^^ (-1))) = some c17 ∧ Q (aI ((mi 28 i0 x1.toNatClampNeg) &&& (c17 ^^^ (-1)))) (mi, RS w, lv)))) : Wp gl gx (d + 1) P 34 0 [aR 5 i0, aI x1, aU] [] (mi, RS w, lv) Q := 
  wpT row_34 mt_34 [.aload_n 0, .invokevirtual 21] (by decide +kernel) [(4, [.iconst 2, .iload_n 1, .ishl, .iconst 1, .isub, .iconst (.negSucc 0), .ixor, .iand, .istore_n 2, .aload_n 0, .getfield 41, .iload_n 1, .iaload]), (19, [.aload_n 0, .iload_n 2, .invokevirtual 25]), (24, [.iconst (.negSucc 0), .ixor, .iand, .ireturn])] (by decide +kernel) 64 (And.intro ⟨Nat.le_of_ble_eq_true rfl, rfl, rfl⟩ (s_X6_everySheet (d := d) (And.intro h.1 (Exists.elim h.2 (fun c17 zc17 => And.intro ⟨Nat.le_of_ble_eq_true rfl, rfl, rfl⟩ (s_X6_union (d := d) zc17.1 (zc17.2)))))))

def F_X1_onTop (mi : MI) (w : WS) (i0 : Nat) (x1 : Int32) : Option Int32 := ck (¬ (x1 < 0 ∨ 6 ≤ x1.toNatClampNeg)) ((F_X6_union mi w i0 ((f_X6_everySheet mi i0) &&& ((((2 : Int32) <<< (x1 &&& 31)) - 1) ^^^ (-1)))).bind fun c17 => some ((mi 28 i0 x1.toNatClampNeg) &&& (c17 ^^^ (-1))))

theorem s_X1_onTop {gl : Nat} {gx : Nat → Int32} {d : Nat} {P : PL} {Q : PO} {mi : MI} {w : WS} {lv : LV} {i0 : Nat} {x1 : Int32} {r : Int32} (hf : F_X1_onTop mi w i0 x1 = some r) (h0 : Q (aI r) (mi, RS w, lv)) : Wp gl gx (d + 1) P 34 0 [aR 5 i0, aI x1, aU] [] (mi, RS w, lv) Q := r_X1_onTop_0 (k_ck hf (fun q285 q284 => ⟨q285, o_bind q284 (fun c17 qc17 pc17 => ⟨c17, qc17, o_rP pc17 h0⟩)⟩))

abbrev row_35 : MT := (⟨"StencilHouse$Figures", "hiddenSheets", "(LStencilHouse$Shop;)I"⟩, prog_3_method_33_code, 3, some .int, 0, lk_1)
set_option maxRecDepth 20000 in
theorem mt_35 : mt 35 = some row_35 := rfl
theorem r_X1_hiddenSheets_26 {gl : Nat} {gx : Nat → Int32} {d : Nat} {P : PL} {Q : PO} {mi : MI} {w : WS} {lv : LV} {i0 : Nat} {x1 : Int32} {x2 : Int32} (h : Wp gl gx (d + 2) P 35 4 [aR 5 i0, aI x1, aI (x2 + 1)] [] (mi, RS w, lv) Q) : Wp gl gx (d + 2) P 35 26 [aR 5 i0, aI x1, aI x2] [] (mi, RS w, lv) Q := 
  wpT row_35 mt_35 [.iinc 2 1, .goto (.negSucc 24)] (by decide +kernel) [] (by decide +kernel) 24 (h)

theorem r_X1_hiddenSheets_4 {gl : Nat} {gx : Nat → Int32} {d : Nat} {P : PL} {Q : PO} {mi : MI} {w : WS} {lv : LV} {i0 : Nat} {x1 : Int32} {x2 : Int32} (h : (((mi 5 i0 3) ≤ x2) → Q (aI x1) (mi, RS w, lv)) ∧ (¬ ((mi 5 i0 3) ≤ x2) → (∃ c18 : Int32, F_X1_onTop mi w i0 x2 = some c18 ∧ Wp gl gx (d + 2) P 35 4 [aR 5 i0, aI (if c18 = 0 then x1 ||| ((1 : Int32) <<< (x2 &&& 31)) else x1), aI (x2 + 1)] [] (mi, RS w, lv) Q))) : Wp gl gx (d + 2) P 35 4 [aR 5 i0, aI x1, aI x2] [] (mi, RS w, lv) Q := 
  wpT row_35 mt_35 [.iload_n 2, .aload_n 0, .getfield 37, .if_icmp .ge 23] (by decide +kernel) [(32, [.iload_n 1, .ireturn]), (12, [.aload_n 0, .iload_n 2, .invokestatic 117]), (17, [.ifCond .ne 9]), (20, [.iload_n 1, .iconst 1, .iload_n 2, .ishl, .ior, .istore_n 1])] (by decide +kernel) 52 (And.intro (fun q286 => (h.1 q286)) (fun q287 => Exists.elim (h.2 q287) (fun c18 zc18 => And.intro ⟨Nat.le_of_ble_eq_true rfl, rfl, rfl⟩ (s_X1_onTop (d := d) zc18.1 (And.intro (fun q288 => r_X1_hiddenSheets_26 (i0 := i0) (x1 := x1) (x2 := x2) (mi := mi) (mv9 (fun v => Wp gl gx (d + 2) P 35 4 [aR 5 i0, aI v, aI (x2 + 1)] [] (mi, RS w, lv) Q) (show (if c18 = 0 then x1 ||| ((1 : Int32) <<< (x2 &&& 31)) else x1) = x1 from if_neg (show ¬ (c18 = 0) from q288)) zc18.2)) (fun q289 => r_X1_hiddenSheets_26 (i0 := i0) (x1 := (x1 ||| ((1 : Int32) <<< (x2 &&& 31)))) (x2 := x2) (mi := mi) (mv9 (fun v => Wp gl gx (d + 2) P 35 4 [aR 5 i0, aI v, aI (x2 + 1)] [] (mi, RS w, lv) Q) (show (if c18 = 0 then x1 ||| ((1 : Int32) <<< (x2 &&& 31)) else x1) = (x1 ||| ((1 : Int32) <<< (x2 &&& 31))) from if_pos (show c18 = 0 from q289)) zc18.2)))))))

theorem r_X1_hiddenSheets_0 {gl : Nat} {gx : Nat → Int32} {d : Nat} {P : PL} {Q : PO} {mi : MI} {w : WS} {lv : LV} {i0 : Nat} (h : Wp gl gx (d + 2) P 35 4 [aR 5 i0, aI 0, aI 0] [] (mi, RS w, lv) Q) : Wp gl gx (d + 2) P 35 0 [aR 5 i0, aU, aU] [] (mi, RS w, lv) Q := 
  wpT row_35 mt_35 [.iconst 0, .istore_n 1, .iconst 0, .istore_n 2] (by decide +kernel) [] (by decide +kernel) 28 (h)

def L_X1_hiddenSheets_4 (mi : MI) (w : WS) : Nat → Nat → Int32 → Int32 → Option Int32
  | 0, _, _, _ => none
  | n + 1, i0, x1, x2 => if (mi 5 i0 3) ≤ x2 then some x1 else (F_X1_onTop mi w i0 x2).bind fun c18 => L_X1_hiddenSheets_4 mi w n i0 (if c18 = 0 then x1 ||| ((1 : Int32) <<< (x2 &&& 31)) else x1) (x2 + 1)

theorem l_X1_hiddenSheets_4 {gl : Nat} {gx : Nat → Int32} {d : Nat} {P : PL} {Q : PO} {lv : LV} {mi : MI} {w : WS} (n : Nat) : ∀ {i0 : Nat} {x1 : Int32} {x2 : Int32} {r : Int32}, L_X1_hiddenSheets_4 mi w n i0 x1 x2 = some r → (Q (aI r) (mi, RS w, lv)) → Wp gl gx (d + 2) P 35 4 [aR 5 i0, aI x1, aI x2] [] (mi, RS w, lv) Q := by
  induction n with
  | zero => intro i0 x1 x2 r hf h0; exact o_none hf
  | succ n ih => intro i0 x1 x2 r hf h0; exact r_X1_hiddenSheets_4 (⟨fun q290 => k_ifp q290 hf (fun q292 => o_rP q292 h0), fun q291 => k_ifn q291 hf (fun q292 => o_bind q292 (fun c18 qc18 pc18 => ⟨c18, qc18, ih pc18 h0⟩))⟩)

def F_X1_hiddenSheets (mi : MI) (w : WS) (i0 : Nat) : Option Int32 := L_X1_hiddenSheets_4 mi w 1000000 i0 0 0

theorem s_X1_hiddenSheets {gl : Nat} {gx : Nat → Int32} {d : Nat} {P : PL} {Q : PO} {mi : MI} {w : WS} {lv : LV} {i0 : Nat} {r : Int32} (hf : F_X1_hiddenSheets mi w i0 = some r) (h0 : Q (aI r) (mi, RS w, lv)) : Wp gl gx (d + 2) P 35 0 [aR 5 i0, aU, aU] [] (mi, RS w, lv) Q := r_X1_hiddenSheets_0 (l_X1_hiddenSheets_4 1000000 hf h0)

abbrev row_36 : MT := (⟨"StencilHouse$Figures", "offCount", "(LStencilHouse$Shop;LStencilHouse$Picture;)I"⟩, prog_3_method_34_code, 4, some .int, 0, lk_1)
set_option maxRecDepth 20000 in
theorem mt_36 : mt 36 = some row_36 := rfl
theorem r_X1_offCount_25 {gl : Nat} {gx : Nat → Int32} {d : Nat} {P : PL} {Q : PO} {mi : MI} {w : WS} {lv : LV} {i0 : Nat} {i1 : Nat} {x2 : Int32} {x3 : Int32} (h : (((mi 5 i0 3) ≤ x3) → Q (aI (pop32 ((mi 5 i0 7) &&& (x2 ^^^ (-1))))) (mi, RS w, lv)) ∧ (¬ ((mi 5 i0 3) ≤ x3) → (∃ c21 : Int32, F_X1_onTop mi w i0 x3 = some c21 ∧ (∃ c22 : Int32, F_X4_cellsOf mi w i1 i0 (x3 + 1) = some c22 ∧ Wp gl gx (d + 2) P 36 25 [aR 5 i0, aR 3 i1, aI (x2 ||| (c21 &&& c22)), aI (x3 + 1)] [] (mi, RS w, lv) Q)))) : Wp gl gx (d + 2) P 36 25 [aR 5 i0, aR 3 i1, aI x2, aI x3] [] (mi, RS w, lv) Q := 
  wpT row_36 mt_36 [.iload_n 3, .aload_n 0, .getfield 37, .if_icmp .ge 26] (by decide +kernel) [(56, [.aload_n 0, .getfield 100, .iload_n 2, .iconst (.negSucc 0), .ixor, .iand, .invokestatic 28]), (67, [.ireturn]), (33, [.iload_n 2, .aload_n 0, .iload_n 3, .invokestatic 117]), (39, [.aload_n 1, .aload_n 0, .iload_n 3, .iconst 1, .iadd, .invokevirtual 120]), (47, [.iand, .ior, .istore_n 2, .iinc 3 1, .goto (.negSucc 27)])] (by decide +kernel) 74 (And.intro (fun q293 => And.intro ⟨Nat.le_of_ble_eq_true rfl, rfl, rfl⟩ (s_J6_bitCount_0f7a4 (d := d + 1) ((h.1 q293)))) (fun q294 => Exists.elim (h.2 q294) (fun c21 zc21 => And.intro ⟨Nat.le_of_ble_eq_true rfl, rfl, rfl⟩ (s_X1_onTop (d := d) zc21.1 (Exists.elim zc21.2 (fun c22 zc22 => And.intro ⟨Nat.le_of_ble_eq_true rfl, rfl, rfl⟩ (s_X4_cellsOf (d := d) zc22.1 (zc22.2))))))))

theorem r_X1_offCount_0 {gl : Nat} {gx : Nat → Int32} {d : Nat} {P : PL} {Q : PO} {mi : MI} {w : WS} {lv : LV} {i0 : Nat} {i1 : Nat} (h : (∃ c19 : Int32, F_X6_union mi w i0 (f_X6_everySheet mi i0) = some c19 ∧ (∃ c20 : Int32, F_X4_cellsOf mi w i1 i0 0 = some c20 ∧ Wp gl gx (d + 2) P 36 25 [aR 5 i0, aR 3 i1, aI (((mi 5 i0 7) &&& (c19 ^^^ (-1))) &&& c20), aI 0] [] (mi, RS w, lv) Q))) : Wp gl gx (d + 2) P 36 0 [aR 5 i0, aR 3 i1, aU, aU] [] (mi, RS w, lv) Q := 
  wpT row_36 mt_36 [.aload_n 0, .getfield 100, .aload_n 0, .aload_n 0, .invokevirtual 21] (by decide +kernel) [(9, [.invokevirtual 25]), (12, [.iconst (.negSucc 0), .ixor, .iand, .aload_n 1, .aload_n 0, .iconst 0, .invokevirtual 120]), (21, [.iand, .istore_n 2, .iconst 0, .istore_n 3])] (by decide +kernel) 54 (And.intro ⟨Nat.le_of_ble_eq_true rfl, rfl, rfl⟩ (s_X6_everySheet (d := d + 1) (Exists.elim h (fun c19 zc19 => And.intro ⟨Nat.le_of_ble_eq_true rfl, rfl, rfl⟩ (s_X6_union (d := d + 1) zc19.1 (Exists.elim zc19.2 (fun c20 zc20 => And.intro ⟨Nat.le_of_ble_eq_true rfl, rfl, rfl⟩ (s_X4_cellsOf (d := d) zc20.1 (zc20.2)))))))))

def L_X1_offCount_25 (mi : MI) (w : WS) : Nat → Nat → Nat → Int32 → Int32 → Option Int32
  | 0, _, _, _, _ => none
  | n + 1, i0, i1, x2, x3 => if (mi 5 i0 3) ≤ x3 then some (pop32 ((mi 5 i0 7) &&& (x2 ^^^ (-1)))) else (F_X1_onTop mi w i0 x3).bind fun c21 => (F_X4_cellsOf mi w i1 i0 (x3 + 1)).bind fun c22 => L_X1_offCount_25 mi w n i0 i1 (x2 ||| (c21 &&& c22)) (x3 + 1)

theorem l_X1_offCount_25 {gl : Nat} {gx : Nat → Int32} {d : Nat} {P : PL} {Q : PO} {lv : LV} {mi : MI} {w : WS} (n : Nat) : ∀ {i0 : Nat} {i1 : Nat} {x2 : Int32} {x3 : Int32} {r : Int32}, L_X1_offCount_25 mi w n i0 i1 x2 x3 = some r → (Q (aI r) (mi, RS w, lv)) → Wp gl gx (d + 2) P 36 25 [aR 5 i0, aR 3 i1, aI x2, aI x3] [] (mi, RS w, lv) Q := by
  induction n with
  | zero => intro i0 i1 x2 x3 r hf h0; exact o_none hf
  | succ n ih => intro i0 i1 x2 x3 r hf h0; exact r_X1_offCount_25 (⟨fun q295 => k_ifp q295 hf (fun q297 => o_rP q297 h0), fun q296 => k_ifn q296 hf (fun q297 => o_bind q297 (fun c21 qc21 pc21 => ⟨c21, qc21, o_bind pc21 (fun c22 qc22 pc22 => ⟨c22, qc22, ih pc22 h0⟩)⟩))⟩)

def F_X1_offCount (mi : MI) (w : WS) (i0 : Nat) (i1 : Nat) : Option Int32 := (F_X6_union mi w i0 (f_X6_everySheet mi i0)).bind fun c19 => (F_X4_cellsOf mi w i1 i0 0).bind fun c20 => L_X1_offCount_25 mi w 1000000 i0 i1 (((mi 5 i0 7) &&& (c19 ^^^ (-1))) &&& c20) 0

theorem s_X1_offCount {gl : Nat} {gx : Nat → Int32} {d : Nat} {P : PL} {Q : PO} {mi : MI} {w : WS} {lv : LV} {i0 : Nat} {i1 : Nat} {r : Int32} (hf : F_X1_offCount mi w i0 i1 = some r) (h0 : Q (aI r) (mi, RS w, lv)) : Wp gl gx (d + 2) P 36 0 [aR 5 i0, aR 3 i1, aU, aU] [] (mi, RS w, lv) Q := r_X1_offCount_0 (o_bind hf (fun c19 qc19 pc19 => ⟨c19, qc19, o_bind pc19 (fun c20 qc20 pc20 => ⟨c20, qc20, l_X1_offCount_25 1000000 pc20 h0⟩)⟩))

abbrev row_38 : MT := (⟨"StencilHouse$Marks", "add", "(III)V"⟩, prog_4_method_2_code, 4, none, 1, lk_2)
set_option maxRecDepth 20000 in
theorem mt_38 : mt 38 = some row_38 := rfl
theorem r_X2_add_0 {gl : Nat} {gx : Nat → Int32} {d : Nat} {P : PL} {Q : PO} {mi : MI} {w : WS} {lv : LV} {i : Nat} {x1 : Int32} {x2 : Int32} {x3 : Int32} (h : (((mi 1 i 0) < 8) → (vp_in (mi 1 i 0) 8) ∧ ((∀ m23 : MI, m23 = u3 mi 31 i ((mi 1 i 0).toNatClampNeg) x1 → (vp_in (m23 1 i 0) 8) ∧ ((∀ m24 : MI, m24 = u3 m23 32 i ((m23 1 i 0).toNatClampNeg) x2 → (vp_in (m24 1 i 0) 8) ∧ ((∀ m25 : MI, m25 = u3 m24 33 i ((m24 1 i 0).toNatClampNeg) x3 → Q aU (u3 m25 1 i 0 ((m25 1 i 0) + 1), RS w, lv)))))))) ∧ (¬ ((mi 1 i 0) < 8) → Q aU (mi, RS w, lv))) : Wp gl gx d P 38 0 [aR 1 i, aI x1, aI x2, aI x3] [] (mi, RS w, lv) Q := 
  wpT row_38 mt_38 [.aload_n 0, .getfield 9, .bipush 8, .if_icmp .lt 4] (by decide +kernel) [(10, [.aload_n 0, .getfield 15, .aload_n 0, .getfield 9, .iload_n 1, .iastore]), (20, [.aload_n 0, .getfield 19, .aload_n 0, .getfield 9, .iload_n 2, .iastore]), (30, [.aload_n 0, .getfield 22, .aload_n 0, .getfield 9, .iload_n 3, .iastore]), (40, [.aload_n 0, .dup, .getfield 9, .iconst 1, .iadd, .putfield 9, .return_]), (9, [.return_])] (by decide +kernel) 80 (And.intro (fun q298 => And.intro (h.1 q298).1 (And.intro ((h.1 q298).2 _ rfl).1 (And.intro (((h.1 q298).2 _ rfl).2 _ rfl).1 (((((h.1 q298).2 _ rfl).2 _ rfl).2 _ rfl))))) (fun q299 => (h.2 q299)))

def F_X2_add (mi : MI) (w : WS) (i : Nat) (x1 : Int32) (x2 : Int32) (x3 : Int32) : Option MI := if (mi 1 i 0) < 8 then ck (¬ ((mi 1 i 0) < 0 ∨ 8 ≤ (mi 1 i 0).toNatClampNeg)) (lt (u3 mi 31 i ((mi 1 i 0).toNatClampNeg) x1) fun m23 => ck (¬ ((m23 1 i 0) < 0 ∨ 8 ≤ (m23 1 i 0).toNatClampNeg)) (lt (u3 m23 32 i ((m23 1 i 0).toNatClampNeg) x2) fun m24 => ck (¬ ((m24 1 i 0) < 0 ∨ 8 ≤ (m24 1 i 0).toNatClampNeg)) (lt (u3 m24 33 i ((m24 1 i 0).toNatClampNeg) x3) fun m25 => some (u3 m25 1 i 0 ((m25 1 i 0) + 1))))) else some mi

theorem s_X2_add {gl : Nat} {gx : Nat → Int32} {d : Nat} {P : PL} {Q : PO} {mi : MI} {w : WS} {lv : LV} {i : Nat} {x1 : Int32} {x2 : Int32} {x3 : Int32} {r : MI} (hf : F_X2_add mi w i x1 x2 x3 = some r) (h0 : Q aU (r, RS w, lv)) : Wp gl gx d P 38 0 [aR 1 i, aI x1, aI x2, aI x3] [] (mi, RS w, lv) Q := r_X2_add_0 (⟨fun q300 => k_ifp q300 hf (fun q302 => k_ck q302 (fun q304 q303 => ⟨q304, fun m23 hm23 => k_lt q303 hm23 (fun q305 => k_ck q305 (fun q307 q306 => ⟨q307, fun m24 hm24 => k_lt q306 hm24 (fun q308 => k_ck q308 (fun q310 q309 => ⟨q310, fun m25 hm25 => k_lt q309 hm25 (fun q311 => o_rMV q311 h0)⟩))⟩))⟩)), fun q301 => k_ifn q301 hf (fun q302 => o_rMV q302 h0)⟩)

abbrev row_39 : MT := (⟨"StencilHouse$Marks", "copyFrom", "(LStencilHouse$Marks;)V"⟩, prog_4_method_3_code, 2, none, 1, lk_2)
set_option maxRecDepth 20000 in
theorem mt_39 : mt 39 = some row_39 := rfl
theorem r_X2_copyFrom_0 {gl : Nat} {gx : Nat → Int32} {d : Nat} {P : PL} {Q : PO} {mi : MI} {w : WS} {lv : LV} {i : Nat} {i1 : Nat} (h : (∀ m26 : MI, m26 = u2 (u3 mi 1 i 0 (mi 1 i1 0)) 31 i (va_cpy ((u3 mi 1 i 0 (mi 1 i1 0)) 31 i1) ((u3 mi 1 i 0 (mi 1 i1 0)) 31 i) 0 0 8) → (∀ m27 : MI, m27 = u2 m26 32 i (va_cpy (m26 32 i1) (m26 32 i) 0 0 8) → (∀ m28 : MI, m28 = u2 m27 33 i (va_cpy (m27 33 i1) (m27 33 i) 0 0 8) → Q aU (m28, RS w, lv))))) : Wp gl gx (d + 1) P 39 0 [aR 1 i, aR 1 i1] [] (mi, RS w, lv) Q := 
  wpT row_39 mt_39 [.aload_n 0, .aload_n 1, .getfield 9, .putfield 9, .aload_n 1, .getfield 15, .iconst 0, .aload_n 0, .getfield 15, .iconst 0, .bipush 8, .invokestatic 25] (by decide +kernel) [(23, [.aload_n 1, .getfield 19, .iconst 0, .aload_n 0, .getfield 19, .iconst 0, .bipush 8, .invokestatic 25]), (38, [.aload_n 1, .getfield 22, .iconst 0, .aload_n 0, .getfield 22, .iconst 0, .bipush 8, .invokestatic 25]), (53, [.return_])] (by decide +kernel) 78 (And.intro ⟨Nat.le_of_ble_eq_true rfl, by decide, by decide, by decide, by decide, by decide⟩ (And.intro ⟨Nat.le_of_ble_eq_true rfl, by decide, by decide, by decide, by decide, by decide⟩ (And.intro ⟨Nat.le_of_ble_eq_true rfl, by decide, by decide, by decide, by decide, by decide⟩ ((((h _ rfl) _ rfl) _ rfl)))))

def F_X2_copyFrom (mi : MI) (w : WS) (i : Nat) (i1 : Nat) : Option MI := lt (u2 (u3 mi 1 i 0 (mi 1 i1 0)) 31 i (va_cpy ((u3 mi 1 i 0 (mi 1 i1 0)) 31 i1) ((u3 mi 1 i 0 (mi 1 i1 0)) 31 i) 0 0 8)) fun m26 => lt (u2 m26 32 i (va_cpy (m26 32 i1) (m26 32 i) 0 0 8)) fun m27 => lt (u2 m27 33 i (va_cpy (m27 33 i1) (m27 33 i) 0 0 8)) fun m28 => some m28

theorem s_X2_copyFrom {gl : Nat} {gx : Nat → Int32} {d : Nat} {P : PL} {Q : PO} {mi : MI} {w : WS} {lv : LV} {i : Nat} {i1 : Nat} {r : MI} (hf : F_X2_copyFrom mi w i i1 = some r) (h0 : Q aU (r, RS w, lv)) : Wp gl gx (d + 1) P 39 0 [aR 1 i, aR 1 i1] [] (mi, RS w, lv) Q := r_X2_copyFrom_0 (fun m26 hm26 => k_lt hf hm26 (fun q312 => fun m27 hm27 => k_lt q312 hm27 (fun q313 => fun m28 hm28 => k_lt q313 hm28 (fun q314 => o_rMV q314 h0))))

abbrev row_44 : MT := (⟨"StencilHouse$Orders", "leastUnused", "(II)I"⟩, prog_5_method_5_code, 4, some .int, 1, lk_3)
set_option maxRecDepth 20000 in
theorem mt_44 : mt 44 = some row_44 := rfl
theorem r_X3_leastUnused_2 {gl : Nat} {gx : Nat → Int32} {d : Nat} {P : PL} {Q : PO} {mi : MI} {w : WS} {lv : LV} {x1 : Int32} {x2 : Int32} {x3 : Int32} (h : (((mi 2 0 5) ≤ x3) → Q (aI x3) (mi, RS w, lv)) ∧ (¬ ((mi 2 0 5) ≤ x3) → ((((x1 >>> (x3 &&& 31)) &&& 1) = 0) → Q (aI x3) (mi, RS w, lv)) ∧ (¬ (((x1 >>> (x3 &&& 31)) &&& 1) = 0) → Wp gl gx d P 44 2 [aR 2 0, aI x1, aI x2, aI (x3 + 1)] [] (mi, RS w, lv) Q))) : Wp gl gx d P 44 2 [aR 2 0, aI x1, aI x2, aI x3] [] (mi, RS w, lv) Q := 
  wpT row_44 mt_44 [.iload_n 3, .aload_n 0, .getfield 27, .if_icmp .ge 17] (by decide +kernel) [(24, [.iload_n 3, .ireturn]), (10, [.iload_n 1, .iload_n 3, .ishr, .iconst 1, .iand, .ifCond .eq 9]), (18, [.iinc 3 1, .goto (.negSucc 18)])] (by decide +kernel) 48 (And.intro (fun q315 => (h.1 q315)) (fun q316 => And.intro (fun q317 => ((h.2 q316).1 q317)) (fun q318 => ((h.2 q316).2 q318))))

theorem r_X3_leastUnused_0 {gl : Nat} {gx : Nat → Int32} {d : Nat} {P : PL} {Q : PO} {mi : MI} {w : WS} {lv : LV} {x1 : Int32} {x2 : Int32} (h : Wp gl gx d P 44 2 [aR 2 0, aI x1, aI x2, aI x2] [] (mi, RS w, lv) Q) : Wp gl gx d P 44 0 [aR 2 0, aI x1, aI x2, aU] [] (mi, RS w, lv) Q := 
  wpT row_44 mt_44 [.iload_n 2, .istore_n 3] (by decide +kernel) [] (by decide +kernel) 24 (h)

def L_X3_leastUnused_2 (mi : MI) (w : WS) : Nat → Int32 → Int32 → Int32 → Option Int32
  | 0, _, _, _ => none
  | n + 1, x1, x2, x3 => if (mi 2 0 5) ≤ x3 then some x3 else if ((x1 >>> (x3 &&& 31)) &&& 1) = 0 then some x3 else L_X3_leastUnused_2 mi w n x1 x2 (x3 + 1)

theorem l_X3_leastUnused_2 {gl : Nat} {gx : Nat → Int32} {d : Nat} {P : PL} {Q : PO} {lv : LV} {mi : MI} {w : WS} (n : Nat) : ∀ {x1 : Int32} {x2 : Int32} {x3 : Int32} {r : Int32}, L_X3_leastUnused_2 mi w n x1 x2 x3 = some r → (Q (aI r) (mi, RS w, lv)) → Wp gl gx d P 44 2 [aR 2 0, aI x1, aI x2, aI x3] [] (mi, RS w, lv) Q := by
  induction n with
  | zero => intro x1 x2 x3 r hf h0; exact o_none hf
  | succ n ih => intro x1 x2 x3 r hf h0; exact r_X3_leastUnused_2 (⟨fun q319 => k_ifp q319 hf (fun q321 => o_rP q321 h0), fun q320 => k_ifn q320 hf (fun q321 => ⟨fun q322 => k_ifp q322 q321 (fun q324 => o_rP q324 h0), fun q323 => k_ifn q323 q321 (fun q324 => ih q324 h0)⟩)⟩)

def F_X3_leastUnused (mi : MI) (w : WS) (x1 : Int32) (x2 : Int32) : Option Int32 := L_X3_leastUnused_2 mi w 1000000 x1 x2 x2

theorem s_X3_leastUnused {gl : Nat} {gx : Nat → Int32} {d : Nat} {P : PL} {Q : PO} {mi : MI} {w : WS} {lv : LV} {x1 : Int32} {x2 : Int32} {r : Int32} (hf : F_X3_leastUnused mi w x1 x2 = some r) (h0 : Q (aI r) (mi, RS w, lv)) : Wp gl gx d P 44 0 [aR 2 0, aI x1, aI x2, aU] [] (mi, RS w, lv) Q := r_X3_leastUnused_0 (l_X3_leastUnused_2 1000000 hf h0)

abbrev row_47 : MT := (⟨"StencilHouse$Orders", "isLessThanFound", "()Z"⟩, prog_5_method_8_code, 2, some .boolean, 1, lk_3)
set_option maxRecDepth 20000 in
theorem mt_47 : mt 47 = some row_47 := rfl
theorem r_X3_isLessThanFound_2 {gl : Nat} {gx : Nat → Int32} {d : Nat} {P : PL} {Q : PO} {mi : MI} {w : WS} {lv : LV} {x1 : Int32} (h : (((mi 2 0 6) ≤ x1) → Q (aI 0) (mi, RS w, lv)) ∧ (¬ ((mi 2 0 6) ≤ x1) → (vp_in x1 6) ∧ ((vp_in x1 6) ∧ ((((mi 44 0 x1.toNatClampNeg) = (mi 43 0 x1.toNatClampNeg)) → Wp gl gx d P 47 2 [aR 2 0, aI (x1 + 1)] [] (mi, RS w, lv) Q) ∧ (¬ ((mi 44 0 x1.toNatClampNeg) = (mi 43 0 x1.toNatClampNeg)) → (vp_in x1 6) ∧ ((vp_in x1 6) ∧ (Q (aI (b2 (¬ ((mi 43 0 x1.toNatClampNeg) ≤ (mi 44 0 x1.toNatClampNeg))))) (mi, RS w, lv)))))))) : Wp gl gx d P 47 2 [aR 2 0, aI x1] [] (mi, RS w, lv) Q := 
  wpT row_47 mt_47 [.iload_n 1, .aload_n 0, .getfield 31, .if_icmp .ge 45] (by decide +kernel) [(52, [.iconst 0, .ireturn]), (10, [.aload_n 0, .getfield 18, .iload_n 1, .iaload]), (16, [.aload_n 0, .getfield 15, .iload_n 1, .iaload]), (22, [.if_icmp .eq 24]), (46, [.iinc 1 1, .goto (.negSucc 46)]), (25, [.aload_n 0, .getfield 18, .iload_n 1, .iaload]), (31, [.aload_n 0, .getfield 15, .iload_n 1, .iaload]), (37, [.if_icmp .ge 7]), (44, [.iconst 0, .ireturn]), (40, [.iconst 1, .goto 4]), (45, [.ireturn])] (by decide +kernel) 82 (And.intro (fun q325 => And.intro rfl (h.1 q325)) (fun q326 => And.intro (h.2 q326).1 (And.intro (h.2 q326).2.1 (And.intro (fun q327 => ((h.2 q326).2.2.1 q327)) (fun q328 => And.intro ((h.2 q326).2.2.2 q328).1 (And.intro ((h.2 q326).2.2.2 q328).2.1 (And.intro (fun q329 => And.intro rfl (mv9 (fun v => Q (aI v) (mi, RS w, lv)) (show (b2 (¬ ((mi 43 0 x1.toNatClampNeg) ≤ (mi 44 0 x1.toNatClampNeg)))) = 0 from b2n_t (show (mi 43 0 x1.toNatClampNeg) ≤ (mi 44 0 x1.toNatClampNeg) from q329)) (((h.2 q326).2.2.2 q328).2.2))) (fun q330 => And.intro rfl (mv9 (fun v => Q (aI v) (mi, RS w, lv)) (show (b2 (¬ ((mi 43 0 x1.toNatClampNeg) ≤ (mi 44 0 x1.toNatClampNeg)))) = 1 from b2n_f (show ¬ ((mi 43 0 x1.toNatClampNeg) ≤ (mi 44 0 x1.toNatClampNeg)) from q330)) (((h.2 q326).2.2.2 q328).2.2))))))))))

theorem r_X3_isLessThanFound_0 {gl : Nat} {gx : Nat → Int32} {d : Nat} {P : PL} {Q : PO} {mi : MI} {w : WS} {lv : LV}  (h : Wp gl gx d P 47 2 [aR 2 0, aI 0] [] (mi, RS w, lv) Q) : Wp gl gx d P 47 0 [aR 2 0, aU] [] (mi, RS w, lv) Q := 
  wpT row_47 mt_47 [.iconst 0, .istore_n 1] (by decide +kernel) [] (by decide +kernel) 24 (h)

def L_X3_isLessThanFound_2 (mi : MI) (w : WS) : Nat → Int32 → Option Int32
  | 0, _ => none
  | n + 1, x1 => if (mi 2 0 6) ≤ x1 then some (0 : Int32) else ck (¬ (x1 < 0 ∨ 6 ≤ x1.toNatClampNeg)) (ck (¬ (x1 < 0 ∨ 6 ≤ x1.toNatClampNeg)) (if (mi 44 0 x1.toNatClampNeg) = (mi 43 0 x1.toNatClampNeg) then L_X3_isLessThanFound_2 mi w n (x1 + 1) else ck (¬ (x1 < 0 ∨ 6 ≤ x1.toNatClampNeg)) (ck (¬ (x1 < 0 ∨ 6 ≤ x1.toNatClampNeg)) (some (b2 (¬ ((mi 43 0 x1.toNatClampNeg) ≤ (mi 44 0 x1.toNatClampNeg))))))))

theorem l_X3_isLessThanFound_2 {gl : Nat} {gx : Nat → Int32} {d : Nat} {P : PL} {Q : PO} {lv : LV} {mi : MI} {w : WS} (n : Nat) : ∀ {x1 : Int32} {r : Int32}, L_X3_isLessThanFound_2 mi w n x1 = some r → (Q (aI r) (mi, RS w, lv)) → Wp gl gx d P 47 2 [aR 2 0, aI x1] [] (mi, RS w, lv) Q := by
  induction n with
  | zero => intro x1 r hf h0; exact o_none hf
  | succ n ih => intro x1 r hf h0; exact r_X3_isLessThanFound_2 (⟨fun q331 => k_ifp q331 hf (fun q333 => o_rP q333 h0), fun q332 => k_ifn q332 hf (fun q333 => k_ck q333 (fun q335 q334 => ⟨q335, k_ck q334 (fun q337 q336 => ⟨q337, ⟨fun q338 => k_ifp q338 q336 (fun q340 => ih q340 h0), fun q339 => k_ifn q339 q336 (fun q340 => k_ck q340 (fun q342 q341 => ⟨q342, k_ck q341 (fun q344 q343 => ⟨q344, o_rP q343 h0⟩)⟩))⟩⟩)⟩))⟩)

def F_X3_isLessThanFound (mi : MI) (w : WS)  : Option Int32 := L_X3_isLessThanFound_2 mi w 1000000 0

theorem s_X3_isLessThanFound {gl : Nat} {gx : Nat → Int32} {d : Nat} {P : PL} {Q : PO} {mi : MI} {w : WS} {lv : LV}  {r : Int32} (hf : F_X3_isLessThanFound mi w  = some r) (h0 : Q (aI r) (mi, RS w, lv)) : Wp gl gx d P 47 0 [aR 2 0, aU] [] (mi, RS w, lv) Q := r_X3_isLessThanFound_0 (l_X3_isLessThanFound_2 1000000 hf h0)

abbrev row_49 : MT := (⟨"StencilHouse$Orders", "colourOfAll", "(I)I"⟩, prog_5_method_10_code, 3, some .int, 1, lk_3)
set_option maxRecDepth 20000 in
theorem mt_49 : mt 49 = some row_49 := rfl
theorem r_X3_colourOfAll_2 {gl : Nat} {gx : Nat → Int32} {d : Nat} {P : PL} {Q : PO} {mi : MI} {w : WS} {lv : LV} {x1 : Int32} {x2 : Int32} (h : ((10 ≤ x2) → Q (aI (-1)) (mi, RS w, lv)) ∧ (¬ (10 ≤ x2) → (vp_in x2 10) ∧ ((¬ ((x1 &&& ((mi 45 0 x2.toNatClampNeg) ^^^ (-1))) = 0) → Wp gl gx d P 49 2 [aR 2 0, aI x1, aI (x2 + 1)] [] (mi, RS w, lv) Q) ∧ (((x1 &&& ((mi 45 0 x2.toNatClampNeg) ^^^ (-1))) = 0) → Q (aI x2) (mi, RS w, lv))))) : Wp gl gx d P 49 2 [aR 2 0, aI x1, aI x2] [] (mi, RS w, lv) Q := 
  wpT row_49 mt_49 [.iload_n 2, .bipush 10, .if_icmp .ge 24] (by decide +kernel) [(29, [.iconst (.negSucc 0), .ireturn]), (8, [.iload_n 1, .aload_n 0, .getfield 21, .iload_n 2, .iaload]), (15, [.iconst (.negSucc 0), .ixor, .iand, .ifCond .ne 5]), (23, [.iinc 2 1, .goto (.negSucc 23)]), (21, [.iload_n 2, .ireturn])] (by decide +kernel) 56 (And.intro (fun q345 => (h.1 q345)) (fun q346 => And.intro (h.2 q346).1 (And.intro (fun q347 => ((h.2 q346).2.1 q347)) (fun q348 => ((h.2 q346).2.2 q348)))))

theorem r_X3_colourOfAll_0 {gl : Nat} {gx : Nat → Int32} {d : Nat} {P : PL} {Q : PO} {mi : MI} {w : WS} {lv : LV} {x1 : Int32} (h : Wp gl gx d P 49 2 [aR 2 0, aI x1, aI 1] [] (mi, RS w, lv) Q) : Wp gl gx d P 49 0 [aR 2 0, aI x1, aU] [] (mi, RS w, lv) Q := 
  wpT row_49 mt_49 [.iconst 1, .istore_n 2] (by decide +kernel) [] (by decide +kernel) 24 (h)

def L_X3_colourOfAll_2 (mi : MI) (w : WS) : Nat → Int32 → Int32 → Option Int32
  | 0, _, _ => none
  | n + 1, x1, x2 => if 10 ≤ x2 then some (-1 : Int32) else ck (¬ (x2 < 0 ∨ 10 ≤ x2.toNatClampNeg)) (if (x1 &&& ((mi 45 0 x2.toNatClampNeg) ^^^ (-1))) = 0 then some x2 else L_X3_colourOfAll_2 mi w n x1 (x2 + 1))

theorem l_X3_colourOfAll_2 {gl : Nat} {gx : Nat → Int32} {d : Nat} {P : PL} {Q : PO} {lv : LV} {mi : MI} {w : WS} (n : Nat) : ∀ {x1 : Int32} {x2 : Int32} {r : Int32}, L_X3_colourOfAll_2 mi w n x1 x2 = some r → (Q (aI r) (mi, RS w, lv)) → Wp gl gx d P 49 2 [aR 2 0, aI x1, aI x2] [] (mi, RS w, lv) Q := by
  induction n with
  | zero => intro x1 x2 r hf h0; exact o_none hf
  | succ n ih => intro x1 x2 r hf h0; exact r_X3_colourOfAll_2 (⟨fun q349 => k_ifp q349 hf (fun q351 => o_rP q351 h0), fun q350 => k_ifn q350 hf (fun q351 => k_ck q351 (fun q353 q352 => ⟨q353, ⟨fun q354 => k_ifn q354 q352 (fun q356 => ih q356 h0), fun q355 => k_ifp q355 q352 (fun q356 => o_rP q356 h0)⟩⟩))⟩)

def F_X3_colourOfAll (mi : MI) (w : WS) (x1 : Int32) : Option Int32 := L_X3_colourOfAll_2 mi w 1000000 x1 1

theorem s_X3_colourOfAll {gl : Nat} {gx : Nat → Int32} {d : Nat} {P : PL} {Q : PO} {mi : MI} {w : WS} {lv : LV} {x1 : Int32} {r : Int32} (hf : F_X3_colourOfAll mi w x1 = some r) (h0 : Q (aI r) (mi, RS w, lv)) : Wp gl gx d P 49 0 [aR 2 0, aI x1, aU] [] (mi, RS w, lv) Q := r_X3_colourOfAll_0 (l_X3_colourOfAll_2 1000000 hf h0)

abbrev row_51 : MT := (⟨"StencilHouse$Orders", "shownCount", "(LStencilHouse$Shop;)I"⟩, prog_5_method_12_code, 6, some .int, 1, lk_3)
set_option maxRecDepth 20000 in
theorem mt_51 : mt 51 = some row_51 := rfl
theorem r_X3_shownCount_43 {gl : Nat} {gx : Nat → Int32} {d : Nat} {P : PL} {Q : PO} {mi : MI} {w : WS} {lv : LV} {i1 : Nat} {x2 : Int32} {x3 : Int32} {x4 : Int32} {x5 : Int32} (h : Wp gl gx d P 51 12 [aR 2 0, aR 5 i1, aI (x2 ||| x5), aI x3, aI (x4 + (-1)), aI x5] [] (mi, RS w, lv) Q) : Wp gl gx d P 51 43 [aR 2 0, aR 5 i1, aI x2, aI x3, aI x4, aI x5] [] (mi, RS w, lv) Q := 
  wpT row_51 mt_51 [.iload_n 2, .iload 5, .ior, .istore_n 2, .iinc 4 (.negSucc 0), .goto (.negSucc 38)] (by decide +kernel) [] (by decide +kernel) 32 (h)

theorem r_X3_shownCount_12 {gl : Nat} {gx : Nat → Int32} {d : Nat} {P : PL} {Q : PO} {mi : MI} {w : WS} {lv : LV} {i1 : Nat} {x2 : Int32} {x3 : Int32} {x4 : Int32} {v5 : AV} (h : ((x4 < 0) → Q (aI x3) (mi, RS w, lv)) ∧ (¬ (x4 < 0) → (vp_in x4 6) ∧ ((vp_in (mi 42 0 x4.toNatClampNeg) 6) ∧ (Wp gl gx d P 51 12 [aR 2 0, aR 5 i1, aI (x2 ||| (mi 28 i1 ((mi 42 0 x4.toNatClampNeg).toNatClampNeg))), aI (if ((mi 28 i1 ((mi 42 0 x4.toNatClampNeg).toNatClampNeg)) &&& (x2 ^^^ (-1))) = 0 then x3 else x3 + 1), aI (x4 + (-1)), aI (mi 28 i1 ((mi 42 0 x4.toNatClampNeg).toNatClampNeg))] [] (mi, RS w, lv) Q)))) : Wp gl gx d P 51 12 [aR 2 0, aR 5 i1, aI x2, aI x3, aI x4, v5] [] (mi, RS w, lv) Q := 
  wpT row_51 mt_51 [.iload 4, .ifCond .lt 40] (by decide +kernel) [(54, [.iload_n 3, .ireturn]), (17, [.aload_n 1, .getfield 85, .aload_n 0, .getfield 9, .iload 4, .iaload]), (28, [.iaload]), (29, [.istore 5, .iload 5, .iload_n 2, .iconst (.negSucc 0), .ixor, .iand, .ifCond .eq 6]), (40, [.iinc 3 1])] (by decide +kernel) 58 (And.intro (fun q357 => (h.1 q357)) (fun q358 => And.intro (h.2 q358).1 (And.intro (h.2 q358).2.1 (And.intro (fun q359 => r_X3_shownCount_43 (i1 := i1) (x2 := x2) (x3 := x3) (x4 := x4) (x5 := (mi 28 i1 ((mi 42 0 x4.toNatClampNeg).toNatClampNeg))) (mi := mi) (mv9 (fun v => Wp gl gx d P 51 12 [aR 2 0, aR 5 i1, aI (x2 ||| (mi 28 i1 ((mi 42 0 x4.toNatClampNeg).toNatClampNeg))), aI v, aI (x4 + (-1)), aI (mi 28 i1 ((mi 42 0 x4.toNatClampNeg).toNatClampNeg))] [] (mi, RS w, lv) Q) (show (if ((mi 28 i1 ((mi 42 0 x4.toNatClampNeg).toNatClampNeg)) &&& (x2 ^^^ (-1))) = 0 then x3 else x3 + 1) = x3 from if_pos (show ((mi 28 i1 ((mi 42 0 x4.toNatClampNeg).toNatClampNeg)) &&& (x2 ^^^ (-1))) = 0 from q359)) ((h.2 q358).2.2))) (fun q360 => r_X3_shownCount_43 (i1 := i1) (x2 := x2) (x3 := (x3 + 1)) (x4 := x4) (x5 := (mi 28 i1 ((mi 42 0 x4.toNatClampNeg).toNatClampNeg))) (mi := mi) (mv9 (fun v => Wp gl gx d P 51 12 [aR 2 0, aR 5 i1, aI (x2 ||| (mi 28 i1 ((mi 42 0 x4.toNatClampNeg).toNatClampNeg))), aI v, aI (x4 + (-1)), aI (mi 28 i1 ((mi 42 0 x4.toNatClampNeg).toNatClampNeg))] [] (mi, RS w, lv) Q) (show (if ((mi 28 i1 ((mi 42 0 x4.toNatClampNeg).toNatClampNeg)) &&& (x2 ^^^ (-1))) = 0 then x3 else x3 + 1) = (x3 + 1) from if_neg (show ¬ (((mi 28 i1 ((mi 42 0 x4.toNatClampNeg).toNatClampNeg)) &&& (x2 ^^^ (-1))) = 0) from q360)) ((h.2 q358).2.2)))))))

theorem r_X3_shownCount_0 {gl : Nat} {gx : Nat → Int32} {d : Nat} {P : PL} {Q : PO} {mi : MI} {w : WS} {lv : LV} {i1 : Nat} (h : Wp gl gx d P 51 12 [aR 2 0, aR 5 i1, aI 0, aI 0, aI ((mi 2 0 6) - 1), aU] [] (mi, RS w, lv) Q) : Wp gl gx d P 51 0 [aR 2 0, aR 5 i1, aU, aU, aU, aU] [] (mi, RS w, lv) Q := 
  wpT row_51 mt_51 [.iconst 0, .istore_n 2, .iconst 0, .istore_n 3, .aload_n 0, .getfield 31, .iconst 1, .isub, .istore 4] (by decide +kernel) [] (by decide +kernel) 38 (h)

def L_X3_shownCount_12 (mi : MI) (w : WS) : Nat → Nat → Int32 → Int32 → Int32 → Option Int32
  | 0, _, _, _, _ => none
  | n + 1, i1, x2, x3, x4 => if x4 < 0 then some x3 else ck (¬ (x4 < 0 ∨ 6 ≤ x4.toNatClampNeg)) (ck (¬ ((mi 42 0 x4.toNatClampNeg) < 0 ∨ 6 ≤ (mi 42 0 x4.toNatClampNeg).toNatClampNeg)) (L_X3_shownCount_12 mi w n i1 (x2 ||| (mi 28 i1 ((mi 42 0 x4.toNatClampNeg).toNatClampNeg))) (if ((mi 28 i1 ((mi 42 0 x4.toNatClampNeg).toNatClampNeg)) &&& (x2 ^^^ (-1))) = 0 then x3 else x3 + 1) (x4 + (-1))))

theorem l_X3_shownCount_12 {gl : Nat} {gx : Nat → Int32} {d : Nat} {P : PL} {Q : PO} {lv : LV} {mi : MI} {w : WS} (n : Nat) : ∀ {i1 : Nat} {x2 : Int32} {x3 : Int32} {x4 : Int32} {v5 : AV} {r : Int32}, L_X3_shownCount_12 mi w n i1 x2 x3 x4 = some r → (Q (aI r) (mi, RS w, lv)) → Wp gl gx d P 51 12 [aR 2 0, aR 5 i1, aI x2, aI x3, aI x4, v5] [] (mi, RS w, lv) Q := by
  induction n with
  | zero => intro i1 x2 x3 x4 v5 r hf h0; exact o_none hf
  | succ n ih => intro i1 x2 x3 x4 v5 r hf h0; exact r_X3_shownCount_12 (⟨fun q361 => k_ifp q361 hf (fun q363 => o_rP q363 h0), fun q362 => k_ifn q362 hf (fun q363 => k_ck q363 (fun q365 q364 => ⟨q365, k_ck q364 (fun q367 q366 => ⟨q367, ih q366 h0⟩)⟩))⟩)

def F_X3_shownCount (mi : MI) (w : WS) (i1 : Nat) : Option Int32 := L_X3_shownCount_12 mi w 1000000 i1 0 0 ((mi 2 0 6) - 1)

theorem s_X3_shownCount {gl : Nat} {gx : Nat → Int32} {d : Nat} {P : PL} {Q : PO} {mi : MI} {w : WS} {lv : LV} {i1 : Nat} {r : Int32} (hf : F_X3_shownCount mi w i1 = some r) (h0 : Q (aI r) (mi, RS w, lv)) : Wp gl gx d P 51 0 [aR 2 0, aR 5 i1, aU, aU, aU, aU] [] (mi, RS w, lv) Q := r_X3_shownCount_0 (l_X3_shownCount_12 1000000 hf h0)

abbrev row_52 : MT := (⟨"StencilHouse$Orders", "foundAt", "(I)I"⟩, prog_5_method_13_code, 2, some .int, 1, lk_3)
set_option maxRecDepth 20000 in
theorem mt_52 : mt 52 = some row_52 := rfl
theorem r_X3_foundAt_0 {gl : Nat} {gx : Nat → Int32} {d : Nat} {P : PL} {Q : PO} {mi : MI} {w : WS} {lv : LV} {x1 : Int32} (h : ((x1 < 0) → Q (aI (-1)) (mi, RS w, lv)) ∧ (¬ (x1 < 0) → (((mi 2 0 6) ≤ x1) → Q (aI (-1)) (mi, RS w, lv)) ∧ (¬ ((mi 2 0 6) ≤ x1) → (vp_in x1 6) ∧ (Q (aI (mi 43 0 x1.toNatClampNeg)) (mi, RS w, lv))))) : Wp gl gx d P 52 0 [aR 2 0, aI x1] [] (mi, RS w, lv) Q := 
  wpT row_52 mt_52 [.iload_n 1, .ifCond .lt 20] (by decide +kernel) [(21, [.iconst (.negSucc 0), .ireturn]), (4, [.iload_n 1, .aload_n 0, .getfield 31, .if_icmp .ge 12]), (12, [.aload_n 0, .getfield 15, .iload_n 1, .iaload]), (18, [.goto 4]), (22, [.ireturn])] (by decide +kernel) 48 (And.intro (fun q368 => (h.1 q368)) (fun q369 => And.intro (fun q370 => ((h.2 q369).1 q370)) (fun q371 => And.intro ((h.2 q369).2 q371).1 (((h.2 q369).2 q371).2))))

def F_X3_foundAt (mi : MI) (w : WS) (x1 : Int32) : Option Int32 := if x1 < 0 then some (-1 : Int32) else if (mi 2 0 6) ≤ x1 then some (-1 : Int32) else ck (¬ (x1 < 0 ∨ 6 ≤ x1.toNatClampNeg)) (some (mi 43 0 x1.toNatClampNeg))

theorem s_X3_foundAt {gl : Nat} {gx : Nat → Int32} {d : Nat} {P : PL} {Q : PO} {mi : MI} {w : WS} {lv : LV} {x1 : Int32} {r : Int32} (hf : F_X3_foundAt mi w x1 = some r) (h0 : Q (aI r) (mi, RS w, lv)) : Wp gl gx d P 52 0 [aR 2 0, aI x1] [] (mi, RS w, lv) Q := r_X3_foundAt_0 (⟨fun q372 => k_ifp q372 hf (fun q374 => o_rP q374 h0), fun q373 => k_ifn q373 hf (fun q374 => ⟨fun q375 => k_ifp q375 q374 (fun q377 => o_rP q377 h0), fun q376 => k_ifn q376 q374 (fun q377 => k_ck q377 (fun q379 q378 => ⟨q379, o_rP q378 h0⟩))⟩)⟩)

abbrev row_54 : MT := (⟨"StencilHouse$Orders", "lastItem", "()I"⟩, prog_5_method_15_code, 1, some .int, 1, lk_3)
set_option maxRecDepth 20000 in
theorem mt_54 : mt 54 = some row_54 := rfl
theorem r_X3_lastItem_0 {gl : Nat} {gx : Nat → Int32} {d : Nat} {P : PL} {Q : PO} {mi : MI} {w : WS} {lv : LV}  (h : (((mi 2 0 6) ≤ 0) → Q (aI (-1)) (mi, RS w, lv)) ∧ (¬ ((mi 2 0 6) ≤ 0) → (vp_in ((mi 2 0 6) - 1) 6) ∧ (Q (aI (mi 42 0 (((mi 2 0 6) - 1).toNatClampNeg))) (mi, RS w, lv)))) : Wp gl gx d P 54 0 [aR 2 0] [] (mi, RS w, lv) Q := 
  wpT row_54 mt_54 [.aload_n 0, .getfield 31, .ifCond .le 17] (by decide +kernel) [(21, [.iconst (.negSucc 0), .ireturn]), (7, [.aload_n 0, .getfield 9, .aload_n 0, .getfield 31, .iconst 1, .isub, .iaload]), (18, [.goto 4]), (22, [.ireturn])] (by decide +kernel) 48 (And.intro (fun q380 => (h.1 q380)) (fun q381 => And.intro (h.2 q381).1 ((h.2 q381).2)))

def F_X3_lastItem (mi : MI) (w : WS)  : Option Int32 := if (mi 2 0 6) ≤ 0 then some (-1 : Int32) else ck (¬ (((mi 2 0 6) - 1) < 0 ∨ 6 ≤ ((mi 2 0 6) - 1).toNatClampNeg)) (some (mi 42 0 (((mi 2 0 6) - 1).toNatClampNeg)))

theorem s_X3_lastItem {gl : Nat} {gx : Nat → Int32} {d : Nat} {P : PL} {Q : PO} {mi : MI} {w : WS} {lv : LV}  {r : Int32} (hf : F_X3_lastItem mi w  = some r) (h0 : Q (aI r) (mi, RS w, lv)) : Wp gl gx d P 54 0 [aR 2 0] [] (mi, RS w, lv) Q := r_X3_lastItem_0 (⟨fun q382 => k_ifp q382 hf (fun q384 => o_rP q384 h0), fun q383 => k_ifn q383 hf (fun q384 => k_ck q384 (fun q386 q385 => ⟨q386, o_rP q385 h0⟩))⟩)

abbrev row_55 : MT := (⟨"StencilHouse$Orders", "asNumber", "()I"⟩, prog_5_method_16_code, 3, some .int, 1, lk_3)
set_option maxRecDepth 20000 in
theorem mt_55 : mt 55 = some row_55 := rfl
theorem r_X3_asNumber_4 {gl : Nat} {gx : Nat → Int32} {d : Nat} {P : PL} {Q : PO} {mi : MI} {w : WS} {lv : LV} {x1 : Int32} {x2 : Int32} (h : (((mi 2 0 6) ≤ x2) → Q (aI x1) (mi, RS w, lv)) ∧ (¬ ((mi 2 0 6) ≤ x2) → (vp_in x2 6) ∧ (Wp gl gx d P 55 4 [aR 2 0, aI ((x1 * 10) + (mi 42 0 x2.toNatClampNeg)), aI (x2 + 1)] [] (mi, RS w, lv) Q))) : Wp gl gx d P 55 4 [aR 2 0, aI x1, aI x2] [] (mi, RS w, lv) Q := 
  wpT row_55 mt_55 [.iload_n 2, .aload_n 0, .getfield 31, .if_icmp .ge 21] (by decide +kernel) [(30, [.iload_n 1, .ireturn]), (12, [.iload_n 1, .bipush 10, .imul, .aload_n 0, .getfield 9, .iload_n 2, .iaload]), (22, [.iadd, .istore_n 1, .iinc 2 1, .goto (.negSucc 22)])] (by decide +kernel) 54 (And.intro (fun q387 => (h.1 q387)) (fun q388 => And.intro (h.2 q388).1 ((h.2 q388).2)))

theorem r_X3_asNumber_0 {gl : Nat} {gx : Nat → Int32} {d : Nat} {P : PL} {Q : PO} {mi : MI} {w : WS} {lv : LV}  (h : Wp gl gx d P 55 4 [aR 2 0, aI 1, aI 0] [] (mi, RS w, lv) Q) : Wp gl gx d P 55 0 [aR 2 0, aU, aU] [] (mi, RS w, lv) Q := 
  wpT row_55 mt_55 [.iconst 1, .istore_n 1, .iconst 0, .istore_n 2] (by decide +kernel) [] (by decide +kernel) 28 (h)

def L_X3_asNumber_4 (mi : MI) (w : WS) : Nat → Int32 → Int32 → Option Int32
  | 0, _, _ => none
  | n + 1, x1, x2 => if (mi 2 0 6) ≤ x2 then some x1 else ck (¬ (x2 < 0 ∨ 6 ≤ x2.toNatClampNeg)) (L_X3_asNumber_4 mi w n ((x1 * 10) + (mi 42 0 x2.toNatClampNeg)) (x2 + 1))

theorem l_X3_asNumber_4 {gl : Nat} {gx : Nat → Int32} {d : Nat} {P : PL} {Q : PO} {lv : LV} {mi : MI} {w : WS} (n : Nat) : ∀ {x1 : Int32} {x2 : Int32} {r : Int32}, L_X3_asNumber_4 mi w n x1 x2 = some r → (Q (aI r) (mi, RS w, lv)) → Wp gl gx d P 55 4 [aR 2 0, aI x1, aI x2] [] (mi, RS w, lv) Q := by
  induction n with
  | zero => intro x1 x2 r hf h0; exact o_none hf
  | succ n ih => intro x1 x2 r hf h0; exact r_X3_asNumber_4 (⟨fun q389 => k_ifp q389 hf (fun q391 => o_rP q391 h0), fun q390 => k_ifn q390 hf (fun q391 => k_ck q391 (fun q393 q392 => ⟨q393, ih q392 h0⟩))⟩)

def F_X3_asNumber (mi : MI) (w : WS)  : Option Int32 := L_X3_asNumber_4 mi w 1000000 1 0

theorem s_X3_asNumber {gl : Nat} {gx : Nat → Int32} {d : Nat} {P : PL} {Q : PO} {mi : MI} {w : WS} {lv : LV}  {r : Int32} (hf : F_X3_asNumber mi w  = some r) (h0 : Q (aI r) (mi, RS w, lv)) : Wp gl gx d P 55 0 [aR 2 0, aU, aU] [] (mi, RS w, lv) Q := r_X3_asNumber_0 (l_X3_asNumber_4 1000000 hf h0)

abbrev row_57 : MT := (⟨"StencilHouse$Orders", "topAt", "(LStencilHouse$Shop;I)I"⟩, prog_5_method_18_code, 4, some .int, 1, lk_3)
set_option maxRecDepth 20000 in
theorem mt_57 : mt 57 = some row_57 := rfl
theorem r_X3_topAt_7 {gl : Nat} {gx : Nat → Int32} {d : Nat} {P : PL} {Q : PO} {mi : MI} {w : WS} {lv : LV} {i1 : Nat} {x2 : Int32} {x3 : Int32} (h : ((x3 < 0) → Q (aI (-1)) (mi, RS w, lv)) ∧ (¬ (x3 < 0) → (vp_in x3 6) ∧ ((vp_in (mi 42 0 x3.toNatClampNeg) 6) ∧ ((¬ (¬ (((mi 28 i1 (nt (mi 42 0 x3.toNatClampNeg))) >>> (x2 &&& 31)) &&& 1) = 0) → Wp gl gx (d + 1) P 57 7 [aR 2 0, aR 5 i1, aI x2, aI (x3 + (-1))] [] (mi, RS w, lv) Q) ∧ (¬ (((mi 28 i1 (nt (mi 42 0 x3.toNatClampNeg))) >>> (x2 &&& 31)) &&& 1) = 0 → (vp_in x3 6) ∧ (Q (aI (mi 42 0 x3.toNatClampNeg)) (mi, RS w, lv))))))) : Wp gl gx (d + 1) P 57 7 [aR 2 0, aR 5 i1, aI x2, aI x3] [] (mi, RS w, lv) Q := 
  wpT row_57 mt_57 [.iload_n 3, .ifCond .lt 30] (by decide +kernel) [(38, [.iconst (.negSucc 0), .ireturn]), (11, [.aload_n 1, .aload_n 0, .getfield 9, .iload_n 3, .iaload]), (18, [.iload_n 2, .invokevirtual 144]), (22, [.ifCond .eq 10]), (32, [.iinc 3 (.negSucc 0), .goto (.negSucc 27)]), (25, [.aload_n 0, .getfield 9, .iload_n 3, .iaload]), (31, [.ireturn])] (by decide +kernel) 58 (And.intro (fun q394 => (h.1 q394)) (fun q395 => And.intro (h.2 q395).1 (And.intro ⟨Nat.le_of_ble_eq_true rfl, rfl, rfl⟩ (s_X6_isOpen (d := d) (h.2 q395).2.1 (And.intro (fun q396 => ((h.2 q395).2.2.1 (b2_0 q396))) (fun q397 => And.intro ((h.2 q395).2.2.2 (b2_n q397)).1 (((h.2 q395).2.2.2 (b2_n q397)).2)))))))

theorem r_X3_topAt_0 {gl : Nat} {gx : Nat → Int32} {d : Nat} {P : PL} {Q : PO} {mi : MI} {w : WS} {lv : LV} {i1 : Nat} {x2 : Int32} (h : Wp gl gx (d + 1) P 57 7 [aR 2 0, aR 5 i1, aI x2, aI ((mi 2 0 6) - 1)] [] (mi, RS w, lv) Q) : Wp gl gx (d + 1) P 57 0 [aR 2 0, aR 5 i1, aI x2, aU] [] (mi, RS w, lv) Q := 
  wpT row_57 mt_57 [.aload_n 0, .getfield 31, .iconst 1, .isub, .istore_n 3] (by decide +kernel) [] (by decide +kernel) 30 (h)

def L_X3_topAt_7 (mi : MI) (w : WS) : Nat → Nat → Int32 → Int32 → Option Int32
  | 0, _, _, _ => none
  | n + 1, i1, x2, x3 => if x3 < 0 then some (-1 : Int32) else ck (¬ (x3 < 0 ∨ 6 ≤ x3.toNatClampNeg)) (ck (¬ ((mi 42 0 x3.toNatClampNeg) < 0 ∨ 6 ≤ (mi 42 0 x3.toNatClampNeg).toNatClampNeg)) (if ¬ (((mi 28 i1 (nt (mi 42 0 x3.toNatClampNeg))) >>> (x2 &&& 31)) &&& 1) = 0 then ck (¬ (x3 < 0 ∨ 6 ≤ x3.toNatClampNeg)) (some (mi 42 0 x3.toNatClampNeg)) else L_X3_topAt_7 mi w n i1 x2 (x3 + (-1))))

theorem l_X3_topAt_7 {gl : Nat} {gx : Nat → Int32} {d : Nat} {P : PL} {Q : PO} {lv : LV} {mi : MI} {w : WS} (n : Nat) : ∀ {i1 : Nat} {x2 : Int32} {x3 : Int32} {r : Int32}, L_X3_topAt_7 mi w n i1 x2 x3 = some r → (Q (aI r) (mi, RS w, lv)) → Wp gl gx (d + 1) P 57 7 [aR 2 0, aR 5 i1, aI x2, aI x3] [] (mi, RS w, lv) Q := by
  induction n with
  | zero => intro i1 x2 x3 r hf h0; exact o_none hf
  | succ n ih => intro i1 x2 x3 r hf h0; exact r_X3_topAt_7 (⟨fun q398 => k_ifp q398 hf (fun q400 => o_rP q400 h0), fun q399 => k_ifn q399 hf (fun q400 => k_ck q400 (fun q402 q401 => ⟨q402, k_ck q401 (fun q404 q403 => ⟨q404, ⟨fun q405 => k_ifn q405 q403 (fun q407 => ih q407 h0), fun q406 => k_ifp q406 q403 (fun q407 => k_ck q407 (fun q409 q408 => ⟨q409, o_rP q408 h0⟩))⟩⟩)⟩))⟩)

def F_X3_topAt (mi : MI) (w : WS) (i1 : Nat) (x2 : Int32) : Option Int32 := L_X3_topAt_7 mi w 1000000 i1 x2 ((mi 2 0 6) - 1)

theorem s_X3_topAt {gl : Nat} {gx : Nat → Int32} {d : Nat} {P : PL} {Q : PO} {mi : MI} {w : WS} {lv : LV} {i1 : Nat} {x2 : Int32} {r : Int32} (hf : F_X3_topAt mi w i1 x2 = some r) (h0 : Q (aI r) (mi, RS w, lv)) : Wp gl gx (d + 1) P 57 0 [aR 2 0, aR 5 i1, aI x2, aU] [] (mi, RS w, lv) Q := r_X3_topAt_0 (l_X3_topAt_7 1000000 hf h0)

abbrev row_58 : MT := (⟨"StencilHouse$Orders", "clearTops", "()V"⟩, prog_5_method_19_code, 2, none, 1, lk_3)
set_option maxRecDepth 20000 in
theorem mt_58 : mt 58 = some row_58 := rfl
theorem r_X3_clearTops_2 {gl : Nat} {gx : Nat → Int32} {d : Nat} {P : PL} {Q : PO} {mi : MI} {w : WS} {lv : LV} {x1 : Int32} (h : ((175 ≤ x1) → Q aU (mi, RS w, lv)) ∧ (¬ (175 ≤ x1) → (vp_in x1 175) ∧ ((∀ m29 : MI, m29 = u3 mi 46 0 x1.toNatClampNeg 0 → Wp gl gx d P 58 2 [aR 2 0, aI (x1 + 1)] [] (m29, RS w, lv) Q)))) : Wp gl gx d P 58 2 [aR 2 0, aI x1] [] (mi, RS w, lv) Q := 
  wpT row_58 mt_58 [.iload_n 1, .aload_n 0, .getfield 24, .arraylength, .if_icmp .ge 16] (by decide +kernel) [(24, [.return_]), (11, [.aload_n 0, .getfield 24, .iload_n 1, .iconst 0, .iastore]), (18, [.iinc 1 1, .goto (.negSucc 18)])] (by decide +kernel) 46 (And.intro (fun q410 => (h.1 q410)) (fun q411 => And.intro (h.2 q411).1 (((h.2 q411).2 _ rfl))))

theorem r_X3_clearTops_0 {gl : Nat} {gx : Nat → Int32} {d : Nat} {P : PL} {Q : PO} {mi : MI} {w : WS} {lv : LV}  (h : Wp gl gx d P 58 2 [aR 2 0, aI 0] [] (mi, RS w, lv) Q) : Wp gl gx d P 58 0 [aR 2 0, aU] [] (mi, RS w, lv) Q := 
  wpT row_58 mt_58 [.iconst 0, .istore_n 1] (by decide +kernel) [] (by decide +kernel) 24 (h)

def L_X3_clearTops_2 (w : WS) : Nat → MI → Int32 → Option MI
  | 0, _, _ => none
  | n + 1, mi, x1 => if 175 ≤ x1 then some mi else ck (¬ (x1 < 0 ∨ 175 ≤ x1.toNatClampNeg)) (lt (u3 mi 46 0 x1.toNatClampNeg 0) fun m29 => L_X3_clearTops_2 w n m29 (x1 + 1))

theorem l_X3_clearTops_2 {gl : Nat} {gx : Nat → Int32} {d : Nat} {P : PL} {Q : PO} {lv : LV} {w : WS} (n : Nat) : ∀ {mi : MI} {x1 : Int32} {r : MI}, L_X3_clearTops_2 w n mi x1 = some r → (Q aU (r, RS w, lv)) → Wp gl gx d P 58 2 [aR 2 0, aI x1] [] (mi, RS w, lv) Q := by
  induction n with
  | zero => intro mi x1 r hf h0; exact o_none hf
  | succ n ih => intro mi x1 r hf h0; exact r_X3_clearTops_2 (⟨fun q412 => k_ifp q412 hf (fun q414 => o_rMV q414 h0), fun q413 => k_ifn q413 hf (fun q414 => k_ck q414 (fun q416 q415 => ⟨q416, fun m29 hm29 => k_lt q415 hm29 (fun q417 => ih q417 h0)⟩))⟩)

def F_X3_clearTops (mi : MI) (w : WS)  : Option MI := L_X3_clearTops_2 w 1000000 mi 0

theorem s_X3_clearTops {gl : Nat} {gx : Nat → Int32} {d : Nat} {P : PL} {Q : PO} {mi : MI} {w : WS} {lv : LV}  {r : MI} (hf : F_X3_clearTops mi w  = some r) (h0 : Q aU (r, RS w, lv)) : Wp gl gx d P 58 0 [aR 2 0, aU] [] (mi, RS w, lv) Q := r_X3_clearTops_0 (l_X3_clearTops_2 1000000 hf h0)

abbrev row_59 : MT := (⟨"StencilHouse$Orders", "countTops", "(LStencilHouse$Shop;)V"⟩, prog_5_method_20_code, 5, none, 1, lk_3)
set_option maxRecDepth 20000 in
theorem mt_59 : mt 59 = some row_59 := rfl
theorem r_X3_countTops_46 {gl : Nat} {gx : Nat → Int32} {d : Nat} {P : PL} {Q : PO} {mi : MI} {w : WS} {lv : LV} {i1 : Nat} {x2 : Int32} {x3 : Int32} {x4 : Int32} {s0 : Int32} {s1 : Int32} (h : (vp_in (s1 + s0) 175) ∧ ((vp_in (s1 + s0) 175) ∧ ((∀ m31 : MI, m31 = u3 mi 46 0 ((s1 + s0).toNatClampNeg) ((mi 46 0 ((s1 + s0).toNatClampNeg)) + 1) → Wp gl gx (d + 2) P 59 12 [aR 2 0, aR 5 i1, aI x2, aI (x3 + 1), aI x4] [] (m31, RS w, lv) Q)))) : Wp gl gx (d + 2) P 59 46 [aR 2 0, aR 5 i1, aI x2, aI x3, aI x4] [aI s0, aI s1, aR 46 0] (mi, RS w, lv) Q := 
  wpT row_59 mt_59 [.iadd, .dup2, .iaload] (by decide +kernel) [(49, [.iconst 1, .iadd, .iastore]), (52, [.iinc 3 1, .goto (.negSucc 42)])] (by decide +kernel) 36 (And.intro h.1 (And.intro h.2.1 ((h.2.2 _ rfl))))

theorem r_X3_countTops_12 {gl : Nat} {gx : Nat → Int32} {d : Nat} {P : PL} {Q : PO} {mi : MI} {w : WS} {lv : LV} {i1 : Nat} {x2 : Int32} {x3 : Int32} {v4 : AV} (h : ((x2 ≤ x3) → Q aU (mi, RS w, lv)) ∧ (¬ (x2 ≤ x3) → (∃ c30 : Int32, F_X3_topAt mi w i1 x3 = some c30 ∧ (vp_in ((x3 * 7) + (if c30 = (-1) then 6 else c30)) 175) ∧ ((vp_in ((x3 * 7) + (if c30 = (-1) then 6 else c30)) 175) ∧ ((∀ m31 : MI, m31 = u3 mi 46 0 (((x3 * 7) + (if c30 = (-1) then 6 else c30)).toNatClampNeg) ((mi 46 0 (((x3 * 7) + (if c30 = (-1) then 6 else c30)).toNatClampNeg)) + 1) → Wp gl gx (d + 2) P 59 12 [aR 2 0, aR 5 i1, aI x2, aI (x3 + 1), aI c30] [] (m31, RS w, lv) Q)))))) : Wp gl gx (d + 2) P 59 12 [aR 2 0, aR 5 i1, aI x2, aI x3, v4] [] (mi, RS w, lv) Q := 
  wpT row_59 mt_59 [.iload_n 3, .iload_n 2, .if_icmp .ge 44] (by decide +kernel) [(58, [.return_]), (17, [.aload_n 0, .aload_n 1, .iload_n 3, .invokevirtual 138]), (23, [.istore 4, .aload_n 0, .getfield 24, .iload_n 3, .bipush 7, .imul, .iload 4, .iconst (.negSucc 0), .if_icmp .ne 8]), (44, [.iload 4]), (39, [.bipush 6, .goto 5])] (by decide +kernel) 60 (And.intro (fun q418 => (h.1 q418)) (fun q419 => Exists.elim (h.2 q419) (fun c30 zc30 => And.intro ⟨Nat.le_of_ble_eq_true rfl, rfl, rfl⟩ (s_X3_topAt (d := d) zc30.1 (And.intro (fun q420 => r_X3_countTops_46 (i1 := i1) (x2 := x2) (x3 := x3) (x4 := c30) (s0 := c30) (s1 := (x3 * 7)) (mi := mi) (mv9 (fun v => (vp_in ((x3 * 7) + v) 175) ∧ ((vp_in ((x3 * 7) + v) 175) ∧ ((∀ m31 : MI, m31 = u3 mi 46 0 (((x3 * 7) + v).toNatClampNeg) ((mi 46 0 (((x3 * 7) + v).toNatClampNeg)) + 1) → Wp gl gx (d + 2) P 59 12 [aR 2 0, aR 5 i1, aI x2, aI (x3 + 1), aI c30] [] (m31, RS w, lv) Q)))) (show (if c30 = (-1) then 6 else c30) = c30 from if_neg (show ¬ (c30 = (-1)) from q420)) zc30.2)) (fun q421 => r_X3_countTops_46 (i1 := i1) (x2 := x2) (x3 := x3) (x4 := c30) (s0 := 6) (s1 := (x3 * 7)) (mi := mi) (mv9 (fun v => (vp_in ((x3 * 7) + v) 175) ∧ ((vp_in ((x3 * 7) + v) 175) ∧ ((∀ m31 : MI, m31 = u3 mi 46 0 (((x3 * 7) + v).toNatClampNeg) ((mi 46 0 (((x3 * 7) + v).toNatClampNeg)) + 1) → Wp gl gx (d + 2) P 59 12 [aR 2 0, aR 5 i1, aI x2, aI (x3 + 1), aI c30] [] (m31, RS w, lv) Q)))) (show (if c30 = (-1) then 6 else c30) = 6 from if_pos (show c30 = (-1) from q421)) zc30.2)))))))

theorem r_X3_countTops_0 {gl : Nat} {gx : Nat → Int32} {d : Nat} {P : PL} {Q : PO} {mi : MI} {w : WS} {lv : LV} {i1 : Nat} (h : Wp gl gx (d + 2) P 59 12 [aR 2 0, aR 5 i1, aI ((mi 5 i1 0) * (mi 5 i1 1)), aI 0, aU] [] (mi, RS w, lv) Q) : Wp gl gx (d + 2) P 59 0 [aR 2 0, aR 5 i1, aU, aU, aU] [] (mi, RS w, lv) Q := 
  wpT row_59 mt_59 [.aload_n 1, .getfield 135, .aload_n 1, .getfield 147, .imul, .istore_n 2, .iconst 0, .istore_n 3] (by decide +kernel) [] (by decide +kernel) 36 (h)

def L_X3_countTops_12 (w : WS) : Nat → MI → Nat → Int32 → Int32 → Option MI
  | 0, _, _, _, _ => none
  | n + 1, mi, i1, x2, x3 => if x2 ≤ x3 then some mi else (F_X3_topAt mi w i1 x3).bind fun c30 => ck (¬ (((x3 * 7) + (if c30 = (-1) then 6 else c30)) < 0 ∨ 175 ≤ ((x3 * 7) + (if c30 = (-1) then 6 else c30)).toNatClampNeg)) (ck (¬ (((x3 * 7) + (if c30 = (-1) then 6 else c30)) < 0 ∨ 175 ≤ ((x3 * 7) + (if c30 = (-1) then 6 else c30)).toNatClampNeg)) (lt (u3 mi 46 0 (((x3 * 7) + (if c30 = (-1) then 6 else c30)).toNatClampNeg) ((mi 46 0 (((x3 * 7) + (if c30 = (-1) then 6 else c30)).toNatClampNeg)) + 1)) fun m31 => L_X3_countTops_12 w n m31 i1 x2 (x3 + 1)))

theorem l_X3_countTops_12 {gl : Nat} {gx : Nat → Int32} {d : Nat} {P : PL} {Q : PO} {lv : LV} {w : WS} (n : Nat) : ∀ {mi : MI} {i1 : Nat} {x2 : Int32} {x3 : Int32} {v4 : AV} {r : MI}, L_X3_countTops_12 w n mi i1 x2 x3 = some r → (Q aU (r, RS w, lv)) → Wp gl gx (d + 2) P 59 12 [aR 2 0, aR 5 i1, aI x2, aI x3, v4] [] (mi, RS w, lv) Q := by
  induction n with
  | zero => intro mi i1 x2 x3 v4 r hf h0; exact o_none hf
  | succ n ih => intro mi i1 x2 x3 v4 r hf h0; exact r_X3_countTops_12 (⟨fun q422 => k_ifp q422 hf (fun q424 => o_rMV q424 h0), fun q423 => k_ifn q423 hf (fun q424 => o_bind q424 (fun c30 qc30 pc30 => ⟨c30, qc30, k_ck pc30 (fun q426 q425 => ⟨q426, k_ck q425 (fun q428 q427 => ⟨q428, fun m31 hm31 => k_lt q427 hm31 (fun q429 => ih q429 h0)⟩)⟩)⟩))⟩)

def F_X3_countTops (mi : MI) (w : WS) (i1 : Nat) : Option MI := L_X3_countTops_12 w 1000000 mi i1 ((mi 5 i1 0) * (mi 5 i1 1)) 0

theorem s_X3_countTops {gl : Nat} {gx : Nat → Int32} {d : Nat} {P : PL} {Q : PO} {mi : MI} {w : WS} {lv : LV} {i1 : Nat} {r : MI} (hf : F_X3_countTops mi w i1 = some r) (h0 : Q aU (r, RS w, lv)) : Wp gl gx (d + 2) P 59 0 [aR 2 0, aR 5 i1, aU, aU, aU] [] (mi, RS w, lv) Q := r_X3_countTops_0 (l_X3_countTops_12 1000000 hf h0)

abbrev row_60 : MT := (⟨"StencilHouse$Orders", "cellToAsk", "(LStencilHouse$Shop;)I"⟩, prog_5_method_21_code, 8, some .int, 1, lk_3)
set_option maxRecDepth 20000 in
theorem mt_60 : mt 60 = some row_60 := rfl
theorem r_X3_cellToAsk_78 {gl : Nat} {gx : Nat → Int32} {d : Nat} {P : PL} {Q : PO} {mi : MI} {w : WS} {lv : LV} {i1 : Nat} {x2 : Int32} {x3 : Int32} {x4 : Int32} {x5 : Int32} {x6 : Int32} {x7 : Int32} (h : Wp gl gx (d + 1) P 60 20 [aR 2 0, aR 5 i1, aI x2, aI x3, aI x4, aI (x5 + 1), aI x6, aI x7] [] (mi, RS w, lv) Q) : Wp gl gx (d + 1) P 60 78 [aR 2 0, aR 5 i1, aI x2, aI x3, aI x4, aI x5, aI x6, aI x7] [] (mi, RS w, lv) Q := 
  wpT row_60 mt_60 [.iinc 5 1, .goto (.negSucc 60)] (by decide +kernel) [] (by decide +kernel) 24 (h)

theorem r_X3_cellToAsk_33 {gl : Nat} {gx : Nat → Int32} {d : Nat} {P : PL} {Q : PO} {mi : MI} {w : WS} {lv : LV} {i1 : Nat} {x2 : Int32} {x3 : Int32} {x4 : Int32} {x5 : Int32} {x6 : Int32} {x7 : Int32} (h : ((7 ≤ x7) → ((x3 ≤ x6) → Wp gl gx (d + 1) P 60 20 [aR 2 0, aR 5 i1, aI x2, aI x3, aI x4, aI (x5 + 1), aI x6, aI x7] [] (mi, RS w, lv) Q) ∧ (¬ (x3 ≤ x6) → Wp gl gx (d + 1) P 60 20 [aR 2 0, aR 5 i1, aI x5, aI x6, aI x4, aI (x5 + 1), aI x6, aI x7] [] (mi, RS w, lv) Q)) ∧ (¬ (7 ≤ x7) → (vp_in ((x5 * 7) + x7) 175) ∧ (Wp gl gx (d + 1) P 60 33 [aR 2 0, aR 5 i1, aI x2, aI x3, aI x4, aI x5, aI (imax x6 (mi 46 0 (((x5 * 7) + x7).toNatClampNeg))), aI (x7 + 1)] [] (mi, RS w, lv) Q))) : Wp gl gx (d + 1) P 60 33 [aR 2 0, aR 5 i1, aI x2, aI x3, aI x4, aI x5, aI x6, aI x7] [] (mi, RS w, lv) Q := 
  wpT row_60 mt_60 [.iload 7, .bipush 7, .if_icmp .ge 29] (by decide +kernel) [(66, [.iload 6, .iload_n 3, .if_icmp .ge 9]), (72, [.iload 6, .istore_n 3, .iload 5, .istore_n 2]), (40, [.iload 6, .aload_n 0, .getfield 24, .iload 5, .bipush 7, .imul, .iload 7, .iadd, .iaload]), (55, [.invokestatic 150]), (58, [.istore 6, .iinc 7 1, .goto (.negSucc 29)])] (by decide +kernel) 66 (And.intro (fun q430 => And.intro (fun q432 => r_X3_cellToAsk_78 (i1 := i1) (x2 := x2) (x3 := x3) (x4 := x4) (x5 := x5) (x6 := x6) (x7 := x7) (mi := mi) ((h.1 q430).1 q432)) (fun q433 => r_X3_cellToAsk_78 (i1 := i1) (x2 := x5) (x3 := x6) (x4 := x4) (x5 := x5) (x6 := x6) (x7 := x7) (mi := mi) ((h.1 q430).2 q433))) (fun q431 => And.intro (h.2 q431).1 (And.intro (Nat.le_of_ble_eq_true rfl) ((h.2 q431).2))))

theorem r_X3_cellToAsk_20 {gl : Nat} {gx : Nat → Int32} {d : Nat} {P : PL} {Q : PO} {mi : MI} {w : WS} {lv : LV} {i1 : Nat} {x2 : Int32} {x3 : Int32} {x4 : Int32} {x5 : Int32} {v6 : AV} {v7 : AV} (h : ((x4 ≤ x5) → Q (aI x2) (mi, RS w, lv)) ∧ (¬ (x4 ≤ x5) → Wp gl gx (d + 1) P 60 33 [aR 2 0, aR 5 i1, aI x2, aI x3, aI x4, aI x5, aI 0, aI 0] [] (mi, RS w, lv) Q)) : Wp gl gx (d + 1) P 60 20 [aR 2 0, aR 5 i1, aI x2, aI x3, aI x4, aI x5, v6, v7] [] (mi, RS w, lv) Q := 
  wpT row_60 mt_60 [.iload 5, .iload 4, .if_icmp .ge 60] (by decide +kernel) [(84, [.iload_n 2, .ireturn]), (27, [.iconst 0, .istore 6, .iconst 0, .istore 7])] (by decide +kernel) 38 (And.intro (fun q434 => (h.1 q434)) (fun q435 => (h.2 q435)))

theorem r_X3_cellToAsk_0 {gl : Nat} {gx : Nat → Int32} {d : Nat} {P : PL} {Q : PO} {mi : MI} {w : WS} {lv : LV} {i1 : Nat} (h : Wp gl gx (d + 1) P 60 20 [aR 2 0, aR 5 i1, aI (-1), aI 721, aI ((mi 5 i1 0) * (mi 5 i1 1)), aI 0, aU, aU] [] (mi, RS w, lv) Q) : Wp gl gx (d + 1) P 60 0 [aR 2 0, aR 5 i1, aU, aU, aU, aU, aU, aU] [] (mi, RS w, lv) Q := 
  wpT row_60 mt_60 [.iconst (.negSucc 0), .istore_n 2, .sipush 721, .istore_n 3, .aload_n 1, .getfield 135, .aload_n 1, .getfield 147, .imul, .istore 4, .iconst 0, .istore 5] (by decide +kernel) [] (by decide +kernel) 44 (h)

def L_X3_cellToAsk_33 (mi : MI) (w : WS) (k20 : Nat → Int32 → Int32 → Int32 → Int32 → Option Int32) : Nat → Nat → Int32 → Int32 → Int32 → Int32 → Int32 → Int32 → Option Int32
  | 0, _, _, _, _, _, _, _ => none
  | n + 1, i1, x2, x3, x4, x5, x6, x7 => if 7 ≤ x7 then if x3 ≤ x6 then k20 i1 x2 x3 x4 (x5 + 1) else k20 i1 x5 x6 x4 (x5 + 1) else ck (¬ (((x5 * 7) + x7) < 0 ∨ 175 ≤ ((x5 * 7) + x7).toNatClampNeg)) (L_X3_cellToAsk_33 mi w k20 n i1 x2 x3 x4 x5 (imax x6 (mi 46 0 (((x5 * 7) + x7).toNatClampNeg))) (x7 + 1))

theorem l_X3_cellToAsk_33 {gl : Nat} {gx : Nat → Int32} {d : Nat} {P : PL} {Q : PO} {lv : LV} {mi : MI} {w : WS} {k20 : Nat → Int32 → Int32 → Int32 → Int32 → Option Int32} (hk20 : ∀ {i1 : Nat} {x2 : Int32} {x3 : Int32} {x4 : Int32} {x5 : Int32} {v6 : AV} {v7 : AV} {r : Int32}, k20 i1 x2 x3 x4 x5 = some r → (Q (aI r) (mi, RS w, lv)) → Wp gl gx (d + 1) P 60 20 [aR 2 0, aR 5 i1, aI x2, aI x3, aI x4, aI x5, v6, v7] [] (mi, RS w, lv) Q) (n : Nat) : ∀ {i1 : Nat} {x2 : Int32} {x3 : Int32} {x4 : Int32} {x5 : Int32} {x6 : Int32} {x7 : Int32} {r : Int32}, L_X3_cellToAsk_33 mi w k20 n i1 x2 x3 x4 x5 x6 x7 = some r → (Q (aI r) (mi, RS w, lv)) → Wp gl gx (d + 1) P 60 33 [aR 2 0, aR 5 i1, aI x2, aI x3, aI x4, aI x5, aI x6, aI x7] [] (mi, RS w, lv) Q := by
  induction n with
  | zero => intro i1 x2 x3 x4 x5 x6 x7 r hf h0; exact o_none hf
  | succ n ih => intro i1 x2 x3 x4 x5 x6 x7 r hf h0; exact r_X3_cellToAsk_33 (⟨fun q436 => k_ifp q436 hf (fun q438 => ⟨fun q439 => k_ifp q439 q438 (fun q441 => hk20 q441 h0), fun q440 => k_ifn q440 q438 (fun q441 => hk20 q441 h0)⟩), fun q437 => k_ifn q437 hf (fun q438 => k_ck q438 (fun q443 q442 => ⟨q443, ih q442 h0⟩))⟩)

def L_X3_cellToAsk_20 (mi : MI) (w : WS) : Nat → Nat → Int32 → Int32 → Int32 → Int32 → Option Int32
  | 0, _, _, _, _, _ => none
  | n + 1, i1, x2, x3, x4, x5 => if x4 ≤ x5 then some x2 else L_X3_cellToAsk_33 mi w (fun i1 x2 x3 x4 x5 => L_X3_cellToAsk_20 mi w n i1 x2 x3 x4 x5) 1000000 i1 x2 x3 x4 x5 0 0

theorem l_X3_cellToAsk_20 {gl : Nat} {gx : Nat → Int32} {d : Nat} {P : PL} {Q : PO} {lv : LV} {mi : MI} {w : WS} (n : Nat) : ∀ {i1 : Nat} {x2 : Int32} {x3 : Int32} {x4 : Int32} {x5 : Int32} {v6 : AV} {v7 : AV} {r : Int32}, L_X3_cellToAsk_20 mi w n i1 x2 x3 x4 x5 = some r → (Q (aI r) (mi, RS w, lv)) → Wp gl gx (d + 1) P 60 20 [aR 2 0, aR 5 i1, aI x2, aI x3, aI x4, aI x5, v6, v7] [] (mi, RS w, lv) Q := by
  induction n with
  | zero => intro i1 x2 x3 x4 x5 v6 v7 r hf h0; exact o_none hf
  | succ n ih => intro i1 x2 x3 x4 x5 v6 v7 r hf h0; exact r_X3_cellToAsk_20 (⟨fun q444 => k_ifp q444 hf (fun q446 => o_rP q446 h0), fun q445 => k_ifn q445 hf (fun q446 => l_X3_cellToAsk_33 (fun hf h0 => ih hf h0) 1000000 q446 h0)⟩)

def F_X3_cellToAsk (mi : MI) (w : WS) (i1 : Nat) : Option Int32 := L_X3_cellToAsk_20 mi w 1000000 i1 (-1) 721 ((mi 5 i1 0) * (mi 5 i1 1)) 0

theorem s_X3_cellToAsk {gl : Nat} {gx : Nat → Int32} {d : Nat} {P : PL} {Q : PO} {mi : MI} {w : WS} {lv : LV} {i1 : Nat} {r : Int32} (hf : F_X3_cellToAsk mi w i1 = some r) (h0 : Q (aI r) (mi, RS w, lv)) : Wp gl gx (d + 1) P 60 0 [aR 2 0, aR 5 i1, aU, aU, aU, aU, aU, aU] [] (mi, RS w, lv) Q := r_X3_cellToAsk_0 (l_X3_cellToAsk_20 1000000 hf h0)

abbrev row_4 : MT := (⟨"StencilHouse$Figures", "fewestPatches", "(LStencilHouse$Shop;I)I"⟩, prog_3_method_2_code, 4, some .int, 0, lk_1)
set_option maxRecDepth 20000 in
theorem mt_4 : mt 4 = some row_4 := rfl
theorem r_X1_fewestPatches_2 {gl : Nat} {gx : Nat → Int32} {d : Nat} {P : PL} {Q : PO} {mi : MI} {w : WS} {lv : LV} {i0 : Nat} {x1 : Int32} {x2 : Int32} {v3 : AV} (h : ((3 < x2) → Q (aI (-1)) (mi, RS w, lv)) ∧ (¬ (3 < x2) → (∃ c32 : Int32, F_X1_leastPatches mi w 16 i0 x1 x2 25 = some c32 ∧ ((c32 = (-1)) → Wp gl gx (d + 20) P 4 2 [aR 5 i0, aI x1, aI (x2 + 1), aI c32] [] (mi, RS w, lv) Q) ∧ (¬ (c32 = (-1)) → Q (aI c32) (mi, RS w, lv))))) : Wp gl gx (d + 20) P 4 2 [aR 5 i0, aI x1, aI x2, v3] [] (mi, RS w, lv) Q := 
  wpT row_4 mt_4 [.iload_n 2, .iconst 3, .if_icmp .gt 25] (by decide +kernel) [(29, [.iconst (.negSucc 0), .ireturn]), (7, [.aload_n 0, .iload_n 1, .iload_n 2, .bipush 25, .invokestatic 9]), (15, [.istore_n 3, .iload_n 3, .iconst (.negSucc 0), .if_icmp .eq 5]), (23, [.iinc 2 1, .goto (.negSucc 23)]), (21, [.iload_n 3, .ireturn])] (by decide +kernel) 56 (And.intro (fun q447 => (h.1 q447)) (fun q448 => Exists.elim (h.2 q448) (fun c32 zc32 => And.intro ⟨Nat.le_of_ble_eq_true rfl, rfl, rfl⟩ (s_X1_leastPatches (d := d) zc32.1 (And.intro (fun q449 => (zc32.2.1 q449)) (fun q450 => (zc32.2.2 q450)))))))

theorem r_X1_fewestPatches_0 {gl : Nat} {gx : Nat → Int32} {d : Nat} {P : PL} {Q : PO} {mi : MI} {w : WS} {lv : LV} {i0 : Nat} {x1 : Int32} (h : Wp gl gx (d + 20) P 4 2 [aR 5 i0, aI x1, aI 0, aU] [] (mi, RS w, lv) Q) : Wp gl gx (d + 20) P 4 0 [aR 5 i0, aI x1, aU, aU] [] (mi, RS w, lv) Q := 
  wpT row_4 mt_4 [.iconst 0, .istore_n 2] (by decide +kernel) [] (by decide +kernel) 24 (h)

def L_X1_fewestPatches_2 (mi : MI) (w : WS) : Nat → Nat → Int32 → Int32 → Option Int32
  | 0, _, _, _ => none
  | n + 1, i0, x1, x2 => if 3 < x2 then some (-1 : Int32) else (F_X1_leastPatches mi w 16 i0 x1 x2 25).bind fun c32 => if c32 = (-1) then L_X1_fewestPatches_2 mi w n i0 x1 (x2 + 1) else some c32

theorem l_X1_fewestPatches_2 {gl : Nat} {gx : Nat → Int32} {d : Nat} {P : PL} {Q : PO} {lv : LV} {mi : MI} {w : WS} (n : Nat) : ∀ {i0 : Nat} {x1 : Int32} {x2 : Int32} {v3 : AV} {r : Int32}, L_X1_fewestPatches_2 mi w n i0 x1 x2 = some r → (Q (aI r) (mi, RS w, lv)) → Wp gl gx (d + 20) P 4 2 [aR 5 i0, aI x1, aI x2, v3] [] (mi, RS w, lv) Q := by
  induction n with
  | zero => intro i0 x1 x2 v3 r hf h0; exact o_none hf
  | succ n ih => intro i0 x1 x2 v3 r hf h0; exact r_X1_fewestPatches_2 (⟨fun q451 => k_ifp q451 hf (fun q453 => o_rP q453 h0), fun q452 => k_ifn q452 hf (fun q453 => o_bind q453 (fun c32 qc32 pc32 => ⟨c32, qc32, ⟨fun q454 => k_ifp q454 pc32 (fun q456 => ih q456 h0), fun q455 => k_ifn q455 pc32 (fun q456 => o_rP q456 h0)⟩⟩))⟩)

def F_X1_fewestPatches (mi : MI) (w : WS) (i0 : Nat) (x1 : Int32) : Option Int32 := L_X1_fewestPatches_2 mi w 1000000 i0 x1 0

theorem s_X1_fewestPatches {gl : Nat} {gx : Nat → Int32} {d : Nat} {P : PL} {Q : PO} {mi : MI} {w : WS} {lv : LV} {i0 : Nat} {x1 : Int32} {r : Int32} (hf : F_X1_fewestPatches mi w i0 x1 = some r) (h0 : Q (aI r) (mi, RS w, lv)) : Wp gl gx (d + 20) P 4 0 [aR 5 i0, aI x1, aU, aU] [] (mi, RS w, lv) Q := r_X1_fewestPatches_0 (l_X1_fewestPatches_2 1000000 hf h0)

abbrev row_7 : MT := (⟨"StencilHouse$Figures", "mostApart", "(LStencilHouse$Shop;)I"⟩, prog_3_method_5_code, 4, some .int, 0, lk_1)
set_option maxRecDepth 20000 in
theorem mt_7 : mt 7 = some row_7 := rfl
theorem r_X1_mostApart_35 {gl : Nat} {gx : Nat → Int32} {d : Nat} {P : PL} {Q : PO} {mi : MI} {w : WS} {lv : LV} {i0 : Nat} {x1 : Int32} {x2 : Int32} {x3 : Int32} (h : Wp gl gx (d + 1) P 7 9 [aR 5 i0, aI x1, aI x2, aI (x3 + 1)] [] (mi, RS w, lv) Q) : Wp gl gx (d + 1) P 7 35 [aR 5 i0, aI x1, aI x2, aI x3] [] (mi, RS w, lv) Q := 
  wpT row_7 mt_7 [.iinc 3 1, .goto (.negSucc 28)] (by decide +kernel) [] (by decide +kernel) 24 (h)

theorem r_X1_mostApart_9 {gl : Nat} {gx : Nat → Int32} {d : Nat} {P : PL} {Q : PO} {mi : MI} {w : WS} {lv : LV} {i0 : Nat} {x1 : Int32} {x2 : Int32} {x3 : Int32} (h : ((x1 < x3) → Q (aI x2) (mi, RS w, lv)) ∧ (¬ (x1 < x3) → (((pop32 x3) ≤ (pop32 x2)) → Wp gl gx (d + 1) P 7 9 [aR 5 i0, aI x1, aI x2, aI (x3 + 1)] [] (mi, RS w, lv) Q) ∧ (¬ ((pop32 x3) ≤ (pop32 x2)) → (∃ c33 : Int32, F_X1_liesApart mi w i0 x3 = some c33 ∧ Wp gl gx (d + 1) P 7 9 [aR 5 i0, aI x1, aI (if c33 = 0 then x2 else x3), aI (x3 + 1)] [] (mi, RS w, lv) Q)))) : Wp gl gx (d + 1) P 7 9 [aR 5 i0, aI x1, aI x2, aI x3] [] (mi, RS w, lv) Q := 
  wpT row_7 mt_7 [.iload_n 3, .iload_n 1, .if_icmp .gt 30] (by decide +kernel) [(41, [.iload_n 2, .ireturn]), (14, [.iload_n 3, .invokestatic 28]), (18, [.iload_n 2, .invokestatic 28]), (22, [.if_icmp .le 13]), (25, [.aload_n 0, .iload_n 3, .invokestatic 33]), (30, [.ifCond .eq 5]), (33, [.iload_n 3, .istore_n 2])] (by decide +kernel) 52 (And.intro (fun q457 => (h.1 q457)) (fun q458 => And.intro ⟨Nat.le_of_ble_eq_true rfl, rfl, rfl⟩ (s_J6_bitCount_0f7a4 (d := d) (And.intro ⟨Nat.le_of_ble_eq_true rfl, rfl, rfl⟩ (s_J6_bitCount_0f7a4 (d := d) (And.intro (fun q459 => r_X1_mostApart_35 (i0 := i0) (x1 := x1) (x2 := x2) (x3 := x3) (mi := mi) ((h.2 q458).1 q459)) (fun q460 => Exists.elim ((h.2 q458).2 q460) (fun c33 zc33 => And.intro ⟨Nat.le_of_ble_eq_true rfl, rfl, rfl⟩ (s_X1_liesApart (d := d) zc33.1 (And.intro (fun q461 => r_X1_mostApart_35 (i0 := i0) (x1 := x1) (x2 := x2) (x3 := x3) (mi := mi) (mv9 (fun v => Wp gl gx (d + 1) P 7 9 [aR 5 i0, aI x1, aI v, aI (x3 + 1)] [] (mi, RS w, lv) Q) (show (if c33 = 0 then x2 else x3) = x2 from if_pos (show c33 = 0 from q461)) zc33.2)) (fun q462 => r_X1_mostApart_35 (i0 := i0) (x1 := x1) (x2 := x3) (x3 := x3) (mi := mi) (mv9 (fun v => Wp gl gx (d + 1) P 7 9 [aR 5 i0, aI x1, aI v, aI (x3 + 1)] [] (mi, RS w, lv) Q) (show (if c33 = 0 then x2 else x3) = x3 from if_neg (show ¬ (c33 = 0) from q462)) zc33.2))))))))))))

theorem r_X1_mostApart_0 {gl : Nat} {gx : Nat → Int32} {d : Nat} {P : PL} {Q : PO} {mi : MI} {w : WS} {lv : LV} {i0 : Nat} (h : Wp gl gx (d + 1) P 7 9 [aR 5 i0, aI (f_X6_everySheet mi i0), aI 0, aI 0] [] (mi, RS w, lv) Q) : Wp gl gx (d + 1) P 7 0 [aR 5 i0, aU, aU, aU] [] (mi, RS w, lv) Q := 
  wpT row_7 mt_7 [.aload_n 0, .invokevirtual 21] (by decide +kernel) [(4, [.istore_n 1, .iconst 0, .istore_n 2, .iconst 0, .istore_n 3])] (by decide +kernel) 34 (And.intro ⟨Nat.le_of_ble_eq_true rfl, rfl, rfl⟩ (s_X6_everySheet (d := d) (h)))

def L_X1_mostApart_9 (mi : MI) (w : WS) : Nat → Nat → Int32 → Int32 → Int32 → Option Int32
  | 0, _, _, _, _ => none
  | n + 1, i0, x1, x2, x3 => if x1 < x3 then some x2 else if (pop32 x3) ≤ (pop32 x2) then L_X1_mostApart_9 mi w n i0 x1 x2 (x3 + 1) else (F_X1_liesApart mi w i0 x3).bind fun c33 => L_X1_mostApart_9 mi w n i0 x1 (if c33 = 0 then x2 else x3) (x3 + 1)

theorem l_X1_mostApart_9 {gl : Nat} {gx : Nat → Int32} {d : Nat} {P : PL} {Q : PO} {lv : LV} {mi : MI} {w : WS} (n : Nat) : ∀ {i0 : Nat} {x1 : Int32} {x2 : Int32} {x3 : Int32} {r : Int32}, L_X1_mostApart_9 mi w n i0 x1 x2 x3 = some r → (Q (aI r) (mi, RS w, lv)) → Wp gl gx (d + 1) P 7 9 [aR 5 i0, aI x1, aI x2, aI x3] [] (mi, RS w, lv) Q := by
  induction n with
  | zero => intro i0 x1 x2 x3 r hf h0; exact o_none hf
  | succ n ih => intro i0 x1 x2 x3 r hf h0; exact r_X1_mostApart_9 (⟨fun q463 => k_ifp q463 hf (fun q465 => o_rP q465 h0), fun q464 => k_ifn q464 hf (fun q465 => ⟨fun q466 => k_ifp q466 q465 (fun q468 => ih q468 h0), fun q467 => k_ifn q467 q465 (fun q468 => o_bind q468 (fun c33 qc33 pc33 => ⟨c33, qc33, ih pc33 h0⟩))⟩)⟩)

def F_X1_mostApart (mi : MI) (w : WS) (i0 : Nat) : Option Int32 := L_X1_mostApart_9 mi w 1000000 i0 (f_X6_everySheet mi i0) 0 0

theorem s_X1_mostApart {gl : Nat} {gx : Nat → Int32} {d : Nat} {P : PL} {Q : PO} {mi : MI} {w : WS} {lv : LV} {i0 : Nat} {r : Int32} (hf : F_X1_mostApart mi w i0 = some r) (h0 : Q (aI r) (mi, RS w, lv)) : Wp gl gx (d + 1) P 7 0 [aR 5 i0, aU, aU, aU] [] (mi, RS w, lv) Q := r_X1_mostApart_0 (l_X1_mostApart_9 1000000 hf h0)

abbrev row_9 : MT := (⟨"StencilHouse$Figures", "duelWorth", "(LStencilHouse$Shop;I)I"⟩, prog_3_method_7_code, 2, some .int, 0, lk_1)
set_option maxRecDepth 20000 in
theorem mt_9 : mt 9 = some row_9 := rfl
theorem r_X1_duelWorth_0 {gl : Nat} {gx : Nat → Int32} {d : Nat} {P : PL} {Q : PO} {mi : MI} {w : WS} {lv : LV} {i0 : Nat} {x1 : Int32} (h : (∃ c34 : Int32, F_X1_bestWorth mi w 16 i0 x1 0 0 0 (-99) 99 = some c34 ∧ Q (aI c34) (mi, RS w, lv))) : Wp gl gx (d + 17) P 9 0 [aR 5 i0, aI x1] [] (mi, RS w, lv) Q := 
  wpT row_9 mt_9 [.aload_n 0, .iload_n 1, .iconst 0, .iconst 0, .iconst 0, .bipush (.negSucc 98), .bipush 99, .invokestatic 45] (by decide +kernel) [(12, [.ireturn])] (by decide +kernel) 38 (Exists.elim h (fun c34 zc34 => And.intro ⟨Nat.le_of_ble_eq_true rfl, rfl, rfl⟩ (s_X1_bestWorth (d := d) zc34.1 (zc34.2))))

def F_X1_duelWorth (mi : MI) (w : WS) (i0 : Nat) (x1 : Int32) : Option Int32 := (F_X1_bestWorth mi w 16 i0 x1 0 0 0 (-99) 99).bind fun c34 => some c34

theorem s_X1_duelWorth {gl : Nat} {gx : Nat → Int32} {d : Nat} {P : PL} {Q : PO} {mi : MI} {w : WS} {lv : LV} {i0 : Nat} {x1 : Int32} {r : Int32} (hf : F_X1_duelWorth mi w i0 x1 = some r) (h0 : Q (aI r) (mi, RS w, lv)) : Wp gl gx (d + 17) P 9 0 [aR 5 i0, aI x1] [] (mi, RS w, lv) Q := r_X1_duelWorth_0 (o_bind hf (fun c34 qc34 pc34 => ⟨c34, qc34, o_rP pc34 h0⟩))

abbrev row_10 : MT := (⟨"StencilHouse$Figures", "duelFirst", "(LStencilHouse$Shop;I)I"⟩, prog_3_method_8_code, 5, some .int, 0, lk_1)
set_option maxRecDepth 20000 in
theorem mt_10 : mt 10 = some row_10 := rfl
theorem r_X1_duelFirst_14 {gl : Nat} {gx : Nat → Int32} {d : Nat} {P : PL} {Q : PO} {mi : MI} {w : WS} {lv : LV} {i0 : Nat} {x1 : Int32} {x2 : Int32} {x3 : Int32} {v4 : AV} (h : (((mi 5 i0 3) ≤ x3) → Q (aI 6) (mi, RS w, lv)) ∧ (¬ ((mi 5 i0 3) ≤ x3) → (vp_in x3 6) ∧ ((∃ c36 : Int32, F_X1_bestWorth mi w 16 i0 (x1 - 1) ((1 : Int32) <<< (x3 &&& 31)) 0 (mi 28 i0 x3.toNatClampNeg) (-99) 99 = some c36 ∧ (¬ ((-c36) = x2) → Wp gl gx (d + 18) P 10 14 [aR 5 i0, aI x1, aI x2, aI (x3 + 1), aI c36] [] (mi, RS w, lv) Q) ∧ (((-c36) = x2) → Q (aI x3) (mi, RS w, lv)))))) : Wp gl gx (d + 18) P 10 14 [aR 5 i0, aI x1, aI x2, aI x3, v4] [] (mi, RS w, lv) Q := 
  wpT row_10 mt_10 [.iload_n 3, .aload_n 0, .getfield 37, .if_icmp .ge 41] (by decide +kernel) [(60, [.bipush 6, .ireturn]), (22, [.aload_n 0, .iload_n 1, .iconst 1, .isub, .iconst 1, .iload_n 3, .ishl, .iconst 0, .aload_n 0, .getfield 41, .iload_n 3, .iaload]), (36, [.bipush (.negSucc 98), .bipush 99, .invokestatic 45]), (43, [.istore 4, .iload 4, .ineg, .iload_n 2, .if_icmp .ne 5]), (54, [.iinc 3 1, .goto (.negSucc 42)]), (52, [.iload_n 3, .ireturn])] (by decide +kernel) 80 (And.intro (fun q469 => (h.1 q469)) (fun q470 => And.intro (h.2 q470).1 (Exists.elim ((h.2 q470).2) (fun c36 zc36 => And.intro ⟨Nat.le_of_ble_eq_true rfl, rfl, rfl⟩ (s_X1_bestWorth (d := d + 1) zc36.1 (And.intro (fun q471 => (zc36.2.1 q471)) (fun q472 => (zc36.2.2 q472))))))))

theorem r_X1_duelFirst_0 {gl : Nat} {gx : Nat → Int32} {d : Nat} {P : PL} {Q : PO} {mi : MI} {w : WS} {lv : LV} {i0 : Nat} {x1 : Int32} (h : ((0 < x1) → (∃ c35 : Int32, F_X1_duelWorth mi w i0 x1 = some c35 ∧ Wp gl gx (d + 18) P 10 14 [aR 5 i0, aI x1, aI c35, aI 0, aU] [] (mi, RS w, lv) Q)) ∧ (¬ (0 < x1) → Q (aI (-1)) (mi, RS w, lv))) : Wp gl gx (d + 18) P 10 0 [aR 5 i0, aI x1, aU, aU, aU] [] (mi, RS w, lv) Q := 
  wpT row_10 mt_10 [.iload_n 1, .ifCond .gt 5] (by decide +kernel) [(6, [.aload_n 0, .iload_n 1, .invokestatic 49]), (11, [.istore_n 2, .iconst 0, .istore_n 3]), (4, [.iconst (.negSucc 0), .ireturn])] (by decide +kernel) 40 (And.intro (fun q473 => Exists.elim (h.1 q473) (fun c35 zc35 => And.intro ⟨Nat.le_of_ble_eq_true rfl, rfl, rfl⟩ (s_X1_duelWorth (d := d) zc35.1 (zc35.2)))) (fun q474 => (h.2 q474)))

def L_X1_duelFirst_14 (mi : MI) (w : WS) : Nat → Nat → Int32 → Int32 → Int32 → Option Int32
  | 0, _, _, _, _ => none
  | n + 1, i0, x1, x2, x3 => if (mi 5 i0 3) ≤ x3 then some (6 : Int32) else ck (¬ (x3 < 0 ∨ 6 ≤ x3.toNatClampNeg)) ((F_X1_bestWorth mi w 16 i0 (x1 - 1) ((1 : Int32) <<< (x3 &&& 31)) 0 (mi 28 i0 x3.toNatClampNeg) (-99) 99).bind fun c36 => if (-c36) = x2 then some x3 else L_X1_duelFirst_14 mi w n i0 x1 x2 (x3 + 1))

theorem l_X1_duelFirst_14 {gl : Nat} {gx : Nat → Int32} {d : Nat} {P : PL} {Q : PO} {lv : LV} {mi : MI} {w : WS} (n : Nat) : ∀ {i0 : Nat} {x1 : Int32} {x2 : Int32} {x3 : Int32} {v4 : AV} {r : Int32}, L_X1_duelFirst_14 mi w n i0 x1 x2 x3 = some r → (Q (aI r) (mi, RS w, lv)) → Wp gl gx (d + 18) P 10 14 [aR 5 i0, aI x1, aI x2, aI x3, v4] [] (mi, RS w, lv) Q := by
  induction n with
  | zero => intro i0 x1 x2 x3 v4 r hf h0; exact o_none hf
  | succ n ih => intro i0 x1 x2 x3 v4 r hf h0; exact r_X1_duelFirst_14 (⟨fun q475 => k_ifp q475 hf (fun q477 => o_rP q477 h0), fun q476 => k_ifn q476 hf (fun q477 => k_ck q477 (fun q479 q478 => ⟨q479, o_bind q478 (fun c36 qc36 pc36 => ⟨c36, qc36, ⟨fun q480 => k_ifn q480 pc36 (fun q482 => ih q482 h0), fun q481 => k_ifp q481 pc36 (fun q482 => o_rP q482 h0)⟩⟩)⟩))⟩)

def F_X1_duelFirst (mi : MI) (w : WS) (i0 : Nat) (x1 : Int32) : Option Int32 := if 0 < x1 then (F_X1_duelWorth mi w i0 x1).bind fun c35 => L_X1_duelFirst_14 mi w 1000000 i0 x1 c35 0 else some (-1 : Int32)

theorem s_X1_duelFirst {gl : Nat} {gx : Nat → Int32} {d : Nat} {P : PL} {Q : PO} {mi : MI} {w : WS} {lv : LV} {i0 : Nat} {x1 : Int32} {r : Int32} (hf : F_X1_duelFirst mi w i0 x1 = some r) (h0 : Q (aI r) (mi, RS w, lv)) : Wp gl gx (d + 18) P 10 0 [aR 5 i0, aI x1, aU, aU, aU] [] (mi, RS w, lv) Q := r_X1_duelFirst_0 (⟨fun q483 => k_ifp q483 hf (fun q485 => o_bind q485 (fun c35 qc35 pc35 => ⟨c35, qc35, l_X1_duelFirst_14 1000000 pc35 h0⟩)), fun q484 => k_ifn q484 hf (fun q485 => o_rP q485 h0)⟩)

abbrev row_12 : MT := (⟨"StencilHouse$Figures", "chanceOver", "(LStencilHouse$Shop;II)I"⟩, prog_3_method_10_code, 5, some .int, 0, lk_1)
set_option maxRecDepth 20000 in
theorem mt_12 : mt 12 = some row_12 := rfl
theorem r_X1_chanceOver_30 {gl : Nat} {gx : Nat → Int32} {d : Nat} {P : PL} {Q : PO} {mi : MI} {w : WS} {lv : LV} {i0 : Nat} {x1 : Int32} {x2 : Int32} {x3 : Int32} {x4 : Int32} (h : (((mi 5 i0 3) ≤ x4) → Q (aI x3) (mi, RS w, lv)) ∧ (¬ ((mi 5 i0 3) ≤ x4) → (∃ c38 : Int32, F_X1_openTenths mi w i0 x4 x1 = some c38 ∧ Wp gl gx (d + 3) P 12 30 [aR 5 i0, aI x1, aI x2, aI (x3 * ((10 : Int32) - c38)), aI (x4 + 1)] [] (mi, RS w, lv) Q))) : Wp gl gx (d + 3) P 12 30 [aR 5 i0, aI x1, aI x2, aI x3, aI x4] [] (mi, RS w, lv) Q := 
  wpT row_12 mt_12 [.iload 4, .aload_n 0, .getfield 37, .if_icmp .ge 22] (by decide +kernel) [(58, [.iload_n 3, .ireturn]), (39, [.iload_n 3, .bipush 10, .aload_n 0, .iload 4, .iload_n 1, .invokestatic 59]), (49, [.isub, .imul, .istore_n 3, .iinc 4 1, .goto (.negSucc 24)])] (by decide +kernel) 54 (And.intro (fun q486 => (h.1 q486)) (fun q487 => Exists.elim (h.2 q487) (fun c38 zc38 => And.intro ⟨Nat.le_of_ble_eq_true rfl, rfl, rfl⟩ (s_X1_openTenths (d := d) zc38.1 (zc38.2)))))

theorem r_X1_chanceOver_26 {gl : Nat} {gx : Nat → Int32} {d : Nat} {P : PL} {Q : PO} {mi : MI} {w : WS} {lv : LV} {i0 : Nat} {x1 : Int32} {x2 : Int32} {v3 : AV} {v4 : AV} {s0 : Int32} (h : Wp gl gx (d + 3) P 12 30 [aR 5 i0, aI x1, aI x2, aI s0, aI x2] [] (mi, RS w, lv) Q) : Wp gl gx (d + 3) P 12 26 [aR 5 i0, aI x1, aI x2, v3, v4] [aI s0] (mi, RS w, lv) Q := 
  wpT row_12 mt_12 [.istore_n 3, .iload_n 2, .istore 4] (by decide +kernel) [] (by decide +kernel) 26 (h)

theorem r_X1_chanceOver_0 {gl : Nat} {gx : Nat → Int32} {d : Nat} {P : PL} {Q : PO} {mi : MI} {w : WS} {lv : LV} {i0 : Nat} {x1 : Int32} {x2 : Int32} (h : ((x2 ≤ (mi 5 i0 3)) → (¬ (x2 = 0) → (∃ c37 : Int32, F_X1_openTenths mi w i0 (x2 - 1) x1 = some c37 ∧ Wp gl gx (d + 3) P 12 30 [aR 5 i0, aI x1, aI x2, aI c37, aI x2] [] (mi, RS w, lv) Q)) ∧ ((x2 = 0) → Wp gl gx (d + 3) P 12 30 [aR 5 i0, aI x1, aI x2, aI 1, aI x2] [] (mi, RS w, lv) Q)) ∧ (¬ (x2 ≤ (mi 5 i0 3)) → Q (aI 0) (mi, RS w, lv))) : Wp gl gx (d + 3) P 12 0 [aR 5 i0, aI x1, aI x2, aU, aU] [] (mi, RS w, lv) Q := 
  wpT row_12 mt_12 [.iload_n 2, .aload_n 0, .getfield 37, .if_icmp .le 5] (by decide +kernel) [(10, [.iload_n 2, .ifCond .ne 7]), (18, [.aload_n 0, .iload_n 2, .iconst 1, .isub, .iload_n 1, .invokestatic 59]), (14, [.iconst 1, .goto 11]), (8, [.iconst 0, .ireturn])] (by decide +kernel) 52 (And.intro (fun q488 => And.intro (fun q490 => Exists.elim ((h.1 q488).1 q490) (fun c37 zc37 => And.intro ⟨Nat.le_of_ble_eq_true rfl, rfl, rfl⟩ (s_X1_openTenths (d := d) zc37.1 (r_X1_chanceOver_26 (i0 := i0) (x1 := x1) (x2 := x2) (v3 := aU) (v4 := aU) (s0 := c37) (mi := mi) zc37.2)))) (fun q491 => r_X1_chanceOver_26 (i0 := i0) (x1 := x1) (x2 := x2) (v3 := aU) (v4 := aU) (s0 := 1) (mi := mi) ((h.1 q488).2 q491))) (fun q489 => (h.2 q489)))

def L_X1_chanceOver_30 (mi : MI) (w : WS) : Nat → Nat → Int32 → Int32 → Int32 → Int32 → Option Int32
  | 0, _, _, _, _, _ => none
  | n + 1, i0, x1, x2, x3, x4 => if (mi 5 i0 3) ≤ x4 then some x3 else (F_X1_openTenths mi w i0 x4 x1).bind fun c38 => L_X1_chanceOver_30 mi w n i0 x1 x2 (x3 * ((10 : Int32) - c38)) (x4 + 1)

theorem l_X1_chanceOver_30 {gl : Nat} {gx : Nat → Int32} {d : Nat} {P : PL} {Q : PO} {lv : LV} {mi : MI} {w : WS} (n : Nat) : ∀ {i0 : Nat} {x1 : Int32} {x2 : Int32} {x3 : Int32} {x4 : Int32} {r : Int32}, L_X1_chanceOver_30 mi w n i0 x1 x2 x3 x4 = some r → (Q (aI r) (mi, RS w, lv)) → Wp gl gx (d + 3) P 12 30 [aR 5 i0, aI x1, aI x2, aI x3, aI x4] [] (mi, RS w, lv) Q := by
  induction n with
  | zero => intro i0 x1 x2 x3 x4 r hf h0; exact o_none hf
  | succ n ih => intro i0 x1 x2 x3 x4 r hf h0; exact r_X1_chanceOver_30 (⟨fun q492 => k_ifp q492 hf (fun q494 => o_rP q494 h0), fun q493 => k_ifn q493 hf (fun q494 => o_bind q494 (fun c38 qc38 pc38 => ⟨c38, qc38, ih pc38 h0⟩))⟩)

def F_X1_chanceOver (mi : MI) (w : WS) (i0 : Nat) (x1 : Int32) (x2 : Int32) : Option Int32 := if x2 ≤ (mi 5 i0 3) then if x2 = 0 then L_X1_chanceOver_30 mi w 1000000 i0 x1 x2 1 x2 else (F_X1_openTenths mi w i0 (x2 - 1) x1).bind fun c37 => L_X1_chanceOver_30 mi w 1000000 i0 x1 x2 c37 x2 else some (0 : Int32)

theorem s_X1_chanceOver {gl : Nat} {gx : Nat → Int32} {d : Nat} {P : PL} {Q : PO} {mi : MI} {w : WS} {lv : LV} {i0 : Nat} {x1 : Int32} {x2 : Int32} {r : Int32} (hf : F_X1_chanceOver mi w i0 x1 x2 = some r) (h0 : Q (aI r) (mi, RS w, lv)) : Wp gl gx (d + 3) P 12 0 [aR 5 i0, aI x1, aI x2, aU, aU] [] (mi, RS w, lv) Q := r_X1_chanceOver_0 (⟨fun q495 => k_ifp q495 hf (fun q497 => ⟨fun q498 => k_ifn q498 q497 (fun q500 => o_bind q500 (fun c37 qc37 pc37 => ⟨c37, qc37, l_X1_chanceOver_30 1000000 pc37 h0⟩)), fun q499 => k_ifp q499 q497 (fun q500 => l_X1_chanceOver_30 1000000 q500 h0)⟩), fun q496 => k_ifn q496 hf (fun q497 => o_rP q497 h0)⟩)

abbrev row_19 : MT := (⟨"StencilHouse$Figures", "edge", "(LStencilHouse$Shop;I)I"⟩, prog_3_method_17_code, 5, some .int, 0, lk_1)
set_option maxRecDepth 20000 in
theorem mt_19 : mt 19 = some row_19 := rfl
theorem r_X1_edge_119 {gl : Nat} {gx : Nat → Int32} {d : Nat} {P : PL} {Q : PO} {mi : MI} {w : WS} {lv : LV} {i0 : Nat} {x1 : Int32} {x2 : Int32} {x3 : Int32} {x4 : Int32} (h : Wp gl gx (d + 2) P 19 15 [aR 5 i0, aI x1, aI x2, aI x3, aI (x4 + 1)] [] (mi, RS w, lv) Q) : Wp gl gx (d + 2) P 19 119 [aR 5 i0, aI x1, aI x2, aI x3, aI x4] [] (mi, RS w, lv) Q := 
  wpT row_19 mt_19 [.iinc 4 1, .goto (.negSucc 106)] (by decide +kernel) [] (by decide +kernel) 24 (h)

theorem r_X1_edge_117 {gl : Nat} {gx : Nat → Int32} {d : Nat} {P : PL} {Q : PO} {mi : MI} {w : WS} {lv : LV} {i0 : Nat} {x1 : Int32} {x2 : Int32} {x3 : Int32} {x4 : Int32} {s0 : Int32} {s1 : Int32} (h : Wp gl gx (d + 2) P 19 15 [aR 5 i0, aI x1, aI (s1 + s0), aI x3, aI (x4 + 1)] [] (mi, RS w, lv) Q) : Wp gl gx (d + 2) P 19 117 [aR 5 i0, aI x1, aI x2, aI x3, aI x4] [aI s0, aI s1] (mi, RS w, lv) Q := 
  wpT row_19 mt_19 [.iadd, .istore_n 2] (by decide +kernel) [] (by decide +kernel) 24 (r_X1_edge_119 (i0 := i0) (x1 := x1) (x2 := (s1 + s0)) (x3 := x3) (x4 := x4) (mi := mi) h)

theorem r_X1_edge_96 {gl : Nat} {gx : Nat → Int32} {d : Nat} {P : PL} {Q : PO} {mi : MI} {w : WS} {lv : LV} {i0 : Nat} {x1 : Int32} {x2 : Int32} {x3 : Int32} {x4 : Int32} {s0 : Int32} {s1 : Int32} (h : Wp gl gx (d + 2) P 19 15 [aR 5 i0, aI x1, aI ((s1 + s0) + (b2 (¬ ((¬ (x4 < 0) ∧ (¬ ((mi 5 i0 0) ≤ x4) ∧ (¬ ((x3 + 1) < 0) ∧ (¬ ((mi 5 i0 1) ≤ (x3 + 1)))))) ∧ (¬ (((x1 >>> ((((x3 + 1) * (mi 5 i0 0)) + x4) &&& 31)) &&& 1) = 0)))))), aI x3, aI (x4 + 1)] [] (mi, RS w, lv) Q) : Wp gl gx (d + 2) P 19 96 [aR 5 i0, aI x1, aI x2, aI x3, aI x4] [aI s0, aI s1] (mi, RS w, lv) Q := 
  wpT row_19 mt_19 [.iadd, .istore_n 2, .iload_n 2, .aload_n 0, .iload_n 1, .iload 4, .iload_n 3, .iconst 1, .iadd, .invokestatic 79] (by decide +kernel) [(109, [.ifCond .eq 7]), (116, [.iconst 1]), (112, [.iconst 0, .goto 4])] (by decide +kernel) 48 (And.intro ⟨Nat.le_of_ble_eq_true rfl, rfl, rfl⟩ (s_X1_isOpenAt (d := d) (And.intro (fun q501 => r_X1_edge_117 (i0 := i0) (x1 := x1) (x2 := (s1 + s0)) (x3 := x3) (x4 := x4) (s0 := 1) (s1 := (s1 + s0)) (mi := mi) (mv9 (fun v => Wp gl gx (d + 2) P 19 15 [aR 5 i0, aI x1, aI ((s1 + s0) + v), aI x3, aI (x4 + 1)] [] (mi, RS w, lv) Q) (show (b2 (¬ ((¬ (x4 < 0) ∧ (¬ ((mi 5 i0 0) ≤ x4) ∧ (¬ ((x3 + 1) < 0) ∧ (¬ ((mi 5 i0 1) ≤ (x3 + 1)))))) ∧ (¬ (((x1 >>> ((((x3 + 1) * (mi 5 i0 0)) + x4) &&& 31)) &&& 1) = 0))))) = 1 from b2n_f (show ¬ ((¬ (x4 < 0) ∧ (¬ ((mi 5 i0 0) ≤ x4) ∧ (¬ ((x3 + 1) < 0) ∧ (¬ ((mi 5 i0 1) ≤ (x3 + 1)))))) ∧ (¬ (((x1 >>> ((((x3 + 1) * (mi 5 i0 0)) + x4) &&& 31)) &&& 1) = 0))) from (b2_0 q501))) h)) (fun q502 => r_X1_edge_117 (i0 := i0) (x1 := x1) (x2 := (s1 + s0)) (x3 := x3) (x4 := x4) (s0 := 0) (s1 := (s1 + s0)) (mi := mi) (mv9 (fun v => Wp gl gx (d + 2) P 19 15 [aR 5 i0, aI x1, aI ((s1 + s0) + v), aI x3, aI (x4 + 1)] [] (mi, RS w, lv) Q) (show (b2 (¬ ((¬ (x4 < 0) ∧ (¬ ((mi 5 i0 0) ≤ x4) ∧ (¬ ((x3 + 1) < 0) ∧ (¬ ((mi 5 i0 1) ≤ (x3 + 1)))))) ∧ (¬ (((x1 >>> ((((x3 + 1) * (mi 5 i0 0)) + x4) &&& 31)) &&& 1) = 0))))) = 0 from b2n_t (show (¬ (x4 < 0) ∧ (¬ ((mi 5 i0 0) ≤ x4) ∧ (¬ ((x3 + 1) < 0) ∧ (¬ ((mi 5 i0 1) ≤ (x3 + 1)))))) ∧ (¬ (((x1 >>> ((((x3 + 1) * (mi 5 i0 0)) + x4) &&& 31)) &&& 1) = 0)) from (b2_n q502))) h)))))

theorem r_X1_edge_75 {gl : Nat} {gx : Nat → Int32} {d : Nat} {P : PL} {Q : PO} {mi : MI} {w : WS} {lv : LV} {i0 : Nat} {x1 : Int32} {x2 : Int32} {x3 : Int32} {x4 : Int32} {s0 : Int32} {s1 : Int32} (h : Wp gl gx (d + 2) P 19 15 [aR 5 i0, aI x1, aI (((s1 + s0) + (b2 (¬ ((¬ (x4 < 0) ∧ (¬ ((mi 5 i0 0) ≤ x4) ∧ (¬ ((x3 - 1) < 0) ∧ (¬ ((mi 5 i0 1) ≤ (x3 - 1)))))) ∧ (¬ (((x1 >>> ((((x3 - 1) * (mi 5 i0 0)) + x4) &&& 31)) &&& 1) = 0)))))) + (b2 (¬ ((¬ (x4 < 0) ∧ (¬ ((mi 5 i0 0) ≤ x4) ∧ (¬ ((x3 + 1) < 0) ∧ (¬ ((mi 5 i0 1) ≤ (x3 + 1)))))) ∧ (¬ (((x1 >>> ((((x3 + 1) * (mi 5 i0 0)) + x4) &&& 31)) &&& 1) = 0)))))), aI x3, aI (x4 + 1)] [] (mi, RS w, lv) Q) : Wp gl gx (d + 2) P 19 75 [aR 5 i0, aI x1, aI x2, aI x3, aI x4] [aI s0, aI s1] (mi, RS w, lv) Q := 
  wpT row_19 mt_19 [.iadd, .istore_n 2, .iload_n 2, .aload_n 0, .iload_n 1, .iload 4, .iload_n 3, .iconst 1, .isub, .invokestatic 79] (by decide +kernel) [(88, [.ifCond .eq 7]), (95, [.iconst 1]), (91, [.iconst 0, .goto 4])] (by decide +kernel) 48 (And.intro ⟨Nat.le_of_ble_eq_true rfl, rfl, rfl⟩ (s_X1_isOpenAt (d := d) (And.intro (fun q503 => r_X1_edge_96 (i0 := i0) (x1 := x1) (x2 := (s1 + s0)) (x3 := x3) (x4 := x4) (s0 := 1) (s1 := (s1 + s0)) (mi := mi) (mv9 (fun v => Wp gl gx (d + 2) P 19 15 [aR 5 i0, aI x1, aI (((s1 + s0) + v) + (b2 (¬ ((¬ (x4 < 0) ∧ (¬ ((mi 5 i0 0) ≤ x4) ∧ (¬ ((x3 + 1) < 0) ∧ (¬ ((mi 5 i0 1) ≤ (x3 + 1)))))) ∧ (¬ (((x1 >>> ((((x3 + 1) * (mi 5 i0 0)) + x4) &&& 31)) &&& 1) = 0)))))), aI x3, aI (x4 + 1)] [] (mi, RS w, lv) Q) (show (b2 (¬ ((¬ (x4 < 0) ∧ (¬ ((mi 5 i0 0) ≤ x4) ∧ (¬ ((x3 - 1) < 0) ∧ (¬ ((mi 5 i0 1) ≤ (x3 - 1)))))) ∧ (¬ (((x1 >>> ((((x3 - 1) * (mi 5 i0 0)) + x4) &&& 31)) &&& 1) = 0))))) = 1 from b2n_f (show ¬ ((¬ (x4 < 0) ∧ (¬ ((mi 5 i0 0) ≤ x4) ∧ (¬ ((x3 - 1) < 0) ∧ (¬ ((mi 5 i0 1) ≤ (x3 - 1)))))) ∧ (¬ (((x1 >>> ((((x3 - 1) * (mi 5 i0 0)) + x4) &&& 31)) &&& 1) = 0))) from (b2_0 q503))) h)) (fun q504 => r_X1_edge_96 (i0 := i0) (x1 := x1) (x2 := (s1 + s0)) (x3 := x3) (x4 := x4) (s0 := 0) (s1 := (s1 + s0)) (mi := mi) (mv9 (fun v => Wp gl gx (d + 2) P 19 15 [aR 5 i0, aI x1, aI (((s1 + s0) + v) + (b2 (¬ ((¬ (x4 < 0) ∧ (¬ ((mi 5 i0 0) ≤ x4) ∧ (¬ ((x3 + 1) < 0) ∧ (¬ ((mi 5 i0 1) ≤ (x3 + 1)))))) ∧ (¬ (((x1 >>> ((((x3 + 1) * (mi 5 i0 0)) + x4) &&& 31)) &&& 1) = 0)))))), aI x3, aI (x4 + 1)] [] (mi, RS w, lv) Q) (show (b2 (¬ ((¬ (x4 < 0) ∧ (¬ ((mi 5 i0 0) ≤ x4) ∧ (¬ ((x3 - 1) < 0) ∧ (¬ ((mi 5 i0 1) ≤ (x3 - 1)))))) ∧ (¬ (((x1 >>> ((((x3 - 1) * (mi 5 i0 0)) + x4) &&& 31)) &&& 1) = 0))))) = 0 from b2n_t (show (¬ (x4 < 0) ∧ (¬ ((mi 5 i0 0) ≤ x4) ∧ (¬ ((x3 - 1) < 0) ∧ (¬ ((mi 5 i0 1) ≤ (x3 - 1)))))) ∧ (¬ (((x1 >>> ((((x3 - 1) * (mi 5 i0 0)) + x4) &&& 31)) &&& 1) = 0)) from (b2_n q504))) h)))))

theorem r_X1_edge_54 {gl : Nat} {gx : Nat → Int32} {d : Nat} {P : PL} {Q : PO} {mi : MI} {w : WS} {lv : LV} {i0 : Nat} {x1 : Int32} {x2 : Int32} {x3 : Int32} {x4 : Int32} {s0 : Int32} {s1 : Int32} (h : Wp gl gx (d + 2) P 19 15 [aR 5 i0, aI x1, aI ((((s1 + s0) + (b2 (¬ ((¬ ((x4 + 1) < 0) ∧ (¬ ((mi 5 i0 0) ≤ (x4 + 1)) ∧ (¬ (x3 < 0) ∧ (¬ ((mi 5 i0 1) ≤ x3))))) ∧ (¬ (((x1 >>> (((x3 * (mi 5 i0 0)) + (x4 + 1)) &&& 31)) &&& 1) = 0)))))) + (b2 (¬ ((¬ (x4 < 0) ∧ (¬ ((mi 5 i0 0) ≤ x4) ∧ (¬ ((x3 - 1) < 0) ∧ (¬ ((mi 5 i0 1) ≤ (x3 - 1)))))) ∧ (¬ (((x1 >>> ((((x3 - 1) * (mi 5 i0 0)) + x4) &&& 31)) &&& 1) = 0)))))) + (b2 (¬ ((¬ (x4 < 0) ∧ (¬ ((mi 5 i0 0) ≤ x4) ∧ (¬ ((x3 + 1) < 0) ∧ (¬ ((mi 5 i0 1) ≤ (x3 + 1)))))) ∧ (¬ (((x1 >>> ((((x3 + 1) * (mi 5 i0 0)) + x4) &&& 31)) &&& 1) = 0)))))), aI x3, aI (x4 + 1)] [] (mi, RS w, lv) Q) : Wp gl gx (d + 2) P 19 54 [aR 5 i0, aI x1, aI x2, aI x3, aI x4] [aI s0, aI s1] (mi, RS w, lv) Q := 
  wpT row_19 mt_19 [.iadd, .istore_n 2, .iload_n 2, .aload_n 0, .iload_n 1, .iload 4, .iconst 1, .iadd, .iload_n 3, .invokestatic 79] (by decide +kernel) [(67, [.ifCond .eq 7]), (74, [.iconst 1]), (70, [.iconst 0, .goto 4])] (by decide +kernel) 48 (And.intro ⟨Nat.le_of_ble_eq_true rfl, rfl, rfl⟩ (s_X1_isOpenAt (d := d) (And.intro (fun q505 => r_X1_edge_75 (i0 := i0) (x1 := x1) (x2 := (s1 + s0)) (x3 := x3) (x4 := x4) (s0 := 1) (s1 := (s1 + s0)) (mi := mi) (mv9 (fun v => Wp gl gx (d + 2) P 19 15 [aR 5 i0, aI x1, aI ((((s1 + s0) + v) + (b2 (¬ ((¬ (x4 < 0) ∧ (¬ ((mi 5 i0 0) ≤ x4) ∧ (¬ ((x3 - 1) < 0) ∧ (¬ ((mi 5 i0 1) ≤ (x3 - 1)))))) ∧ (¬ (((x1 >>> ((((x3 - 1) * (mi 5 i0 0)) + x4) &&& 31)) &&& 1) = 0)))))) + (b2 (¬ ((¬ (x4 < 0) ∧ (¬ ((mi 5 i0 0) ≤ x4) ∧ (¬ ((x3 + 1) < 0) ∧ (¬ ((mi 5 i0 1) ≤ (x3 + 1)))))) ∧ (¬ (((x1 >>> ((((x3 + 1) * (mi 5 i0 0)) + x4) &&& 31)) &&& 1) = 0)))))), aI x3, aI (x4 + 1)] [] (mi, RS w, lv) Q) (show (b2 (¬ ((¬ ((x4 + 1) < 0) ∧ (¬ ((mi 5 i0 0) ≤ (x4 + 1)) ∧ (¬ (x3 < 0) ∧ (¬ ((mi 5 i0 1) ≤ x3))))) ∧ (¬ (((x1 >>> (((x3 * (mi 5 i0 0)) + (x4 + 1)) &&& 31)) &&& 1) = 0))))) = 1 from b2n_f (show ¬ ((¬ ((x4 + 1) < 0) ∧ (¬ ((mi 5 i0 0) ≤ (x4 + 1)) ∧ (¬ (x3 < 0) ∧ (¬ ((mi 5 i0 1) ≤ x3))))) ∧ (¬ (((x1 >>> (((x3 * (mi 5 i0 0)) + (x4 + 1)) &&& 31)) &&& 1) = 0))) from (b2_0 q505))) h)) (fun q506 => r_X1_edge_75 (i0 := i0) (x1 := x1) (x2 := (s1 + s0)) (x3 := x3) (x4 := x4) (s0 := 0) (s1 := (s1 + s0)) (mi := mi) (mv9 (fun v => Wp gl gx (d + 2) P 19 15 [aR 5 i0, aI x1, aI ((((s1 + s0) + v) + (b2 (¬ ((¬ (x4 < 0) ∧ (¬ ((mi 5 i0 0) ≤ x4) ∧ (¬ ((x3 - 1) < 0) ∧ (¬ ((mi 5 i0 1) ≤ (x3 - 1)))))) ∧ (¬ (((x1 >>> ((((x3 - 1) * (mi 5 i0 0)) + x4) &&& 31)) &&& 1) = 0)))))) + (b2 (¬ ((¬ (x4 < 0) ∧ (¬ ((mi 5 i0 0) ≤ x4) ∧ (¬ ((x3 + 1) < 0) ∧ (¬ ((mi 5 i0 1) ≤ (x3 + 1)))))) ∧ (¬ (((x1 >>> ((((x3 + 1) * (mi 5 i0 0)) + x4) &&& 31)) &&& 1) = 0)))))), aI x3, aI (x4 + 1)] [] (mi, RS w, lv) Q) (show (b2 (¬ ((¬ ((x4 + 1) < 0) ∧ (¬ ((mi 5 i0 0) ≤ (x4 + 1)) ∧ (¬ (x3 < 0) ∧ (¬ ((mi 5 i0 1) ≤ x3))))) ∧ (¬ (((x1 >>> (((x3 * (mi 5 i0 0)) + (x4 + 1)) &&& 31)) &&& 1) = 0))))) = 0 from b2n_t (show (¬ ((x4 + 1) < 0) ∧ (¬ ((mi 5 i0 0) ≤ (x4 + 1)) ∧ (¬ (x3 < 0) ∧ (¬ ((mi 5 i0 1) ≤ x3))))) ∧ (¬ (((x1 >>> (((x3 * (mi 5 i0 0)) + (x4 + 1)) &&& 31)) &&& 1) = 0)) from (b2_n q506))) h)))))

theorem r_X1_edge_15 {gl : Nat} {gx : Nat → Int32} {d : Nat} {P : PL} {Q : PO} {mi : MI} {w : WS} {lv : LV} {i0 : Nat} {x1 : Int32} {x2 : Int32} {x3 : Int32} {x4 : Int32} (h : (((mi 5 i0 0) ≤ x4) → Wp gl gx (d + 2) P 19 4 [aR 5 i0, aI x1, aI x2, aI (x3 + 1), aI x4] [] (mi, RS w, lv) Q) ∧ (¬ ((mi 5 i0 0) ≤ x4) → (¬ ((¬ (x4 < 0) ∧ (¬ ((mi 5 i0 0) ≤ x4) ∧ (¬ (x3 < 0) ∧ (¬ ((mi 5 i0 1) ≤ x3))))) ∧ (¬ (((x1 >>> (((x3 * (mi 5 i0 0)) + x4) &&& 31)) &&& 1) = 0))) → Wp gl gx (d + 2) P 19 15 [aR 5 i0, aI x1, aI x2, aI x3, aI (x4 + 1)] [] (mi, RS w, lv) Q) ∧ ((¬ (x4 < 0) ∧ (¬ ((mi 5 i0 0) ≤ x4) ∧ (¬ (x3 < 0) ∧ (¬ ((mi 5 i0 1) ≤ x3))))) ∧ (¬ (((x1 >>> (((x3 * (mi 5 i0 0)) + x4) &&& 31)) &&& 1) = 0)) → Wp gl gx (d + 2) P 19 15 [aR 5 i0, aI x1, aI ((((x2 + (b2 (¬ ((¬ ((x4 - 1) < 0) ∧ (¬ ((mi 5 i0 0) ≤ (x4 - 1)) ∧ (¬ (x3 < 0) ∧ (¬ ((mi 5 i0 1) ≤ x3))))) ∧ (¬ (((x1 >>> (((x3 * (mi 5 i0 0)) + (x4 - 1)) &&& 31)) &&& 1) = 0)))))) + (b2 (¬ ((¬ ((x4 + 1) < 0) ∧ (¬ ((mi 5 i0 0) ≤ (x4 + 1)) ∧ (¬ (x3 < 0) ∧ (¬ ((mi 5 i0 1) ≤ x3))))) ∧ (¬ (((x1 >>> (((x3 * (mi 5 i0 0)) + (x4 + 1)) &&& 31)) &&& 1) = 0)))))) + (b2 (¬ ((¬ (x4 < 0) ∧ (¬ ((mi 5 i0 0) ≤ x4) ∧ (¬ ((x3 - 1) < 0) ∧ (¬ ((mi 5 i0 1) ≤ (x3 - 1)))))) ∧ (¬ (((x1 >>> ((((x3 - 1) * (mi 5 i0 0)) + x4) &&& 31)) &&& 1) = 0)))))) + (b2 (¬ ((¬ (x4 < 0) ∧ (¬ ((mi 5 i0 0) ≤ x4) ∧ (¬ ((x3 + 1) < 0) ∧ (¬ ((mi 5 i0 1) ≤ (x3 + 1)))))) ∧ (¬ (((x1 >>> ((((x3 + 1) * (mi 5 i0 0)) + x4) &&& 31)) &&& 1) = 0)))))), aI x3, aI (x4 + 1)] [] (mi, RS w, lv) Q))) : Wp gl gx (d + 2) P 19 15 [aR 5 i0, aI x1, aI x2, aI x3, aI x4] [] (mi, RS w, lv) Q := 
  wpT row_19 mt_19 [.iload 4, .aload_n 0, .getfield 76, .if_icmp .ge 104] (by decide +kernel) [(125, [.iinc 3 1, .goto (.negSucc 123)]), (24, [.aload_n 0, .iload_n 1, .iload 4, .iload_n 3, .invokestatic 79]), (32, [.ifCond .eq 87]), (35, [.iload_n 2, .aload_n 0, .iload_n 1, .iload 4, .iconst 1, .isub, .iload_n 3, .invokestatic 79]), (46, [.ifCond .eq 7]), (53, [.iconst 1]), (49, [.iconst 0, .goto 4])] (by decide +kernel) 68 (And.intro (fun q507 => (h.1 q507)) (fun q508 => And.intro ⟨Nat.le_of_ble_eq_true rfl, rfl, rfl⟩ (s_X1_isOpenAt (d := d) (And.intro (fun q509 => r_X1_edge_119 (i0 := i0) (x1 := x1) (x2 := x2) (x3 := x3) (x4 := x4) (mi := mi) ((h.2 q508).1 (b2_0 q509))) (fun q510 => And.intro ⟨Nat.le_of_ble_eq_true rfl, rfl, rfl⟩ (s_X1_isOpenAt (d := d) (And.intro (fun q511 => r_X1_edge_54 (i0 := i0) (x1 := x1) (x2 := x2) (x3 := x3) (x4 := x4) (s0 := 1) (s1 := x2) (mi := mi) (mv9 (fun v => Wp gl gx (d + 2) P 19 15 [aR 5 i0, aI x1, aI ((((x2 + v) + (b2 (¬ ((¬ ((x4 + 1) < 0) ∧ (¬ ((mi 5 i0 0) ≤ (x4 + 1)) ∧ (¬ (x3 < 0) ∧ (¬ ((mi 5 i0 1) ≤ x3))))) ∧ (¬ (((x1 >>> (((x3 * (mi 5 i0 0)) + (x4 + 1)) &&& 31)) &&& 1) = 0)))))) + (b2 (¬ ((¬ (x4 < 0) ∧ (¬ ((mi 5 i0 0) ≤ x4) ∧ (¬ ((x3 - 1) < 0) ∧ (¬ ((mi 5 i0 1) ≤ (x3 - 1)))))) ∧ (¬ (((x1 >>> ((((x3 - 1) * (mi 5 i0 0)) + x4) &&& 31)) &&& 1) = 0)))))) + (b2 (¬ ((¬ (x4 < 0) ∧ (¬ ((mi 5 i0 0) ≤ x4) ∧ (¬ ((x3 + 1) < 0) ∧ (¬ ((mi 5 i0 1) ≤ (x3 + 1)))))) ∧ (¬ (((x1 >>> ((((x3 + 1) * (mi 5 i0 0)) + x4) &&& 31)) &&& 1) = 0)))))), aI x3, aI (x4 + 1)] [] (mi, RS w, lv) Q) (show (b2 (¬ ((¬ ((x4 - 1) < 0) ∧ (¬ ((mi 5 i0 0) ≤ (x4 - 1)) ∧ (¬ (x3 < 0) ∧ (¬ ((mi 5 i0 1) ≤ x3))))) ∧ (¬ (((x1 >>> (((x3 * (mi 5 i0 0)) + (x4 - 1)) &&& 31)) &&& 1) = 0))))) = 1 from b2n_f (show ¬ ((¬ ((x4 - 1) < 0) ∧ (¬ ((mi 5 i0 0) ≤ (x4 - 1)) ∧ (¬ (x3 < 0) ∧ (¬ ((mi 5 i0 1) ≤ x3))))) ∧ (¬ (((x1 >>> (((x3 * (mi 5 i0 0)) + (x4 - 1)) &&& 31)) &&& 1) = 0))) from (b2_0 q511))) ((h.2 q508).2 (b2_n q510)))) (fun q512 => r_X1_edge_54 (i0 := i0) (x1 := x1) (x2 := x2) (x3 := x3) (x4 := x4) (s0 := 0) (s1 := x2) (mi := mi) (mv9 (fun v => Wp gl gx (d + 2) P 19 15 [aR 5 i0, aI x1, aI ((((x2 + v) + (b2 (¬ ((¬ ((x4 + 1) < 0) ∧ (¬ ((mi 5 i0 0) ≤ (x4 + 1)) ∧ (¬ (x3 < 0) ∧ (¬ ((mi 5 i0 1) ≤ x3))))) ∧ (¬ (((x1 >>> (((x3 * (mi 5 i0 0)) + (x4 + 1)) &&& 31)) &&& 1) = 0)))))) + (b2 (¬ ((¬ (x4 < 0) ∧ (¬ ((mi 5 i0 0) ≤ x4) ∧ (¬ ((x3 - 1) < 0) ∧ (¬ ((mi 5 i0 1) ≤ (x3 - 1)))))) ∧ (¬ (((x1 >>> ((((x3 - 1) * (mi 5 i0 0)) + x4) &&& 31)) &&& 1) = 0)))))) + (b2 (¬ ((¬ (x4 < 0) ∧ (¬ ((mi 5 i0 0) ≤ x4) ∧ (¬ ((x3 + 1) < 0) ∧ (¬ ((mi 5 i0 1) ≤ (x3 + 1)))))) ∧ (¬ (((x1 >>> ((((x3 + 1) * (mi 5 i0 0)) + x4) &&& 31)) &&& 1) = 0)))))), aI x3, aI (x4 + 1)] [] (mi, RS w, lv) Q) (show (b2 (¬ ((¬ ((x4 - 1) < 0) ∧ (¬ ((mi 5 i0 0) ≤ (x4 - 1)) ∧ (¬ (x3 < 0) ∧ (¬ ((mi 5 i0 1) ≤ x3))))) ∧ (¬ (((x1 >>> (((x3 * (mi 5 i0 0)) + (x4 - 1)) &&& 31)) &&& 1) = 0))))) = 0 from b2n_t (show (¬ ((x4 - 1) < 0) ∧ (¬ ((mi 5 i0 0) ≤ (x4 - 1)) ∧ (¬ (x3 < 0) ∧ (¬ ((mi 5 i0 1) ≤ x3))))) ∧ (¬ (((x1 >>> (((x3 * (mi 5 i0 0)) + (x4 - 1)) &&& 31)) &&& 1) = 0)) from (b2_n q512))) ((h.2 q508).2 (b2_n q510)))))))))))

theorem r_X1_edge_4 {gl : Nat} {gx : Nat → Int32} {d : Nat} {P : PL} {Q : PO} {mi : MI} {w : WS} {lv : LV} {i0 : Nat} {x1 : Int32} {x2 : Int32} {x3 : Int32} {v4 : AV} (h : (((mi 5 i0 1) ≤ x3) → Q (aI x2) (mi, RS w, lv)) ∧ (¬ ((mi 5 i0 1) ≤ x3) → Wp gl gx (d + 2) P 19 15 [aR 5 i0, aI x1, aI x2, aI x3, aI 0] [] (mi, RS w, lv) Q)) : Wp gl gx (d + 2) P 19 4 [aR 5 i0, aI x1, aI x2, aI x3, v4] [] (mi, RS w, lv) Q := 
  wpT row_19 mt_19 [.iload_n 3, .aload_n 0, .getfield 73, .if_icmp .ge 122] (by decide +kernel) [(131, [.iload_n 2, .ireturn]), (12, [.iconst 0, .istore 4])] (by decide +kernel) 36 (And.intro (fun q513 => (h.1 q513)) (fun q514 => (h.2 q514)))

theorem r_X1_edge_0 {gl : Nat} {gx : Nat → Int32} {d : Nat} {P : PL} {Q : PO} {mi : MI} {w : WS} {lv : LV} {i0 : Nat} {x1 : Int32} (h : Wp gl gx (d + 2) P 19 4 [aR 5 i0, aI x1, aI 0, aI 0, aU] [] (mi, RS w, lv) Q) : Wp gl gx (d + 2) P 19 0 [aR 5 i0, aI x1, aU, aU, aU] [] (mi, RS w, lv) Q := 
  wpT row_19 mt_19 [.iconst 0, .istore_n 2, .iconst 0, .istore_n 3] (by decide +kernel) [] (by decide +kernel) 28 (h)

def L_X1_edge_15 (mi : MI) (w : WS) (k4 : Nat → Int32 → Int32 → Int32 → Option Int32) : Nat → Nat → Int32 → Int32 → Int32 → Int32 → Option Int32
  | 0, _, _, _, _, _ => none
  | n + 1, i0, x1, x2, x3, x4 => if (mi 5 i0 0) ≤ x4 then k4 i0 x1 x2 (x3 + 1) else if (¬ (x4 < 0) ∧ (¬ ((mi 5 i0 0) ≤ x4) ∧ (¬ (x3 < 0) ∧ (¬ ((mi 5 i0 1) ≤ x3))))) ∧ (¬ (((x1 >>> (((x3 * (mi 5 i0 0)) + x4) &&& 31)) &&& 1) = 0)) then L_X1_edge_15 mi w k4 n i0 x1 ((((x2 + (b2 (¬ ((¬ ((x4 - 1) < 0) ∧ (¬ ((mi 5 i0 0) ≤ (x4 - 1)) ∧ (¬ (x3 < 0) ∧ (¬ ((mi 5 i0 1) ≤ x3))))) ∧ (¬ (((x1 >>> (((x3 * (mi 5 i0 0)) + (x4 - 1)) &&& 31)) &&& 1) = 0)))))) + (b2 (¬ ((¬ ((x4 + 1) < 0) ∧ (¬ ((mi 5 i0 0) ≤ (x4 + 1)) ∧ (¬ (x3 < 0) ∧ (¬ ((mi 5 i0 1) ≤ x3))))) ∧ (¬ (((x1 >>> (((x3 * (mi 5 i0 0)) + (x4 + 1)) &&& 31)) &&& 1) = 0)))))) + (b2 (¬ ((¬ (x4 < 0) ∧ (¬ ((mi 5 i0 0) ≤ x4) ∧ (¬ ((x3 - 1) < 0) ∧ (¬ ((mi 5 i0 1) ≤ (x3 - 1)))))) ∧ (¬ (((x1 >>> ((((x3 - 1) * (mi 5 i0 0)) + x4) &&& 31)) &&& 1) = 0)))))) + (b2 (¬ ((¬ (x4 < 0) ∧ (¬ ((mi 5 i0 0) ≤ x4) ∧ (¬ ((x3 + 1) < 0) ∧ (¬ ((mi 5 i0 1) ≤ (x3 + 1)))))) ∧ (¬ (((x1 >>> ((((x3 + 1) * (mi 5 i0 0)) + x4) &&& 31)) &&& 1) = 0)))))) x3 (x4 + 1) else L_X1_edge_15 mi w k4 n i0 x1 x2 x3 (x4 + 1)

theorem l_X1_edge_15 {gl : Nat} {gx : Nat → Int32} {d : Nat} {P : PL} {Q : PO} {lv : LV} {mi : MI} {w : WS} {k4 : Nat → Int32 → Int32 → Int32 → Option Int32} (hk4 : ∀ {i0 : Nat} {x1 : Int32} {x2 : Int32} {x3 : Int32} {v4 : AV} {r : Int32}, k4 i0 x1 x2 x3 = some r → (Q (aI r) (mi, RS w, lv)) → Wp gl gx (d + 2) P 19 4 [aR 5 i0, aI x1, aI x2, aI x3, v4] [] (mi, RS w, lv) Q) (n : Nat) : ∀ {i0 : Nat} {x1 : Int32} {x2 : Int32} {x3 : Int32} {x4 : Int32} {r : Int32}, L_X1_edge_15 mi w k4 n i0 x1 x2 x3 x4 = some r → (Q (aI r) (mi, RS w, lv)) → Wp gl gx (d + 2) P 19 15 [aR 5 i0, aI x1, aI x2, aI x3, aI x4] [] (mi, RS w, lv) Q := by
  induction n with
  | zero => intro i0 x1 x2 x3 x4 r hf h0; exact o_none hf
  | succ n ih => intro i0 x1 x2 x3 x4 r hf h0; exact r_X1_edge_15 (⟨fun q515 => k_ifp q515 hf (fun q517 => hk4 q517 h0), fun q516 => k_ifn q516 hf (fun q517 => ⟨fun q518 => k_ifn q518 q517 (fun q520 => ih q520 h0), fun q519 => k_ifp q519 q517 (fun q520 => ih q520 h0)⟩)⟩)

def L_X1_edge_4 (mi : MI) (w : WS) : Nat → Nat → Int32 → Int32 → Int32 → Option Int32
  | 0, _, _, _, _ => none
  | n + 1, i0, x1, x2, x3 => if (mi 5 i0 1) ≤ x3 then some x2 else L_X1_edge_15 mi w (fun i0 x1 x2 x3 => L_X1_edge_4 mi w n i0 x1 x2 x3) 1000000 i0 x1 x2 x3 0

theorem l_X1_edge_4 {gl : Nat} {gx : Nat → Int32} {d : Nat} {P : PL} {Q : PO} {lv : LV} {mi : MI} {w : WS} (n : Nat) : ∀ {i0 : Nat} {x1 : Int32} {x2 : Int32} {x3 : Int32} {v4 : AV} {r : Int32}, L_X1_edge_4 mi w n i0 x1 x2 x3 = some r → (Q (aI r) (mi, RS w, lv)) → Wp gl gx (d + 2) P 19 4 [aR 5 i0, aI x1, aI x2, aI x3, v4] [] (mi, RS w, lv) Q := by
  induction n with
  | zero => intro i0 x1 x2 x3 v4 r hf h0; exact o_none hf
  | succ n ih => intro i0 x1 x2 x3 v4 r hf h0; exact r_X1_edge_4 (⟨fun q521 => k_ifp q521 hf (fun q523 => o_rP q523 h0), fun q522 => k_ifn q522 hf (fun q523 => l_X1_edge_15 (fun hf h0 => ih hf h0) 1000000 q523 h0)⟩)

def F_X1_edge (mi : MI) (w : WS) (i0 : Nat) (x1 : Int32) : Option Int32 := L_X1_edge_4 mi w 1000000 i0 x1 0 0

theorem s_X1_edge {gl : Nat} {gx : Nat → Int32} {d : Nat} {P : PL} {Q : PO} {mi : MI} {w : WS} {lv : LV} {i0 : Nat} {x1 : Int32} {r : Int32} (hf : F_X1_edge mi w i0 x1 = some r) (h0 : Q (aI r) (mi, RS w, lv)) : Wp gl gx (d + 2) P 19 0 [aR 5 i0, aI x1, aU, aU, aU] [] (mi, RS w, lv) Q := r_X1_edge_0 (l_X1_edge_4 1000000 hf h0)

abbrev row_25 : MT := (⟨"StencilHouse$Figures", "twins", "(LStencilHouse$Shop;)I"⟩, prog_3_method_23_code, 4, some .int, 0, lk_1)
set_option maxRecDepth 20000 in
theorem mt_25 : mt 25 = some row_25 := rfl
theorem r_X1_twins_46 {gl : Nat} {gx : Nat → Int32} {d : Nat} {P : PL} {Q : PO} {mi : MI} {w : WS} {lv : LV} {i0 : Nat} {x1 : Int32} {x2 : Int32} {x3 : Int32} (h : Wp gl gx (d + 2) P 25 16 [aR 5 i0, aI x1, aI x2, aI (x3 + 1)] [] (mi, RS w, lv) Q) : Wp gl gx (d + 2) P 25 46 [aR 5 i0, aI x1, aI x2, aI x3] [] (mi, RS w, lv) Q := 
  wpT row_25 mt_25 [.iinc 3 1, .goto (.negSucc 32)] (by decide +kernel) [] (by decide +kernel) 24 (h)

theorem r_X1_twins_16 {gl : Nat} {gx : Nat → Int32} {d : Nat} {P : PL} {Q : PO} {mi : MI} {w : WS} {lv : LV} {i0 : Nat} {x1 : Int32} {x2 : Int32} {x3 : Int32} (h : (((mi 5 i0 3) ≤ x3) → Wp gl gx (d + 2) P 25 4 [aR 5 i0, aI x1, aI (x2 + 1), aI x3] [] (mi, RS w, lv) Q) ∧ (¬ ((mi 5 i0 3) ≤ x3) → (vp_in x2 6) ∧ ((vp_in x3 6) ∧ ((∃ c39 : Int32, F_X1_areTwins mi w i0 (mi 26 i0 x2.toNatClampNeg) (mi 26 i0 x3.toNatClampNeg) = some c39 ∧ Wp gl gx (d + 2) P 25 16 [aR 5 i0, aI (if c39 = 0 then x1 else x1 + 1), aI x2, aI (x3 + 1)] [] (mi, RS w, lv) Q))))) : Wp gl gx (d + 2) P 25 16 [aR 5 i0, aI x1, aI x2, aI x3] [] (mi, RS w, lv) Q := 
  wpT row_25 mt_25 [.iload_n 3, .aload_n 0, .getfield 37, .if_icmp .ge 31] (by decide +kernel) [(52, [.iinc 2 1, .goto (.negSucc 50)]), (24, [.aload_n 0, .aload_n 0, .getfield 87, .iload_n 2, .iaload]), (31, [.aload_n 0, .getfield 87, .iload_n 3, .iaload]), (37, [.invokestatic 96]), (40, [.ifCond .eq 6]), (43, [.iinc 1 1])] (by decide +kernel) 56 (And.intro (fun q524 => (h.1 q524)) (fun q525 => And.intro (h.2 q525).1 (And.intro (h.2 q525).2.1 (Exists.elim ((h.2 q525).2.2) (fun c39 zc39 => And.intro ⟨Nat.le_of_ble_eq_true rfl, rfl, rfl⟩ (s_X1_areTwins (d := d) zc39.1 (And.intro (fun q526 => r_X1_twins_46 (i0 := i0) (x1 := x1) (x2 := x2) (x3 := x3) (mi := mi) (mv9 (fun v => Wp gl gx (d + 2) P 25 16 [aR 5 i0, aI v, aI x2, aI (x3 + 1)] [] (mi, RS w, lv) Q) (show (if c39 = 0 then x1 else x1 + 1) = x1 from if_pos (show c39 = 0 from q526)) zc39.2)) (fun q527 => r_X1_twins_46 (i0 := i0) (x1 := (x1 + 1)) (x2 := x2) (x3 := x3) (mi := mi) (mv9 (fun v => Wp gl gx (d + 2) P 25 16 [aR 5 i0, aI v, aI x2, aI (x3 + 1)] [] (mi, RS w, lv) Q) (show (if c39 = 0 then x1 else x1 + 1) = (x1 + 1) from if_neg (show ¬ (c39 = 0) from q527)) zc39.2)))))))))

theorem r_X1_twins_4 {gl : Nat} {gx : Nat → Int32} {d : Nat} {P : PL} {Q : PO} {mi : MI} {w : WS} {lv : LV} {i0 : Nat} {x1 : Int32} {x2 : Int32} {v3 : AV} (h : (((mi 5 i0 3) ≤ x2) → Q (aI x1) (mi, RS w, lv)) ∧ (¬ ((mi 5 i0 3) ≤ x2) → Wp gl gx (d + 2) P 25 16 [aR 5 i0, aI x1, aI x2, aI (x2 + 1)] [] (mi, RS w, lv) Q)) : Wp gl gx (d + 2) P 25 4 [aR 5 i0, aI x1, aI x2, v3] [] (mi, RS w, lv) Q := 
  wpT row_25 mt_25 [.iload_n 2, .aload_n 0, .getfield 37, .if_icmp .ge 49] (by decide +kernel) [(58, [.iload_n 1, .ireturn]), (12, [.iload_n 2, .iconst 1, .iadd, .istore_n 3])] (by decide +kernel) 40 (And.intro (fun q528 => (h.1 q528)) (fun q529 => (h.2 q529)))

theorem r_X1_twins_0 {gl : Nat} {gx : Nat → Int32} {d : Nat} {P : PL} {Q : PO} {mi : MI} {w : WS} {lv : LV} {i0 : Nat} (h : Wp gl gx (d + 2) P 25 4 [aR 5 i0, aI 0, aI 0, aU] [] (mi, RS w, lv) Q) : Wp gl gx (d + 2) P 25 0 [aR 5 i0, aU, aU, aU] [] (mi, RS w, lv) Q := 
  wpT row_25 mt_25 [.iconst 0, .istore_n 1, .iconst 0, .istore_n 2] (by decide +kernel) [] (by decide +kernel) 28 (h)

def L_X1_twins_16 (mi : MI) (w : WS) (k4 : Nat → Int32 → Int32 → Option Int32) : Nat → Nat → Int32 → Int32 → Int32 → Option Int32
  | 0, _, _, _, _ => none
  | n + 1, i0, x1, x2, x3 => if (mi 5 i0 3) ≤ x3 then k4 i0 x1 (x2 + 1) else ck (¬ (x2 < 0 ∨ 6 ≤ x2.toNatClampNeg)) (ck (¬ (x3 < 0 ∨ 6 ≤ x3.toNatClampNeg)) ((F_X1_areTwins mi w i0 (mi 26 i0 x2.toNatClampNeg) (mi 26 i0 x3.toNatClampNeg)).bind fun c39 => L_X1_twins_16 mi w k4 n i0 (if c39 = 0 then x1 else x1 + 1) x2 (x3 + 1)))

theorem l_X1_twins_16 {gl : Nat} {gx : Nat → Int32} {d : Nat} {P : PL} {Q : PO} {lv : LV} {mi : MI} {w : WS} {k4 : Nat → Int32 → Int32 → Option Int32} (hk4 : ∀ {i0 : Nat} {x1 : Int32} {x2 : Int32} {v3 : AV} {r : Int32}, k4 i0 x1 x2 = some r → (Q (aI r) (mi, RS w, lv)) → Wp gl gx (d + 2) P 25 4 [aR 5 i0, aI x1, aI x2, v3] [] (mi, RS w, lv) Q) (n : Nat) : ∀ {i0 : Nat} {x1 : Int32} {x2 : Int32} {x3 : Int32} {r : Int32}, L_X1_twins_16 mi w k4 n i0 x1 x2 x3 = some r → (Q (aI r) (mi, RS w, lv)) → Wp gl gx (d + 2) P 25 16 [aR 5 i0, aI x1, aI x2, aI x3] [] (mi, RS w, lv) Q := by
  induction n with
  | zero => intro i0 x1 x2 x3 r hf h0; exact o_none hf
  | succ n ih => intro i0 x1 x2 x3 r hf h0; exact r_X1_twins_16 (⟨fun q530 => k_ifp q530 hf (fun q532 => hk4 q532 h0), fun q531 => k_ifn q531 hf (fun q532 => k_ck q532 (fun q534 q533 => ⟨q534, k_ck q533 (fun q536 q535 => ⟨q536, o_bind q535 (fun c39 qc39 pc39 => ⟨c39, qc39, ih pc39 h0⟩)⟩)⟩))⟩)

def L_X1_twins_4 (mi : MI) (w : WS) : Nat → Nat → Int32 → Int32 → Option Int32
  | 0, _, _, _ => none
  | n + 1, i0, x1, x2 => if (mi 5 i0 3) ≤ x2 then some x1 else L_X1_twins_16 mi w (fun i0 x1 x2 => L_X1_twins_4 mi w n i0 x1 x2) 1000000 i0 x1 x2 (x2 + 1)

theorem l_X1_twins_4 {gl : Nat} {gx : Nat → Int32} {d : Nat} {P : PL} {Q : PO} {lv : LV} {mi : MI} {w : WS} (n : Nat) : ∀ {i0 : Nat} {x1 : Int32} {x2 : Int32} {v3 : AV} {r : Int32}, L_X1_twins_4 mi w n i0 x1 x2 = some r → (Q (aI r) (mi, RS w, lv)) → Wp gl gx (d + 2) P 25 4 [aR 5 i0, aI x1, aI x2, v3] [] (mi, RS w, lv) Q := by
  induction n with
  | zero => intro i0 x1 x2 v3 r hf h0; exact o_none hf
  | succ n ih => intro i0 x1 x2 v3 r hf h0; exact r_X1_twins_4 (⟨fun q537 => k_ifp q537 hf (fun q539 => o_rP q539 h0), fun q538 => k_ifn q538 hf (fun q539 => l_X1_twins_16 (fun hf h0 => ih hf h0) 1000000 q539 h0)⟩)

def F_X1_twins (mi : MI) (w : WS) (i0 : Nat) : Option Int32 := L_X1_twins_4 mi w 1000000 i0 0 0

theorem s_X1_twins {gl : Nat} {gx : Nat → Int32} {d : Nat} {P : PL} {Q : PO} {mi : MI} {w : WS} {lv : LV} {i0 : Nat} {r : Int32} (hf : F_X1_twins mi w i0 = some r) (h0 : Q (aI r) (mi, RS w, lv)) : Wp gl gx (d + 2) P 25 0 [aR 5 i0, aU, aU, aU] [] (mi, RS w, lv) Q := r_X1_twins_0 (l_X1_twins_4 1000000 hf h0)

abbrev row_43 : MT := (⟨"StencilHouse$Orders", "fill", "(II)V"⟩, prog_5_method_4_code, 5, none, 1, lk_3)
set_option maxRecDepth 20000 in
theorem mt_43 : mt 43 = some row_43 := rfl
theorem r_X3_fill_5 {gl : Nat} {gx : Nat → Int32} {d : Nat} {P : PL} {Q : PO} {mi : MI} {w : WS} {lv : LV} {x1 : Int32} {x2 : Int32} {x3 : Int32} {x4 : Int32} (h : (((mi 2 0 6) ≤ x4) → Q aU (mi, RS w, lv)) ∧ (¬ ((mi 2 0 6) ≤ x4) → (∃ c40 : Int32, F_X3_leastUnused mi w x3 0 = some c40 ∧ (vp_in x4 6) ∧ ((∀ m41 : MI, m41 = u3 mi 42 0 x4.toNatClampNeg c40 → (vp_in x4 6) ∧ (Wp gl gx (d + 1) P 43 5 [aR 2 0, aI x1, aI x2, aI (x3 ||| ((1 : Int32) <<< ((m41 42 0 x4.toNatClampNeg) &&& 31))), aI (x4 + 1)] [] (m41, RS w, lv) Q)))))) : Wp gl gx (d + 1) P 43 5 [aR 2 0, aI x1, aI x2, aI x3, aI x4] [] (mi, RS w, lv) Q := 
  wpT row_43 mt_43 [.iload 4, .aload_n 0, .getfield 31, .if_icmp .ge 34] (by decide +kernel) [(45, [.return_]), (14, [.aload_n 0, .getfield 9, .iload 4, .aload_n 0, .iload_n 3, .iconst 0, .invokevirtual 44]), (26, [.iastore]), (27, [.iload_n 3, .iconst 1, .aload_n 0, .getfield 9, .iload 4, .iaload]), (36, [.ishl, .ior, .istore_n 3, .iinc 4 1, .goto (.negSucc 36)])] (by decide +kernel) 68 (And.intro (fun q540 => (h.1 q540)) (fun q541 => Exists.elim (h.2 q541) (fun c40 zc40 => And.intro ⟨Nat.le_of_ble_eq_true rfl, rfl, rfl⟩ (s_X3_leastUnused (d := d) zc40.1 (And.intro zc40.2.1 (And.intro (zc40.2.2 _ rfl).1 ((zc40.2.2 _ rfl).2)))))))

theorem r_X3_fill_0 {gl : Nat} {gx : Nat → Int32} {d : Nat} {P : PL} {Q : PO} {mi : MI} {w : WS} {lv : LV} {x1 : Int32} {x2 : Int32} (h : Wp gl gx (d + 1) P 43 5 [aR 2 0, aI x1, aI x2, aI x2, aI x1] [] (mi, RS w, lv) Q) : Wp gl gx (d + 1) P 43 0 [aR 2 0, aI x1, aI x2, aU, aU] [] (mi, RS w, lv) Q := 
  wpT row_43 mt_43 [.iload_n 2, .istore_n 3, .iload_n 1, .istore 4] (by decide +kernel) [] (by decide +kernel) 28 (h)

def L_X3_fill_5 (w : WS) : Nat → MI → Int32 → Int32 → Int32 → Int32 → Option MI
  | 0, _, _, _, _, _ => none
  | n + 1, mi, x1, x2, x3, x4 => if (mi 2 0 6) ≤ x4 then some mi else (F_X3_leastUnused mi w x3 0).bind fun c40 => ck (¬ (x4 < 0 ∨ 6 ≤ x4.toNatClampNeg)) (lt (u3 mi 42 0 x4.toNatClampNeg c40) fun m41 => ck (¬ (x4 < 0 ∨ 6 ≤ x4.toNatClampNeg)) (L_X3_fill_5 w n m41 x1 x2 (x3 ||| ((1 : Int32) <<< ((m41 42 0 x4.toNatClampNeg) &&& 31))) (x4 + 1)))

theorem l_X3_fill_5 {gl : Nat} {gx : Nat → Int32} {d : Nat} {P : PL} {Q : PO} {lv : LV} {w : WS} (n : Nat) : ∀ {mi : MI} {x1 : Int32} {x2 : Int32} {x3 : Int32} {x4 : Int32} {r : MI}, L_X3_fill_5 w n mi x1 x2 x3 x4 = some r → (Q aU (r, RS w, lv)) → Wp gl gx (d + 1) P 43 5 [aR 2 0, aI x1, aI x2, aI x3, aI x4] [] (mi, RS w, lv) Q := by
  induction n with
  | zero => intro mi x1 x2 x3 x4 r hf h0; exact o_none hf
  | succ n ih => intro mi x1 x2 x3 x4 r hf h0; exact r_X3_fill_5 (⟨fun q542 => k_ifp q542 hf (fun q544 => o_rMV q544 h0), fun q543 => k_ifn q543 hf (fun q544 => o_bind q544 (fun c40 qc40 pc40 => ⟨c40, qc40, k_ck pc40 (fun q546 q545 => ⟨q546, fun m41 hm41 => k_lt q545 hm41 (fun q547 => k_ck q547 (fun q549 q548 => ⟨q549, ih q548 h0⟩))⟩)⟩))⟩)

def F_X3_fill (mi : MI) (w : WS) (x1 : Int32) (x2 : Int32) : Option MI := L_X3_fill_5 w 1000000 mi x1 x2 x2 x1

theorem s_X3_fill {gl : Nat} {gx : Nat → Int32} {d : Nat} {P : PL} {Q : PO} {mi : MI} {w : WS} {lv : LV} {x1 : Int32} {x2 : Int32} {r : MI} (hf : F_X3_fill mi w x1 x2 = some r) (h0 : Q aU (r, RS w, lv)) : Wp gl gx (d + 1) P 43 0 [aR 2 0, aI x1, aI x2, aU, aU] [] (mi, RS w, lv) Q := r_X3_fill_0 (l_X3_fill_5 1000000 hf h0)

abbrev row_48 : MT := (⟨"StencilHouse$Orders", "makesWanted", "(LStencilHouse$Shop;)Z"⟩, prog_5_method_9_code, 6, some .boolean, 1, lk_3)
set_option maxRecDepth 20000 in
theorem mt_48 : mt 48 = some row_48 := rfl
theorem r_X3_makesWanted_9 {gl : Nat} {gx : Nat → Int32} {d : Nat} {P : PL} {Q : PO} {mi : MI} {w : WS} {lv : LV} {i1 : Nat} {x2 : Int32} {x3 : Int32} {v4 : AV} {v5 : AV} (h : ((x3 < 0) → Q (aI (b2 ((((mi 5 i1 7) &&& (x2 ^^^ (-1))) &&& ((mi 45 0 0) ^^^ (-1))) = 0))) (mi, RS w, lv)) ∧ (¬ (x3 < 0) → (vp_in x3 6) ∧ ((vp_in (mi 42 0 x3.toNatClampNeg) 6) ∧ ((∃ c42 : Int32, F_X3_colourOfAll mi w ((mi 28 i1 ((mi 42 0 x3.toNatClampNeg).toNatClampNeg)) &&& (x2 ^^^ (-1))) = some c42 ∧ ((((mi 28 i1 ((mi 42 0 x3.toNatClampNeg).toNatClampNeg)) &&& (x2 ^^^ (-1))) = 0) → Q (aI 0) (mi, RS w, lv)) ∧ (¬ (((mi 28 i1 ((mi 42 0 x3.toNatClampNeg).toNatClampNeg)) &&& (x2 ^^^ (-1))) = 0) → (¬ (c42 = (-1)) → (vp_in x3 6) ∧ ((vp_in x3 6) ∧ ((∀ m43 : MI, m43 = u3 mi 44 0 x3.toNatClampNeg (((mi 42 0 x3.toNatClampNeg) * 10) + c42) → Wp gl gx (d + 1) P 48 9 [aR 2 0, aR 5 i1, aI (x2 ||| ((mi 28 i1 ((mi 42 0 x3.toNatClampNeg).toNatClampNeg)) &&& (x2 ^^^ (-1)))), aI (x3 + (-1)), aI ((mi 28 i1 ((mi 42 0 x3.toNatClampNeg).toNatClampNeg)) &&& (x2 ^^^ (-1))), aI c42] [] (m43, RS w, lv) Q)))) ∧ ((c42 = (-1)) → Q (aI 0) (mi, RS w, lv)))))))) : Wp gl gx (d + 1) P 48 9 [aR 2 0, aR 5 i1, aI x2, aI x3, v4, v5] [] (mi, RS w, lv) Q := 
  wpT row_48 mt_48 [.iload_n 3, .ifCond .lt 70] (by decide +kernel) [(80, [.aload_n 1, .getfield 92, .iload_n 2, .iconst (.negSucc 0), .ixor, .iand, .aload_n 0, .getfield 21, .iconst 0, .iaload]), (94, [.iconst (.negSucc 0), .ixor, .iand, .ifCond .ne 7]), (104, [.iconst 0, .ireturn]), (100, [.iconst 1, .goto 4]), (105, [.ireturn]), (13, [.aload_n 1, .getfield 85, .aload_n 0, .getfield 9, .iload_n 3, .iaload]), (23, [.iaload]), (24, [.iload_n 2, .iconst (.negSucc 0), .ixor, .iand, .istore 4, .aload_n 0, .iload 4, .invokevirtual 88]), (36, [.istore 5, .iload 4, .ifCond .eq 9]), (49, [.iconst 0, .ireturn]), (43, [.iload 5, .iconst (.negSucc 0), .if_icmp .ne 5]), (51, [.aload_n 0, .getfield 18, .iload_n 3, .aload_n 0, .getfield 9, .iload_n 3, .iaload]), (62, [.bipush 10, .imul, .iload 5, .iadd, .iastore]), (69, [.iload_n 2, .iload 4, .ior, .istore_n 2, .iinc 3 (.negSucc 0), .goto (.negSucc 67)])] (by decide +kernel) 144 (And.intro (fun q550 => And.intro (vpd (by decide)) (And.intro (fun q552 => And.intro rfl (mv9 (fun v => Q (aI v) (mi, RS w, lv)) (show (b2 ((((mi 5 i1 7) &&& (x2 ^^^ (-1))) &&& ((mi 45 0 0) ^^^ (-1))) = 0)) = 0 from b2_f (show ¬ ((((mi 5 i1 7) &&& (x2 ^^^ (-1))) &&& ((mi 45 0 0) ^^^ (-1))) = 0) from q552)) (h.1 q550))) (fun q553 => And.intro rfl (mv9 (fun v => Q (aI v) (mi, RS w, lv)) (show (b2 ((((mi 5 i1 7) &&& (x2 ^^^ (-1))) &&& ((mi 45 0 0) ^^^ (-1))) = 0)) = 1 from b2_t (show (((mi 5 i1 7) &&& (x2 ^^^ (-1))) &&& ((mi 45 0 0) ^^^ (-1))) = 0 from q553)) (h.1 q550))))) (fun q551 => And.intro (h.2 q551).1 (And.intro (h.2 q551).2.1 (Exists.elim ((h.2 q551).2.2) (fun c42 zc42 => And.intro ⟨Nat.le_of_ble_eq_true rfl, rfl, rfl⟩ (s_X3_colourOfAll (d := d) zc42.1 (And.intro (fun q554 => And.intro rfl (zc42.2.1 q554)) (fun q555 => And.intro (fun q556 => And.intro ((zc42.2.2 q555).1 q556).1 (And.intro ((zc42.2.2 q555).1 q556).2.1 ((((zc42.2.2 q555).1 q556).2.2 _ rfl)))) (fun q557 => And.intro rfl ((zc42.2.2 q555).2 q557))))))))))

theorem r_X3_makesWanted_0 {gl : Nat} {gx : Nat → Int32} {d : Nat} {P : PL} {Q : PO} {mi : MI} {w : WS} {lv : LV} {i1 : Nat} (h : Wp gl gx (d + 1) P 48 9 [aR 2 0, aR 5 i1, aI 0, aI ((mi 2 0 6) - 1), aU, aU] [] (mi, RS w, lv) Q) : Wp gl gx (d + 1) P 48 0 [aR 2 0, aR 5 i1, aU, aU, aU, aU] [] (mi, RS w, lv) Q := 
  wpT row_48 mt_48 [.iconst 0, .istore_n 2, .aload_n 0, .getfield 31, .iconst 1, .isub, .istore_n 3] (by decide +kernel) [] (by decide +kernel) 34 (h)

def L_X3_makesWanted_9 (w : WS) : Nat → MI → Nat → Int32 → Int32 → Option (Int32 × MI)
  | 0, _, _, _, _ => none
  | n + 1, mi, i1, x2, x3 => if x3 < 0 then some (b2 ((((mi 5 i1 7) &&& (x2 ^^^ (-1))) &&& ((mi 45 0 0) ^^^ (-1))) = 0), mi) else ck (¬ (x3 < 0 ∨ 6 ≤ x3.toNatClampNeg)) (ck (¬ ((mi 42 0 x3.toNatClampNeg) < 0 ∨ 6 ≤ (mi 42 0 x3.toNatClampNeg).toNatClampNeg)) ((F_X3_colourOfAll mi w ((mi 28 i1 ((mi 42 0 x3.toNatClampNeg).toNatClampNeg)) &&& (x2 ^^^ (-1)))).bind fun c42 => if ((mi 28 i1 ((mi 42 0 x3.toNatClampNeg).toNatClampNeg)) &&& (x2 ^^^ (-1))) = 0 then some ((0 : Int32), mi) else if c42 = (-1) then some ((0 : Int32), mi) else ck (¬ (x3 < 0 ∨ 6 ≤ x3.toNatClampNeg)) (ck (¬ (x3 < 0 ∨ 6 ≤ x3.toNatClampNeg)) (lt (u3 mi 44 0 x3.toNatClampNeg (((mi 42 0 x3.toNatClampNeg) * 10) + c42)) fun m43 => L_X3_makesWanted_9 w n m43 i1 (x2 ||| ((mi 28 i1 ((mi 42 0 x3.toNatClampNeg).toNatClampNeg)) &&& (x2 ^^^ (-1)))) (x3 + (-1))))))

theorem l_X3_makesWanted_9 {gl : Nat} {gx : Nat → Int32} {d : Nat} {P : PL} {Q : PO} {lv : LV} {w : WS} (n : Nat) : ∀ {mi : MI} {i1 : Nat} {x2 : Int32} {x3 : Int32} {v4 : AV} {v5 : AV} {r : (Int32 × MI)}, L_X3_makesWanted_9 w n mi i1 x2 x3 = some r → (Q (aI r.1) (r.2, RS w, lv)) → Wp gl gx (d + 1) P 48 9 [aR 2 0, aR 5 i1, aI x2, aI x3, v4, v5] [] (mi, RS w, lv) Q := by
  induction n with
  | zero => intro mi i1 x2 x3 v4 v5 r hf h0; exact o_none hf
  | succ n ih => intro mi i1 x2 x3 v4 v5 r hf h0; exact r_X3_makesWanted_9 (⟨fun q558 => k_ifp q558 hf (fun q560 => o_rM q560 h0), fun q559 => k_ifn q559 hf (fun q560 => k_ck q560 (fun q562 q561 => ⟨q562, k_ck q561 (fun q564 q563 => ⟨q564, o_bind q563 (fun c42 qc42 pc42 => ⟨c42, qc42, ⟨fun q565 => k_ifp q565 pc42 (fun q567 => o_rM q567 h0), fun q566 => k_ifn q566 pc42 (fun q567 => ⟨fun q568 => k_ifn q568 q567 (fun q570 => k_ck q570 (fun q572 q571 => ⟨q572, k_ck q571 (fun q574 q573 => ⟨q574, fun m43 hm43 => k_lt q573 hm43 (fun q575 => ih q575 h0)⟩)⟩)), fun q569 => k_ifp q569 q567 (fun q570 => o_rM q570 h0)⟩)⟩⟩)⟩)⟩))⟩)

def F_X3_makesWanted (mi : MI) (w : WS) (i1 : Nat) : Option (Int32 × MI) := L_X3_makesWanted_9 w 1000000 mi i1 0 ((mi 2 0 6) - 1)

theorem s_X3_makesWanted {gl : Nat} {gx : Nat → Int32} {d : Nat} {P : PL} {Q : PO} {mi : MI} {w : WS} {lv : LV} {i1 : Nat} {r : (Int32 × MI)} (hf : F_X3_makesWanted mi w i1 = some r) (h0 : Q (aI r.1) (r.2, RS w, lv)) : Wp gl gx (d + 1) P 48 0 [aR 2 0, aR 5 i1, aU, aU, aU, aU] [] (mi, RS w, lv) Q := r_X3_makesWanted_0 (l_X3_makesWanted_9 1000000 hf h0)

abbrev row_56 : MT := (⟨"StencilHouse$Orders", "fitsAll", "(LStencilHouse$Shop;LStencilHouse$Marks;)Z"⟩, prog_5_method_17_code, 5, some .boolean, 1, lk_3)
set_option maxRecDepth 20000 in
theorem mt_56 : mt 56 = some row_56 := rfl
theorem r_X3_fitsAll_2 {gl : Nat} {gx : Nat → Int32} {d : Nat} {P : PL} {Q : PO} {mi : MI} {w : WS} {lv : LV} {i1 : Nat} {i2 : Nat} {x3 : Int32} {v4 : AV} (h : (((mi 1 i2 0) ≤ x3) → Q (aI 1) (mi, RS w, lv)) ∧ (¬ ((mi 1 i2 0) ≤ x3) → (vp_in x3 8) ∧ ((vp_in x3 8) ∧ ((¬ ((mi 31 i2 x3.toNatClampNeg) < 0) ∧ (¬ ((mi 5 i1 0) ≤ (mi 31 i2 x3.toNatClampNeg)) ∧ (¬ ((mi 32 i2 x3.toNatClampNeg) < 0) ∧ (¬ ((mi 5 i1 1) ≤ (mi 32 i2 x3.toNatClampNeg))))) → (vp_in x3 8) ∧ ((vp_in x3 8) ∧ ((∃ c44 : Int32, F_X3_topAt mi w i1 (((mi 32 i2 x3.toNatClampNeg) * (mi 5 i1 0)) + (mi 31 i2 x3.toNatClampNeg)) = some c44 ∧ (vp_in x3 8) ∧ (((c44 = (mi 33 i2 x3.toNatClampNeg)) → Wp gl gx (d + 2) P 56 2 [aR 2 0, aR 5 i1, aR 1 i2, aI (x3 + 1), aI (((mi 32 i2 x3.toNatClampNeg) * (mi 5 i1 0)) + (mi 31 i2 x3.toNatClampNeg))] [] (mi, RS w, lv) Q) ∧ (¬ (c44 = (mi 33 i2 x3.toNatClampNeg)) → Q (aI 0) (mi, RS w, lv))))))) ∧ (¬ (¬ ((mi 31 i2 x3.toNatClampNeg) < 0) ∧ (¬ ((mi 5 i1 0) ≤ (mi 31 i2 x3.toNatClampNeg)) ∧ (¬ ((mi 32 i2 x3.toNatClampNeg) < 0) ∧ (¬ ((mi 5 i1 1) ≤ (mi 32 i2 x3.toNatClampNeg)))))) → Q (aI 0) (mi, RS w, lv)))))) : Wp gl gx (d + 2) P 56 2 [aR 2 0, aR 5 i1, aR 1 i2, aI x3, v4] [] (mi, RS w, lv) Q := 
  wpT row_56 mt_56 [.iload_n 3, .aload_n 2, .getfield 120, .if_icmp .ge 68] (by decide +kernel) [(75, [.iconst 1, .ireturn]), (10, [.aload_n 1, .aload_n 2, .getfield 125, .iload_n 3, .iaload]), (17, [.aload_n 2, .getfield 128, .iload_n 3, .iaload]), (23, [.invokevirtual 131]), (26, [.ifCond .ne 5]), (31, [.aload_n 2, .getfield 128, .iload_n 3, .iaload]), (37, [.aload_n 1, .getfield 135, .imul, .aload_n 2, .getfield 125, .iload_n 3, .iaload]), (48, [.iadd, .istore 4, .aload_n 0, .aload_n 1, .iload 4, .invokevirtual 138]), (58, [.aload_n 2, .getfield 141, .iload_n 3, .iaload]), (64, [.if_icmp .eq 5]), (69, [.iinc 3 1, .goto (.negSucc 69)]), (67, [.iconst 0, .ireturn]), (29, [.iconst 0, .ireturn])] (by decide +kernel) 110 (And.intro (fun q576 => And.intro rfl (h.1 q576)) (fun q577 => And.intro (h.2 q577).1 (And.intro (h.2 q577).2.1 (And.intro ⟨Nat.le_of_ble_eq_true rfl, rfl, rfl⟩ (s_X6_hasPlace (d := d + 1) (And.intro (fun q578 => And.intro ((h.2 q577).2.2.1 (b2_n q578)).1 (And.intro ((h.2 q577).2.2.1 (b2_n q578)).2.1 (Exists.elim (((h.2 q577).2.2.1 (b2_n q578)).2.2) (fun c44 zc44 => And.intro ⟨Nat.le_of_ble_eq_true rfl, rfl, rfl⟩ (s_X3_topAt (d := d) zc44.1 (And.intro zc44.2.1 (And.intro (fun q580 => (zc44.2.2.1 q580)) (fun q581 => And.intro rfl (zc44.2.2.2 q581))))))))) (fun q579 => And.intro rfl ((h.2 q577).2.2.2 (b2_0 q579)))))))))

theorem r_X3_fitsAll_0 {gl : Nat} {gx : Nat → Int32} {d : Nat} {P : PL} {Q : PO} {mi : MI} {w : WS} {lv : LV} {i1 : Nat} {i2 : Nat} (h : Wp gl gx (d + 2) P 56 2 [aR 2 0, aR 5 i1, aR 1 i2, aI 0, aU] [] (mi, RS w, lv) Q) : Wp gl gx (d + 2) P 56 0 [aR 2 0, aR 5 i1, aR 1 i2, aU, aU] [] (mi, RS w, lv) Q := 
  wpT row_56 mt_56 [.iconst 0, .istore_n 3] (by decide +kernel) [] (by decide +kernel) 24 (h)

def L_X3_fitsAll_2 (mi : MI) (w : WS) : Nat → Nat → Nat → Int32 → Option Int32
  | 0, _, _, _ => none
  | n + 1, i1, i2, x3 => if (mi 1 i2 0) ≤ x3 then some (1 : Int32) else ck (¬ (x3 < 0 ∨ 8 ≤ x3.toNatClampNeg)) (ck (¬ (x3 < 0 ∨ 8 ≤ x3.toNatClampNeg)) (if ¬ ((mi 31 i2 x3.toNatClampNeg) < 0) ∧ (¬ ((mi 5 i1 0) ≤ (mi 31 i2 x3.toNatClampNeg)) ∧ (¬ ((mi 32 i2 x3.toNatClampNeg) < 0) ∧ (¬ ((mi 5 i1 1) ≤ (mi 32 i2 x3.toNatClampNeg))))) then ck (¬ (x3 < 0 ∨ 8 ≤ x3.toNatClampNeg)) (ck (¬ (x3 < 0 ∨ 8 ≤ x3.toNatClampNeg)) ((F_X3_topAt mi w i1 (((mi 32 i2 x3.toNatClampNeg) * (mi 5 i1 0)) + (mi 31 i2 x3.toNatClampNeg))).bind fun c44 => ck (¬ (x3 < 0 ∨ 8 ≤ x3.toNatClampNeg)) (if c44 = (mi 33 i2 x3.toNatClampNeg) then L_X3_fitsAll_2 mi w n i1 i2 (x3 + 1) else some (0 : Int32)))) else some (0 : Int32)))

theorem l_X3_fitsAll_2 {gl : Nat} {gx : Nat → Int32} {d : Nat} {P : PL} {Q : PO} {lv : LV} {mi : MI} {w : WS} (n : Nat) : ∀ {i1 : Nat} {i2 : Nat} {x3 : Int32} {v4 : AV} {r : Int32}, L_X3_fitsAll_2 mi w n i1 i2 x3 = some r → (Q (aI r) (mi, RS w, lv)) → Wp gl gx (d + 2) P 56 2 [aR 2 0, aR 5 i1, aR 1 i2, aI x3, v4] [] (mi, RS w, lv) Q := by
  induction n with
  | zero => intro i1 i2 x3 v4 r hf h0; exact o_none hf
  | succ n ih => intro i1 i2 x3 v4 r hf h0; exact r_X3_fitsAll_2 (⟨fun q582 => k_ifp q582 hf (fun q584 => o_rP q584 h0), fun q583 => k_ifn q583 hf (fun q584 => k_ck q584 (fun q586 q585 => ⟨q586, k_ck q585 (fun q588 q587 => ⟨q588, ⟨fun q589 => k_ifp q589 q587 (fun q591 => k_ck q591 (fun q593 q592 => ⟨q593, k_ck q592 (fun q595 q594 => ⟨q595, o_bind q594 (fun c44 qc44 pc44 => ⟨c44, qc44, k_ck pc44 (fun q597 q596 => ⟨q597, ⟨fun q598 => k_ifp q598 q596 (fun q600 => ih q600 h0), fun q599 => k_ifn q599 q596 (fun q600 => o_rP q600 h0)⟩⟩)⟩)⟩)⟩)), fun q590 => k_ifn q590 q587 (fun q591 => o_rP q591 h0)⟩⟩)⟩))⟩)

def F_X3_fitsAll (mi : MI) (w : WS) (i1 : Nat) (i2 : Nat) : Option Int32 := L_X3_fitsAll_2 mi w 1000000 i1 i2 0

theorem s_X3_fitsAll {gl : Nat} {gx : Nat → Int32} {d : Nat} {P : PL} {Q : PO} {mi : MI} {w : WS} {lv : LV} {i1 : Nat} {i2 : Nat} {r : Int32} (hf : F_X3_fitsAll mi w i1 i2 = some r) (h0 : Q (aI r) (mi, RS w, lv)) : Wp gl gx (d + 2) P 56 0 [aR 2 0, aR 5 i1, aR 1 i2, aU, aU] [] (mi, RS w, lv) Q := r_X3_fitsAll_0 (l_X3_fitsAll_2 1000000 hf h0)

abbrev row_41 : MT := (⟨"StencilHouse$Orders", "begin", "(II)V"⟩, prog_5_method_2_code, 3, none, 1, lk_3)
set_option maxRecDepth 20000 in
theorem mt_41 : mt 41 = some row_41 := rfl
theorem r_X3_begin_0 {gl : Nat} {gx : Nat → Int32} {d : Nat} {P : PL} {Q : PO} {mi : MI} {w : WS} {lv : LV} {x1 : Int32} {x2 : Int32} (h : (∀ m45 : MI, m45 = u3 (u3 mi 2 0 5 (imin x1 6)) 2 0 6 (imin x2 ((u3 mi 2 0 5 (imin x1 6)) 2 0 5)) → (∃ c46 : MI, F_X3_fill m45 w 0 0 = some c46 ∧ Q aU (c46, RS w, lv)))) : Wp gl gx (d + 2) P 41 0 [aR 2 0, aI x1, aI x2] [] (mi, RS w, lv) Q := 
  wpT row_41 mt_41 [.aload_n 0, .iload_n 1, .bipush 6, .invokestatic 34] (by decide +kernel) [(7, [.putfield 27, .aload_n 0, .iload_n 2, .aload_n 0, .getfield 27, .invokestatic 34]), (19, [.putfield 31]), (22, [.aload_n 0, .iconst 0, .iconst 0, .invokevirtual 40]), (28, [.return_])] (by decide +kernel) 52 (And.intro (Nat.le_of_ble_eq_true rfl) (And.intro (Nat.le_of_ble_eq_true rfl) (Exists.elim (h _ rfl) (fun c46 zc46 => And.intro ⟨Nat.le_of_ble_eq_true rfl, rfl, rfl⟩ (s_X3_fill (d := d) zc46.1 (zc46.2))))))

def F_X3_begin (mi : MI) (w : WS) (x1 : Int32) (x2 : Int32) : Option MI := lt (u3 (u3 mi 2 0 5 (imin x1 6)) 2 0 6 (imin x2 ((u3 mi 2 0 5 (imin x1 6)) 2 0 5))) fun m45 => (F_X3_fill m45 w 0 0).bind fun c46 => some c46

theorem s_X3_begin {gl : Nat} {gx : Nat → Int32} {d : Nat} {P : PL} {Q : PO} {mi : MI} {w : WS} {lv : LV} {x1 : Int32} {x2 : Int32} {r : MI} (hf : F_X3_begin mi w x1 x2 = some r) (h0 : Q aU (r, RS w, lv)) : Wp gl gx (d + 2) P 41 0 [aR 2 0, aI x1, aI x2] [] (mi, RS w, lv) Q := r_X3_begin_0 (fun m45 hm45 => k_lt hf hm45 (fun q601 => o_bind q601 (fun c46 qc46 pc46 => ⟨c46, qc46, o_rMV pc46 h0⟩)))

abbrev row_42 : MT := (⟨"StencilHouse$Orders", "advance", "()Z"⟩, prog_5_method_3_code, 4, some .boolean, 1, lk_3)
set_option maxRecDepth 20000 in
theorem mt_42 : mt 42 = some row_42 := rfl
theorem r_X3_advance_36 {gl : Nat} {gx : Nat → Int32} {d : Nat} {P : PL} {Q : PO} {mi : MI} {w : WS} {lv : LV} {x1 : Int32} {x2 : Int32} {v3 : AV} (h : ((x2 < 0) → Q (aI 0) (mi, RS w, lv)) ∧ (¬ (x2 < 0) → (vp_in x2 6) ∧ ((vp_in x2 6) ∧ ((∃ c47 : Int32, F_X3_leastUnused mi w (x1 &&& (((1 : Int32) <<< ((mi 42 0 x2.toNatClampNeg) &&& 31)) ^^^ (-1))) ((mi 42 0 x2.toNatClampNeg) + 1) = some c47 ∧ (((mi 2 0 5) ≤ c47) → Wp gl gx (d + 2) P 42 36 [aR 2 0, aI (x1 &&& (((1 : Int32) <<< ((mi 42 0 x2.toNatClampNeg) &&& 31)) ^^^ (-1))), aI (x2 + (-1)), aI c47] [] (mi, RS w, lv) Q) ∧ (¬ ((mi 2 0 5) ≤ c47) → (vp_in x2 6) ∧ ((∀ m48 : MI, m48 = u3 mi 42 0 x2.toNatClampNeg c47 → (∃ c49 : MI, F_X3_fill m48 w (x2 + 1) ((x1 &&& (((1 : Int32) <<< ((mi 42 0 x2.toNatClampNeg) &&& 31)) ^^^ (-1))) ||| ((1 : Int32) <<< (c47 &&& 31))) = some c49 ∧ Q (aI 1) (c49, RS w, lv)))))))))) : Wp gl gx (d + 2) P 42 36 [aR 2 0, aI x1, aI x2, v3] [] (mi, RS w, lv) Q := 
  wpT row_42 mt_42 [.iload_n 2, .ifCond .lt 65] (by decide +kernel) [(102, [.iconst 0, .ireturn]), (40, [.iload_n 1, .iconst 1, .aload_n 0, .getfield 9, .iload_n 2, .iaload]), (48, [.ishl, .iconst (.negSucc 0), .ixor, .iand, .istore_n 1, .aload_n 0, .iload_n 1, .aload_n 0, .getfield 9, .iload_n 2, .iaload]), (61, [.iconst 1, .iadd, .invokevirtual 44]), (66, [.istore_n 3, .iload_n 3, .aload_n 0, .getfield 27, .if_icmp .ge 24]), (96, [.iinc 2 (.negSucc 0), .goto (.negSucc 62)]), (75, [.aload_n 0, .getfield 9, .iload_n 2, .iload_n 3, .iastore]), (82, [.aload_n 0, .iload_n 2, .iconst 1, .iadd, .iload_n 1, .iconst 1, .iload_n 3, .ishl, .ior, .invokevirtual 40]), (94, [.iconst 1, .ireturn])] (by decide +kernel) 116 (And.intro (fun q602 => And.intro rfl (h.1 q602)) (fun q603 => And.intro (h.2 q603).1 (And.intro (h.2 q603).2.1 (Exists.elim ((h.2 q603).2.2) (fun c47 zc47 => And.intro ⟨Nat.le_of_ble_eq_true rfl, rfl, rfl⟩ (s_X3_leastUnused (d := d + 1) zc47.1 (And.intro (fun q604 => (zc47.2.1 q604)) (fun q605 => And.intro (zc47.2.2 q605).1 (Exists.elim ((zc47.2.2 q605).2 _ rfl) (fun c49 zc49 => And.intro ⟨Nat.le_of_ble_eq_true rfl, rfl, rfl⟩ (s_X3_fill (d := d) zc49.1 (And.intro rfl zc49.2))))))))))))

theorem r_X3_advance_4 {gl : Nat} {gx : Nat → Int32} {d : Nat} {P : PL} {Q : PO} {mi : MI} {w : WS} {lv : LV} {x1 : Int32} {x2 : Int32} {v3 : AV} (h : (((mi 2 0 6) ≤ x2) → Wp gl gx (d + 2) P 42 36 [aR 2 0, aI x1, aI ((mi 2 0 6) - 1), v3] [] (mi, RS w, lv) Q) ∧ (¬ ((mi 2 0 6) ≤ x2) → (vp_in x2 6) ∧ (Wp gl gx (d + 2) P 42 4 [aR 2 0, aI (x1 ||| ((1 : Int32) <<< ((mi 42 0 x2.toNatClampNeg) &&& 31))), aI (x2 + 1), v3] [] (mi, RS w, lv) Q))) : Wp gl gx (d + 2) P 42 4 [aR 2 0, aI x1, aI x2, v3] [] (mi, RS w, lv) Q := 
  wpT row_42 mt_42 [.iload_n 2, .aload_n 0, .getfield 31, .if_icmp .ge 20] (by decide +kernel) [(29, [.aload_n 0, .getfield 31, .iconst 1, .isub, .istore_n 2]), (12, [.iload_n 1, .iconst 1, .aload_n 0, .getfield 9, .iload_n 2, .iaload]), (20, [.ishl, .ior, .istore_n 1, .iinc 2 1, .goto (.negSucc 21)])] (by decide +kernel) 60 (And.intro (fun q606 => (h.1 q606)) (fun q607 => And.intro (h.2 q607).1 ((h.2 q607).2)))

theorem r_X3_advance_0 {gl : Nat} {gx : Nat → Int32} {d : Nat} {P : PL} {Q : PO} {mi : MI} {w : WS} {lv : LV}  (h : Wp gl gx (d + 2) P 42 4 [aR 2 0, aI 0, aI 0, aU] [] (mi, RS w, lv) Q) : Wp gl gx (d + 2) P 42 0 [aR 2 0, aU, aU, aU] [] (mi, RS w, lv) Q := 
  wpT row_42 mt_42 [.iconst 0, .istore_n 1, .iconst 0, .istore_n 2] (by decide +kernel) [] (by decide +kernel) 28 (h)

def L_X3_advance_36 (w : WS) : Nat → MI → Int32 → Int32 → Option (Int32 × MI)
  | 0, _, _, _ => none
  | n + 1, mi, x1, x2 => if x2 < 0 then some ((0 : Int32), mi) else ck (¬ (x2 < 0 ∨ 6 ≤ x2.toNatClampNeg)) (ck (¬ (x2 < 0 ∨ 6 ≤ x2.toNatClampNeg)) ((F_X3_leastUnused mi w (x1 &&& (((1 : Int32) <<< ((mi 42 0 x2.toNatClampNeg) &&& 31)) ^^^ (-1))) ((mi 42 0 x2.toNatClampNeg) + 1)).bind fun c47 => if (mi 2 0 5) ≤ c47 then L_X3_advance_36 w n mi (x1 &&& (((1 : Int32) <<< ((mi 42 0 x2.toNatClampNeg) &&& 31)) ^^^ (-1))) (x2 + (-1)) else ck (¬ (x2 < 0 ∨ 6 ≤ x2.toNatClampNeg)) (lt (u3 mi 42 0 x2.toNatClampNeg c47) fun m48 => (F_X3_fill m48 w (x2 + 1) ((x1 &&& (((1 : Int32) <<< ((mi 42 0 x2.toNatClampNeg) &&& 31)) ^^^ (-1))) ||| ((1 : Int32) <<< (c47 &&& 31)))).bind fun c49 => some ((1 : Int32), c49))))

theorem l_X3_advance_36 {gl : Nat} {gx : Nat → Int32} {d : Nat} {P : PL} {Q : PO} {lv : LV} {w : WS} (n : Nat) : ∀ {mi : MI} {x1 : Int32} {x2 : Int32} {v3 : AV} {r : (Int32 × MI)}, L_X3_advance_36 w n mi x1 x2 = some r → (Q (aI r.1) (r.2, RS w, lv)) → Wp gl gx (d + 2) P 42 36 [aR 2 0, aI x1, aI x2, v3] [] (mi, RS w, lv) Q := by
  induction n with
  | zero => intro mi x1 x2 v3 r hf h0; exact o_none hf
  | succ n ih => intro mi x1 x2 v3 r hf h0; exact r_X3_advance_36 (⟨fun q608 => k_ifp q608 hf (fun q610 => o_rM q610 h0), fun q609 => k_ifn q609 hf (fun q610 => k_ck q610 (fun q612 q611 => ⟨q612, k_ck q611 (fun q614 q613 => ⟨q614, o_bind q613 (fun c47 qc47 pc47 => ⟨c47, qc47, ⟨fun q615 => k_ifp q615 pc47 (fun q617 => ih q617 h0), fun q616 => k_ifn q616 pc47 (fun q617 => k_ck q617 (fun q619 q618 => ⟨q619, fun m48 hm48 => k_lt q618 hm48 (fun q620 => o_bind q620 (fun c49 qc49 pc49 => ⟨c49, qc49, o_rM pc49 h0⟩))⟩))⟩⟩)⟩)⟩))⟩)

def L_X3_advance_4 (w : WS) : Nat → MI → Int32 → Int32 → Option (Int32 × MI)
  | 0, _, _, _ => none
  | n + 1, mi, x1, x2 => if (mi 2 0 6) ≤ x2 then L_X3_advance_36 w 1000000 mi x1 ((mi 2 0 6) - 1) else ck (¬ (x2 < 0 ∨ 6 ≤ x2.toNatClampNeg)) (L_X3_advance_4 w n mi (x1 ||| ((1 : Int32) <<< ((mi 42 0 x2.toNatClampNeg) &&& 31))) (x2 + 1))

theorem l_X3_advance_4 {gl : Nat} {gx : Nat → Int32} {d : Nat} {P : PL} {Q : PO} {lv : LV} {w : WS} (n : Nat) : ∀ {mi : MI} {x1 : Int32} {x2 : Int32} {v3 : AV} {r : (Int32 × MI)}, L_X3_advance_4 w n mi x1 x2 = some r → (Q (aI r.1) (r.2, RS w, lv)) → Wp gl gx (d + 2) P 42 4 [aR 2 0, aI x1, aI x2, v3] [] (mi, RS w, lv) Q := by
  induction n with
  | zero => intro mi x1 x2 v3 r hf h0; exact o_none hf
  | succ n ih => intro mi x1 x2 v3 r hf h0; exact r_X3_advance_4 (⟨fun q621 => k_ifp q621 hf (fun q623 => l_X3_advance_36 1000000 q623 h0), fun q622 => k_ifn q622 hf (fun q623 => k_ck q623 (fun q625 q624 => ⟨q625, ih q624 h0⟩))⟩)

def F_X3_advance (mi : MI) (w : WS)  : Option (Int32 × MI) := L_X3_advance_4 w 1000000 mi 0 0

theorem s_X3_advance {gl : Nat} {gx : Nat → Int32} {d : Nat} {P : PL} {Q : PO} {mi : MI} {w : WS} {lv : LV}  {r : (Int32 × MI)} (hf : F_X3_advance mi w  = some r) (h0 : Q (aI r.1) (r.2, RS w, lv)) : Wp gl gx (d + 2) P 42 0 [aR 2 0, aU, aU, aU] [] (mi, RS w, lv) Q := r_X3_advance_0 (l_X3_advance_4 1000000 hf h0)

abbrev row_46 : MT := (⟨"StencilHouse$Orders", "findSprays", "(LStencilHouse$Shop;I)Z"⟩, prog_5_method_7_code, 6, some .boolean, 1, lk_3)
set_option maxRecDepth 20000 in
theorem mt_46 : mt 46 = some row_46 := rfl
theorem r_X3_findSprays_68 {gl : Nat} {gx : Nat → Int32} {d : Nat} {P : PL} {Q : PO} {mi : MI} {w : WS} {lv : LV} {i1 : Nat} {x2 : Int32} {x3 : Int32} {x4 : Int32} {x5 : Int32} (h : (∃ c53 : Int32 × MI, F_X3_advance mi w  = some c53 ∧ Wp gl gx (d + 3) P 46 17 [aR 2 0, aR 5 i1, aI x2, aI x3, aI c53.1, aI (x5 + 1)] [] (c53.2, RS w, lv) Q)) : Wp gl gx (d + 3) P 46 68 [aR 2 0, aR 5 i1, aI x2, aI x3, aI x4, aI x5] [] (mi, RS w, lv) Q := 
  wpT row_46 mt_46 [.aload_n 0, .invokevirtual 82] (by decide +kernel) [(72, [.istore 4, .iinc 5 1, .goto (.negSucc 59)])] (by decide +kernel) 30 (Exists.elim h (fun c53 zc53 => And.intro ⟨Nat.le_of_ble_eq_true rfl, rfl, rfl⟩ (s_X3_advance (d := d) zc53.1 (zc53.2))))

theorem r_X3_findSprays_49 {gl : Nat} {gx : Nat → Int32} {d : Nat} {P : PL} {Q : PO} {mi : MI} {w : WS} {lv : LV} {i1 : Nat} {x2 : Int32} {x3 : Int32} {x4 : Int32} {x5 : Int32} (h : (¬ (0 : Int32) < 0 ∧ ¬ (0 : Int32) < 0 ∧ ¬ (mi 2 0 6) < 0 ∧ 0 + (mi 2 0 6).toNatClampNeg ≤ 6 ∧ 0 + (mi 2 0 6).toNatClampNeg ≤ 6) ∧ ((∀ m54 : MI, m54 = u2 mi 43 0 (va_cpy (mi 44 0) (mi 43 0) 0 0 ((mi 2 0 6).toNatClampNeg)) → (∃ c53 : Int32 × MI, F_X3_advance m54 w  = some c53 ∧ Wp gl gx (d + 3) P 46 17 [aR 2 0, aR 5 i1, aI x2, aI 1, aI c53.1, aI (x5 + 1)] [] (c53.2, RS w, lv) Q)))) : Wp gl gx (d + 3) P 46 49 [aR 2 0, aR 5 i1, aI x2, aI x3, aI x4, aI x5] [] (mi, RS w, lv) Q := 
  wpT row_46 mt_46 [.iconst 1, .istore_n 3, .aload_n 0, .getfield 18, .iconst 0, .aload_n 0, .getfield 15, .iconst 0, .aload_n 0, .getfield 31, .invokestatic 76] (by decide +kernel) [] (by decide +kernel) 42 (And.intro ⟨Nat.le_of_ble_eq_true rfl, h.1⟩ ((let m54 : MI := u2 mi 43 0 (va_cpy (mi 44 0) (mi 43 0) 0 0 ((mi 2 0 6).toNatClampNeg)); r_X3_findSprays_68 (i1 := i1) (x2 := x2) (x3 := 1) (x4 := x4) (x5 := x5) (mi := m54) (h.2 _ rfl))))

theorem r_X3_findSprays_17 {gl : Nat} {gx : Nat → Int32} {d : Nat} {P : PL} {Q : PO} {mi : MI} {w : WS} {lv : LV} {i1 : Nat} {x2 : Int32} {x3 : Int32} {x4 : Int32} {x5 : Int32} (h : ((720 ≤ x5) → (narrow .boolean (.int x3) = .int x3) ∧ Q (aI x3) (mi, RS w, lv)) ∧ (¬ (720 ≤ x5) → ((x4 = 0) → (narrow .boolean (.int x3) = .int x3) ∧ Q (aI x3) (mi, RS w, lv)) ∧ (¬ (x4 = 0) → (∃ c51 : Int32 × MI, F_X3_makesWanted mi w i1 = some c51 ∧ ((c51.1 = 0) → (∃ c53 : Int32 × MI, F_X3_advance c51.2 w  = some c53 ∧ Wp gl gx (d + 3) P 46 17 [aR 2 0, aR 5 i1, aI x2, aI x3, aI c53.1, aI (x5 + 1)] [] (c53.2, RS w, lv) Q)) ∧ (¬ (c51.1 = 0) → ((x3 = 0) → Wp gl gx (d + 3) P 46 49 [aR 2 0, aR 5 i1, aI x2, aI x3, aI x4, aI x5] [] (c51.2, RS w, lv) Q) ∧ (¬ (x3 = 0) → (∃ c52 : Int32, F_X3_isLessThanFound c51.2 w  = some c52 ∧ ((c52 = 0) → (∃ c53 : Int32 × MI, F_X3_advance c51.2 w  = some c53 ∧ Wp gl gx (d + 3) P 46 17 [aR 2 0, aR 5 i1, aI x2, aI x3, aI c53.1, aI (x5 + 1)] [] (c53.2, RS w, lv) Q)) ∧ (¬ (c52 = 0) → Wp gl gx (d + 3) P 46 49 [aR 2 0, aR 5 i1, aI x2, aI x3, aI x4, aI x5] [] (c51.2, RS w, lv) Q)))))))) : Wp gl gx (d + 3) P 46 17 [aR 2 0, aR 5 i1, aI x2, aI x3, aI x4, aI x5] [] (mi, RS w, lv) Q := 
  wpT row_46 mt_46 [.iload 5, .sipush 720, .if_icmp .ge 58] (by decide +kernel) [(80, [.iload_n 3, .ireturn]), (25, [.iload 4, .ifCond .eq 53]), (30, [.aload_n 0, .aload_n 1, .invokevirtual 69]), (35, [.ifCond .eq 33]), (38, [.iload_n 3, .ifCond .eq 10]), (42, [.aload_n 0, .invokevirtual 72]), (46, [.ifCond .eq 22])] (by decide +kernel) 52 (And.intro (fun q626 => (h.1 q626)) (fun q627 => And.intro (fun q628 => ((h.2 q627).1 q628)) (fun q629 => Exists.elim ((h.2 q627).2 q629) (fun c51 zc51 => And.intro ⟨Nat.le_of_ble_eq_true rfl, rfl, rfl⟩ (s_X3_makesWanted (d := d + 1) zc51.1 (And.intro (fun q630 => r_X3_findSprays_68 (i1 := i1) (x2 := x2) (x3 := x3) (x4 := x4) (x5 := x5) (mi := c51.2) (zc51.2.1 q630)) (fun q631 => And.intro (fun q632 => ((zc51.2.2 q631).1 q632)) (fun q633 => Exists.elim ((zc51.2.2 q631).2 q633) (fun c52 zc52 => And.intro ⟨Nat.le_of_ble_eq_true rfl, rfl, rfl⟩ (s_X3_isLessThanFound (d := d + 2) zc52.1 (And.intro (fun q634 => r_X3_findSprays_68 (i1 := i1) (x2 := x2) (x3 := x3) (x4 := x4) (x5 := x5) (mi := c51.2) (zc52.2.1 q634)) (fun q635 => (zc52.2.2 q635)))))))))))))

theorem r_X3_findSprays_0 {gl : Nat} {gx : Nat → Int32} {d : Nat} {P : PL} {Q : PO} {mi : MI} {w : WS} {lv : LV} {i1 : Nat} {x2 : Int32} (h : (∃ c50 : MI, F_X3_begin mi w (mi 5 i1 3) x2 = some c50 ∧ Wp gl gx (d + 3) P 46 17 [aR 2 0, aR 5 i1, aI x2, aI 0, aI 1, aI 0] [] (c50, RS w, lv) Q)) : Wp gl gx (d + 3) P 46 0 [aR 2 0, aR 5 i1, aI x2, aU, aU, aU] [] (mi, RS w, lv) Q := 
  wpT row_46 mt_46 [.iconst 0, .istore_n 3, .iconst 1, .istore 4, .aload_n 0, .aload_n 1, .getfield 57, .iload_n 2, .invokevirtual 66] (by decide +kernel) [(14, [.iconst 0, .istore 5])] (by decide +kernel) 42 (Exists.elim h (fun c50 zc50 => And.intro ⟨Nat.le_of_ble_eq_true rfl, rfl, rfl⟩ (s_X3_begin (d := d) zc50.1 (zc50.2))))

def L_X3_findSprays_17 (w : WS) : Nat → MI → Nat → Int32 → Int32 → Int32 → Int32 → Option (Int32 × MI)
  | 0, _, _, _, _, _, _ => none
  | n + 1, mi, i1, x2, x3, x4, x5 => if 720 ≤ x5 then ck (x3 = 0 ∨ x3 = 1) (some (x3, mi)) else if x4 = 0 then ck (x3 = 0 ∨ x3 = 1) (some (x3, mi)) else (F_X3_makesWanted mi w i1).bind fun c51 => if c51.1 = 0 then (F_X3_advance c51.2 w ).bind fun c53 => L_X3_findSprays_17 w n c53.2 i1 x2 x3 c53.1 (x5 + 1) else if x3 = 0 then ck (¬ (0 : Int32) < 0 ∧ ¬ (0 : Int32) < 0 ∧ ¬ (c51.2 2 0 6) < 0 ∧ 0 + (c51.2 2 0 6).toNatClampNeg ≤ 6 ∧ 0 + (c51.2 2 0 6).toNatClampNeg ≤ 6) (lt (u2 c51.2 43 0 (va_cpy (c51.2 44 0) (c51.2 43 0) 0 0 ((c51.2 2 0 6).toNatClampNeg))) fun m54 => (F_X3_advance m54 w ).bind fun c53 => L_X3_findSprays_17 w n c53.2 i1 x2 1 c53.1 (x5 + 1)) else (F_X3_isLessThanFound c51.2 w ).bind fun c52 => if c52 = 0 then (F_X3_advance c51.2 w ).bind fun c53 => L_X3_findSprays_17 w n c53.2 i1 x2 x3 c53.1 (x5 + 1) else ck (¬ (0 : Int32) < 0 ∧ ¬ (0 : Int32) < 0 ∧ ¬ (c51.2 2 0 6) < 0 ∧ 0 + (c51.2 2 0 6).toNatClampNeg ≤ 6 ∧ 0 + (c51.2 2 0 6).toNatClampNeg ≤ 6) (lt (u2 c51.2 43 0 (va_cpy (c51.2 44 0) (c51.2 43 0) 0 0 ((c51.2 2 0 6).toNatClampNeg))) fun m54 => (F_X3_advance m54 w ).bind fun c53 => L_X3_findSprays_17 w n c53.2 i1 x2 1 c53.1 (x5 + 1))

theorem l_X3_findSprays_17 {gl : Nat} {gx : Nat → Int32} {d : Nat} {P : PL} {Q : PO} {lv : LV} {w : WS} (n : Nat) : ∀ {mi : MI} {i1 : Nat} {x2 : Int32} {x3 : Int32} {x4 : Int32} {x5 : Int32} {r : (Int32 × MI)}, L_X3_findSprays_17 w n mi i1 x2 x3 x4 x5 = some r → (Q (aI r.1) (r.2, RS w, lv)) → Wp gl gx (d + 3) P 46 17 [aR 2 0, aR 5 i1, aI x2, aI x3, aI x4, aI x5] [] (mi, RS w, lv) Q := by
  induction n with
  | zero => intro mi i1 x2 x3 x4 x5 r hf h0; exact o_none hf
  | succ n ih => intro mi i1 x2 x3 x4 x5 r hf h0; exact r_X3_findSprays_17 (⟨fun q636 => k_ifp q636 hf (fun q638 => k_ck q638 (fun q640 q639 => ⟨nb_01 q640, o_rM q639 h0⟩)), fun q637 => k_ifn q637 hf (fun q638 => ⟨fun q641 => k_ifp q641 q638 (fun q643 => k_ck q643 (fun q645 q644 => ⟨nb_01 q645, o_rM q644 h0⟩)), fun q642 => k_ifn q642 q638 (fun q643 => o_bind q643 (fun c51 qc51 pc51 => ⟨c51, qc51, ⟨fun q646 => k_ifp q646 pc51 (fun q648 => o_bind q648 (fun c53 qc53 pc53 => ⟨c53, qc53, ih pc53 h0⟩)), fun q647 => k_ifn q647 pc51 (fun q648 => ⟨fun q649 => k_ifp q649 q648 (fun q651 => r_X3_findSprays_49 (k_ck q651 (fun q653 q652 => ⟨q653, fun m54 hm54 => k_lt q652 hm54 (fun q654 => o_bind q654 (fun c53 qc53 pc53 => ⟨c53, qc53, ih pc53 h0⟩))⟩))), fun q650 => k_ifn q650 q648 (fun q651 => o_bind q651 (fun c52 qc52 pc52 => ⟨c52, qc52, ⟨fun q655 => k_ifp q655 pc52 (fun q657 => o_bind q657 (fun c53 qc53 pc53 => ⟨c53, qc53, ih pc53 h0⟩)), fun q656 => k_ifn q656 pc52 (fun q657 => r_X3_findSprays_49 (k_ck q657 (fun q659 q658 => ⟨q659, fun m54 hm54 => k_lt q658 hm54 (fun q660 => o_bind q660 (fun c53 qc53 pc53 => ⟨c53, qc53, ih pc53 h0⟩))⟩)))⟩⟩))⟩)⟩⟩))⟩)⟩)

def F_X3_findSprays (mi : MI) (w : WS) (i1 : Nat) (x2 : Int32) : Option (Int32 × MI) := (F_X3_begin mi w (mi 5 i1 3) x2).bind fun c50 => L_X3_findSprays_17 w 1000000 c50 i1 x2 0 1 0

theorem s_X3_findSprays {gl : Nat} {gx : Nat → Int32} {d : Nat} {P : PL} {Q : PO} {mi : MI} {w : WS} {lv : LV} {i1 : Nat} {x2 : Int32} {r : (Int32 × MI)} (hf : F_X3_findSprays mi w i1 x2 = some r) (h0 : Q (aI r.1) (r.2, RS w, lv)) : Wp gl gx (d + 3) P 46 0 [aR 2 0, aR 5 i1, aI x2, aU, aU, aU] [] (mi, RS w, lv) Q := r_X3_findSprays_0 (o_bind hf (fun c50 qc50 pc50 => ⟨c50, qc50, l_X3_findSprays_17 1000000 pc50 h0⟩))

abbrev row_50 : MT := (⟨"StencilHouse$Orders", "mostShown", "(LStencilHouse$Shop;)I"⟩, prog_5_method_11_code, 6, some .int, 1, lk_3)
set_option maxRecDepth 20000 in
theorem mt_50 : mt 50 = some row_50 := rfl
theorem r_X3_mostShown_64 {gl : Nat} {gx : Nat → Int32} {d : Nat} {P : PL} {Q : PO} {mi : MI} {w : WS} {lv : LV} {i1 : Nat} {x2 : Int32} {x3 : Int32} {x4 : Int32} {x5 : Int32} (h : (∃ c58 : Int32 × MI, F_X3_advance mi w  = some c58 ∧ Wp gl gx (d + 3) P 50 19 [aR 2 0, aR 5 i1, aI x2, aI c58.1, aI (x4 + 1), aI x5] [] (c58.2, RS w, lv) Q)) : Wp gl gx (d + 3) P 50 64 [aR 2 0, aR 5 i1, aI x2, aI x3, aI x4, aI x5] [] (mi, RS w, lv) Q := 
  wpT row_50 mt_50 [.aload_n 0, .invokevirtual 82] (by decide +kernel) [(68, [.istore_n 3, .iinc 4 1, .goto (.negSucc 52)])] (by decide +kernel) 30 (Exists.elim h (fun c58 zc58 => And.intro ⟨Nat.le_of_ble_eq_true rfl, rfl, rfl⟩ (s_X3_advance (d := d) zc58.1 (zc58.2))))

theorem r_X3_mostShown_19 {gl : Nat} {gx : Nat → Int32} {d : Nat} {P : PL} {Q : PO} {mi : MI} {w : WS} {lv : LV} {i1 : Nat} {x2 : Int32} {x3 : Int32} {x4 : Int32} {v5 : AV} (h : ((720 ≤ x4) → Q (aI x2) (mi, RS w, lv)) ∧ (¬ (720 ≤ x4) → ((x3 = 0) → Q (aI x2) (mi, RS w, lv)) ∧ (¬ (x3 = 0) → (∃ c56 : Int32, F_X3_shownCount mi w i1 = some c56 ∧ ((c56 ≤ x2) → (∃ c58 : Int32 × MI, F_X3_advance mi w  = some c58 ∧ Wp gl gx (d + 3) P 50 19 [aR 2 0, aR 5 i1, aI x2, aI c58.1, aI (x4 + 1), aI c56] [] (c58.2, RS w, lv) Q)) ∧ (¬ (c56 ≤ x2) → (¬ (0 : Int32) < 0 ∧ ¬ (0 : Int32) < 0 ∧ ¬ (mi 2 0 6) < 0 ∧ 0 + (mi 2 0 6).toNatClampNeg ≤ 6 ∧ 0 + (mi 2 0 6).toNatClampNeg ≤ 6) ∧ ((∀ m57 : MI, m57 = u2 mi 43 0 (va_cpy (mi 42 0) (mi 43 0) 0 0 ((mi 2 0 6).toNatClampNeg)) → (∃ c58 : Int32 × MI, F_X3_advance m57 w  = some c58 ∧ Wp gl gx (d + 3) P 50 19 [aR 2 0, aR 5 i1, aI c56, aI c58.1, aI (x4 + 1), aI c56] [] (c58.2, RS w, lv) Q)))))))) : Wp gl gx (d + 3) P 50 19 [aR 2 0, aR 5 i1, aI x2, aI x3, aI x4, v5] [] (mi, RS w, lv) Q := 
  wpT row_50 mt_50 [.iload 4, .sipush 720, .if_icmp .ge 51] (by decide +kernel) [(75, [.iload_n 2, .ireturn]), (27, [.iload_n 3, .ifCond .eq 47]), (31, [.aload_n 0, .aload_n 1, .invokevirtual 95]), (36, [.istore 5, .iload 5, .iload_n 2, .if_icmp .le 23]), (44, [.iload 5, .istore_n 2, .aload_n 0, .getfield 9, .iconst 0, .aload_n 0, .getfield 15, .iconst 0, .aload_n 0, .getfield 31, .invokestatic 76])] (by decide +kernel) 70 (And.intro (fun q661 => (h.1 q661)) (fun q662 => And.intro (fun q663 => ((h.2 q662).1 q663)) (fun q664 => Exists.elim ((h.2 q662).2 q664) (fun c56 zc56 => And.intro ⟨Nat.le_of_ble_eq_true rfl, rfl, rfl⟩ (s_X3_shownCount (d := d + 2) zc56.1 (And.intro (fun q665 => r_X3_mostShown_64 (i1 := i1) (x2 := x2) (x3 := x3) (x4 := x4) (x5 := c56) (mi := mi) (zc56.2.1 q665)) (fun q666 => And.intro ⟨Nat.le_of_ble_eq_true rfl, (zc56.2.2 q666).1⟩ ((let m57 : MI := u2 mi 43 0 (va_cpy (mi 42 0) (mi 43 0) 0 0 ((mi 2 0 6).toNatClampNeg)); r_X3_mostShown_64 (i1 := i1) (x2 := c56) (x3 := x3) (x4 := x4) (x5 := c56) (mi := m57) ((zc56.2.2 q666).2 _ rfl))))))))))

theorem r_X3_mostShown_0 {gl : Nat} {gx : Nat → Int32} {d : Nat} {P : PL} {Q : PO} {mi : MI} {w : WS} {lv : LV} {i1 : Nat} (h : (∃ c55 : MI, F_X3_begin mi w (mi 5 i1 3) (mi 5 i1 3) = some c55 ∧ Wp gl gx (d + 3) P 50 19 [aR 2 0, aR 5 i1, aI (-1), aI 1, aI 0, aU] [] (c55, RS w, lv) Q)) : Wp gl gx (d + 3) P 50 0 [aR 2 0, aR 5 i1, aU, aU, aU, aU] [] (mi, RS w, lv) Q := 
  wpT row_50 mt_50 [.iconst (.negSucc 0), .istore_n 2, .iconst 1, .istore_n 3, .aload_n 0, .aload_n 1, .getfield 57, .aload_n 1, .getfield 57, .invokevirtual 66] (by decide +kernel) [(16, [.iconst 0, .istore 4])] (by decide +kernel) 44 (Exists.elim h (fun c55 zc55 => And.intro ⟨Nat.le_of_ble_eq_true rfl, rfl, rfl⟩ (s_X3_begin (d := d) zc55.1 (zc55.2))))

def L_X3_mostShown_19 (w : WS) : Nat → MI → Nat → Int32 → Int32 → Int32 → Option (Int32 × MI)
  | 0, _, _, _, _, _ => none
  | n + 1, mi, i1, x2, x3, x4 => if 720 ≤ x4 then some (x2, mi) else if x3 = 0 then some (x2, mi) else (F_X3_shownCount mi w i1).bind fun c56 => if c56 ≤ x2 then (F_X3_advance mi w ).bind fun c58 => L_X3_mostShown_19 w n c58.2 i1 x2 c58.1 (x4 + 1) else ck (¬ (0 : Int32) < 0 ∧ ¬ (0 : Int32) < 0 ∧ ¬ (mi 2 0 6) < 0 ∧ 0 + (mi 2 0 6).toNatClampNeg ≤ 6 ∧ 0 + (mi 2 0 6).toNatClampNeg ≤ 6) (lt (u2 mi 43 0 (va_cpy (mi 42 0) (mi 43 0) 0 0 ((mi 2 0 6).toNatClampNeg))) fun m57 => (F_X3_advance m57 w ).bind fun c58 => L_X3_mostShown_19 w n c58.2 i1 c56 c58.1 (x4 + 1))

theorem l_X3_mostShown_19 {gl : Nat} {gx : Nat → Int32} {d : Nat} {P : PL} {Q : PO} {lv : LV} {w : WS} (n : Nat) : ∀ {mi : MI} {i1 : Nat} {x2 : Int32} {x3 : Int32} {x4 : Int32} {v5 : AV} {r : (Int32 × MI)}, L_X3_mostShown_19 w n mi i1 x2 x3 x4 = some r → (Q (aI r.1) (r.2, RS w, lv)) → Wp gl gx (d + 3) P 50 19 [aR 2 0, aR 5 i1, aI x2, aI x3, aI x4, v5] [] (mi, RS w, lv) Q := by
  induction n with
  | zero => intro mi i1 x2 x3 x4 v5 r hf h0; exact o_none hf
  | succ n ih => intro mi i1 x2 x3 x4 v5 r hf h0; exact r_X3_mostShown_19 (⟨fun q667 => k_ifp q667 hf (fun q669 => o_rM q669 h0), fun q668 => k_ifn q668 hf (fun q669 => ⟨fun q670 => k_ifp q670 q669 (fun q672 => o_rM q672 h0), fun q671 => k_ifn q671 q669 (fun q672 => o_bind q672 (fun c56 qc56 pc56 => ⟨c56, qc56, ⟨fun q673 => k_ifp q673 pc56 (fun q675 => o_bind q675 (fun c58 qc58 pc58 => ⟨c58, qc58, ih pc58 h0⟩)), fun q674 => k_ifn q674 pc56 (fun q675 => k_ck q675 (fun q677 q676 => ⟨q677, fun m57 hm57 => k_lt q676 hm57 (fun q678 => o_bind q678 (fun c58 qc58 pc58 => ⟨c58, qc58, ih pc58 h0⟩))⟩))⟩⟩))⟩)⟩)

def F_X3_mostShown (mi : MI) (w : WS) (i1 : Nat) : Option (Int32 × MI) := (F_X3_begin mi w (mi 5 i1 3) (mi 5 i1 3)).bind fun c55 => L_X3_mostShown_19 w 1000000 c55 i1 (-1) 1 0

theorem s_X3_mostShown {gl : Nat} {gx : Nat → Int32} {d : Nat} {P : PL} {Q : PO} {mi : MI} {w : WS} {lv : LV} {i1 : Nat} {r : (Int32 × MI)} (hf : F_X3_mostShown mi w i1 = some r) (h0 : Q (aI r.1) (r.2, RS w, lv)) : Wp gl gx (d + 3) P 50 0 [aR 2 0, aR 5 i1, aU, aU, aU, aU] [] (mi, RS w, lv) Q := r_X3_mostShown_0 (o_bind hf (fun c55 qc55 pc55 => ⟨c55, qc55, l_X3_mostShown_19 1000000 pc55 h0⟩))

abbrev row_53 : MT := (⟨"StencilHouse$Orders", "tellFitting", "(LStencilHouse$Shop;LStencilHouse$Marks;I)I"⟩, prog_5_method_14_code, 8, some .int, 1, lk_3)
set_option maxRecDepth 20000 in
theorem mt_53 : mt 53 = some row_53 := rfl
theorem r_X3_tellFitting_113 {gl : Nat} {gx : Nat → Int32} {d : Nat} {P : PL} {Q : PO} {mi : MI} {w : WS} {lv : LV} {i1 : Nat} {i2 : Nat} {x3 : Int32} {x4 : Int32} {x5 : Int32} {x6 : Int32} {x7 : Int32} (h : (x3 < 0 ∨ 2 < x3 → Q (aI (-2)) (mi, RS w, lv)) ∧ (x3 = 0 → Q (aI x4) (mi, RS w, lv)) ∧ (x3 = 1 → Q (aI x5) (mi, RS w, lv)) ∧ (x3 = 2 → (¬ (x4 = 0) → (∃ c64 : Int32, F_X3_cellToAsk mi w i1 = some c64 ∧ Q (aI c64) (mi, RS w, lv))) ∧ ((x4 = 0) → Q (aI (-1)) (mi, RS w, lv)))) : Wp gl gx (d + 3) P 53 113 [aR 2 0, aR 5 i1, aR 1 i2, aI x3, aI x4, aI x5, aI x6, aI x7] [] (mi, RS w, lv) Q := 
  wpT row_53 mt_53 [.iload_n 3, .tableswitch 47 0 2 #[26, 29, 32]] (by decide +kernel) [(161, [.bipush (.negSucc 1), .ireturn]), (140, [.iload 4, .ireturn]), (143, [.iload 5, .ireturn]), (146, [.iload 4, .ifCond .ne 7]), (155, [.aload_n 0, .aload_n 1, .invokevirtual 117]), (160, [.ireturn]), (151, [.iconst (.negSucc 0), .goto 8])] (by decide +kernel) 52 (And.intro (fun q684 => (h.1 q684)) (And.intro (fun q683 => (h.2.1 q683)) (And.intro (fun q682 => (h.2.2.1 q682)) (And.intro (fun q679 => And.intro (fun q680 => Exists.elim ((h.2.2.2 q679).1 q680) (fun c64 zc64 => And.intro ⟨Nat.le_of_ble_eq_true rfl, rfl, rfl⟩ (s_X3_cellToAsk (d := d + 1) zc64.1 (zc64.2)))) (fun q681 => ((h.2.2.2 q679).2 q681))) (trivial)))))

theorem r_X3_tellFitting_101 {gl : Nat} {gx : Nat → Int32} {d : Nat} {P : PL} {Q : PO} {mi : MI} {w : WS} {lv : LV} {i1 : Nat} {i2 : Nat} {x3 : Int32} {x4 : Int32} {x5 : Int32} {x6 : Int32} {x7 : Int32} (h : (∃ c65 : Int32 × MI, F_X3_advance mi w  = some c65 ∧ Wp gl gx (d + 3) P 53 28 [aR 2 0, aR 5 i1, aR 1 i2, aI x3, aI x4, aI x5, aI c65.1, aI (x7 + 1)] [] (c65.2, RS w, lv) Q)) : Wp gl gx (d + 3) P 53 101 [aR 2 0, aR 5 i1, aR 1 i2, aI x3, aI x4, aI x5, aI x6, aI x7] [] (mi, RS w, lv) Q := 
  wpT row_53 mt_53 [.aload_n 0, .invokevirtual 82] (by decide +kernel) [(105, [.istore 6, .iinc 7 1, .goto (.negSucc 81)])] (by decide +kernel) 30 (Exists.elim h (fun c65 zc65 => And.intro ⟨Nat.le_of_ble_eq_true rfl, rfl, rfl⟩ (s_X3_advance (d := d) zc65.1 (zc65.2))))

theorem r_X3_tellFitting_98 {gl : Nat} {gx : Nat → Int32} {d : Nat} {P : PL} {Q : PO} {mi : MI} {w : WS} {lv : LV} {i1 : Nat} {i2 : Nat} {x3 : Int32} {x4 : Int32} {x5 : Int32} {x6 : Int32} {x7 : Int32} (h : (∃ c65 : Int32 × MI, F_X3_advance mi w  = some c65 ∧ Wp gl gx (d + 3) P 53 28 [aR 2 0, aR 5 i1, aR 1 i2, aI x3, aI (x4 + 1), aI x5, aI c65.1, aI (x7 + 1)] [] (c65.2, RS w, lv) Q)) : Wp gl gx (d + 3) P 53 98 [aR 2 0, aR 5 i1, aR 1 i2, aI x3, aI x4, aI x5, aI x6, aI x7] [] (mi, RS w, lv) Q := 
  wpT row_53 mt_53 [.iinc 4 1] (by decide +kernel) [] (by decide +kernel) 22 (r_X3_tellFitting_101 (i1 := i1) (i2 := i2) (x3 := x3) (x4 := (x4 + 1)) (x5 := x5) (x6 := x6) (x7 := x7) (mi := mi) h)

theorem r_X3_tellFitting_86 {gl : Nat} {gx : Nat → Int32} {d : Nat} {P : PL} {Q : PO} {mi : MI} {w : WS} {lv : LV} {i1 : Nat} {i2 : Nat} {x3 : Int32} {x4 : Int32} {x5 : Int32} {x6 : Int32} {x7 : Int32} {s0 : Int32} (h : (¬ (x3 = 2) → (∃ c65 : Int32 × MI, F_X3_advance mi w  = some c65 ∧ Wp gl gx (d + 3) P 53 28 [aR 2 0, aR 5 i1, aR 1 i2, aI x3, aI (x4 + 1), aI s0, aI c65.1, aI (x7 + 1)] [] (c65.2, RS w, lv) Q)) ∧ ((x3 = 2) → (∃ c67 : MI, F_X3_countTops mi w i1 = some c67 ∧ (∃ c65 : Int32 × MI, F_X3_advance c67 w  = some c65 ∧ Wp gl gx (d + 3) P 53 28 [aR 2 0, aR 5 i1, aR 1 i2, aI x3, aI (x4 + 1), aI s0, aI c65.1, aI (x7 + 1)] [] (c65.2, RS w, lv) Q)))) : Wp gl gx (d + 3) P 53 86 [aR 2 0, aR 5 i1, aR 1 i2, aI x3, aI x4, aI x5, aI x6, aI x7] [aI s0] (mi, RS w, lv) Q := 
  wpT row_53 mt_53 [.istore 5, .iload_n 3, .iconst 2, .if_icmp .ne 8] (by decide +kernel) [(93, [.aload_n 0, .aload_n 1, .invokevirtual 113])] (by decide +kernel) 34 (And.intro (fun q685 => r_X3_tellFitting_98 (i1 := i1) (i2 := i2) (x3 := x3) (x4 := x4) (x5 := s0) (x6 := x6) (x7 := x7) (mi := mi) (h.1 q685)) (fun q686 => Exists.elim (h.2 q686) (fun c67 zc67 => And.intro ⟨Nat.le_of_ble_eq_true rfl, rfl, rfl⟩ (s_X3_countTops (d := d) zc67.1 (r_X3_tellFitting_98 (i1 := i1) (i2 := i2) (x3 := x3) (x4 := x4) (x5 := s0) (x6 := x6) (x7 := x7) (mi := c67) zc67.2)))))

theorem r_X3_tellFitting_78 {gl : Nat} {gx : Nat → Int32} {d : Nat} {P : PL} {Q : PO} {mi : MI} {w : WS} {lv : LV} {i1 : Nat} {i2 : Nat} {x3 : Int32} {x4 : Int32} {x5 : Int32} {x6 : Int32} {x7 : Int32} (h : (∃ c66 : Int32, F_X3_lastItem mi w  = some c66 ∧ (¬ (x3 = 2) → (∃ c65 : Int32 × MI, F_X3_advance mi w  = some c65 ∧ Wp gl gx (d + 3) P 53 28 [aR 2 0, aR 5 i1, aR 1 i2, aI x3, aI (x4 + 1), aI c66, aI c65.1, aI (x7 + 1)] [] (c65.2, RS w, lv) Q)) ∧ ((x3 = 2) → (∃ c67 : MI, F_X3_countTops mi w i1 = some c67 ∧ (∃ c65 : Int32 × MI, F_X3_advance c67 w  = some c65 ∧ Wp gl gx (d + 3) P 53 28 [aR 2 0, aR 5 i1, aR 1 i2, aI x3, aI (x4 + 1), aI c66, aI c65.1, aI (x7 + 1)] [] (c65.2, RS w, lv) Q))))) : Wp gl gx (d + 3) P 53 78 [aR 2 0, aR 5 i1, aR 1 i2, aI x3, aI x4, aI x5, aI x6, aI x7] [] (mi, RS w, lv) Q := 
  wpT row_53 mt_53 [.aload_n 0, .invokevirtual 110] (by decide +kernel) [(82, [.goto 4])] (by decide +kernel) 26 (Exists.elim h (fun c66 zc66 => And.intro ⟨Nat.le_of_ble_eq_true rfl, rfl, rfl⟩ (s_X3_lastItem (d := d + 2) zc66.1 (r_X3_tellFitting_86 (i1 := i1) (i2 := i2) (x3 := x3) (x4 := x4) (x5 := x5) (x6 := x6) (x7 := x7) (s0 := c66) (mi := mi) zc66.2))))

theorem r_X3_tellFitting_28 {gl : Nat} {gx : Nat → Int32} {d : Nat} {P : PL} {Q : PO} {mi : MI} {w : WS} {lv : LV} {i1 : Nat} {i2 : Nat} {x3 : Int32} {x4 : Int32} {x5 : Int32} {x6 : Int32} {x7 : Int32} (h : ((720 ≤ x7) → Wp gl gx (d + 3) P 53 113 [aR 2 0, aR 5 i1, aR 1 i2, aI x3, aI x4, aI x5, aI x6, aI x7] [] (mi, RS w, lv) Q) ∧ (¬ (720 ≤ x7) → ((x6 = 0) → Wp gl gx (d + 3) P 53 113 [aR 2 0, aR 5 i1, aR 1 i2, aI x3, aI x4, aI x5, aI x6, aI x7] [] (mi, RS w, lv) Q) ∧ (¬ (x6 = 0) → (∃ c61 : Int32, F_X3_fitsAll mi w i1 i2 = some c61 ∧ ((c61 = 0) → (∃ c65 : Int32 × MI, F_X3_advance mi w  = some c65 ∧ Wp gl gx (d + 3) P 53 28 [aR 2 0, aR 5 i1, aR 1 i2, aI x3, aI x4, aI x5, aI c65.1, aI (x7 + 1)] [] (c65.2, RS w, lv) Q)) ∧ (¬ (c61 = 0) → (¬ (x3 = ((10 : Int32) + x4)) → ((x4 = 0) → Wp gl gx (d + 3) P 53 78 [aR 2 0, aR 5 i1, aR 1 i2, aI x3, aI x4, aI x5, aI x6, aI x7] [] (mi, RS w, lv) Q) ∧ (¬ (x4 = 0) → (∃ c62 : Int32, F_X3_lastItem mi w  = some c62 ∧ (¬ (x5 = c62) → (¬ (x3 = 2) → (∃ c65 : Int32 × MI, F_X3_advance mi w  = some c65 ∧ Wp gl gx (d + 3) P 53 28 [aR 2 0, aR 5 i1, aR 1 i2, aI x3, aI (x4 + 1), aI (-1), aI c65.1, aI (x7 + 1)] [] (c65.2, RS w, lv) Q)) ∧ ((x3 = 2) → (∃ c67 : MI, F_X3_countTops mi w i1 = some c67 ∧ (∃ c65 : Int32 × MI, F_X3_advance c67 w  = some c65 ∧ Wp gl gx (d + 3) P 53 28 [aR 2 0, aR 5 i1, aR 1 i2, aI x3, aI (x4 + 1), aI (-1), aI c65.1, aI (x7 + 1)] [] (c65.2, RS w, lv) Q)))) ∧ ((x5 = c62) → Wp gl gx (d + 3) P 53 78 [aR 2 0, aR 5 i1, aR 1 i2, aI x3, aI x4, aI x5, aI x6, aI x7] [] (mi, RS w, lv) Q)))) ∧ ((x3 = ((10 : Int32) + x4)) → (∃ c63 : Int32, F_X3_asNumber mi w  = some c63 ∧ Q (aI c63) (mi, RS w, lv)))))))) : Wp gl gx (d + 3) P 53 28 [aR 2 0, aR 5 i1, aR 1 i2, aI x3, aI x4, aI x5, aI x6, aI x7] [] (mi, RS w, lv) Q := 
  wpT row_53 mt_53 [.iload 7, .sipush 720, .if_icmp .ge 80] (by decide +kernel) [(36, [.iload 6, .ifCond .eq 75]), (41, [.aload_n 0, .aload_n 1, .aload_n 2, .invokevirtual 102]), (47, [.ifCond .eq 54]), (50, [.iload_n 3, .bipush 10, .iload 4, .iadd, .if_icmp .ne 8]), (64, [.iload 4, .ifCond .eq 12]), (69, [.iload 5, .aload_n 0, .invokevirtual 110]), (75, [.if_icmp .ne 10]), (85, [.iconst (.negSucc 0)]), (59, [.aload_n 0, .invokevirtual 106]), (63, [.ireturn])] (by decide +kernel) 70 (And.intro (fun q687 => (h.1 q687)) (fun q688 => And.intro (fun q689 => ((h.2 q688).1 q689)) (fun q690 => Exists.elim ((h.2 q688).2 q690) (fun c61 zc61 => And.intro ⟨Nat.le_of_ble_eq_true rfl, rfl, rfl⟩ (s_X3_fitsAll (d := d) zc61.1 (And.intro (fun q691 => r_X3_tellFitting_101 (i1 := i1) (i2 := i2) (x3 := x3) (x4 := x4) (x5 := x5) (x6 := x6) (x7 := x7) (mi := mi) (zc61.2.1 q691)) (fun q692 => And.intro (fun q693 => And.intro (fun q695 => (((zc61.2.2 q692).1 q693).1 q695)) (fun q696 => Exists.elim (((zc61.2.2 q692).1 q693).2 q696) (fun c62 zc62 => And.intro ⟨Nat.le_of_ble_eq_true rfl, rfl, rfl⟩ (s_X3_lastItem (d := d + 2) zc62.1 (And.intro (fun q697 => r_X3_tellFitting_86 (i1 := i1) (i2 := i2) (x3 := x3) (x4 := x4) (x5 := x5) (x6 := x6) (x7 := x7) (s0 := (-1)) (mi := mi) (zc62.2.1 q697)) (fun q698 => (zc62.2.2 q698))))))) (fun q694 => Exists.elim ((zc61.2.2 q692).2 q694) (fun c63 zc63 => And.intro ⟨Nat.le_of_ble_eq_true rfl, rfl, rfl⟩ (s_X3_asNumber (d := d + 2) zc63.1 (zc63.2)))))))))))

theorem r_X3_tellFitting_0 {gl : Nat} {gx : Nat → Int32} {d : Nat} {P : PL} {Q : PO} {mi : MI} {w : WS} {lv : LV} {i1 : Nat} {i2 : Nat} {x3 : Int32} (h : (∃ c59 : MI, F_X3_clearTops mi w  = some c59 ∧ (∃ c60 : MI, F_X3_begin c59 w (c59 5 i1 3) (c59 5 i1 3) = some c60 ∧ Wp gl gx (d + 3) P 53 28 [aR 2 0, aR 5 i1, aR 1 i2, aI x3, aI 0, aI (-1), aI 1, aI 0] [] (c60, RS w, lv) Q))) : Wp gl gx (d + 3) P 53 0 [aR 2 0, aR 5 i1, aR 1 i2, aI x3, aU, aU, aU, aU] [] (mi, RS w, lv) Q := 
  wpT row_53 mt_53 [.iconst 0, .istore 4, .iconst (.negSucc 0), .istore 5, .iconst 1, .istore 6, .aload_n 0, .invokevirtual 99] (by decide +kernel) [(13, [.aload_n 0, .aload_n 1, .getfield 57, .aload_n 1, .getfield 57, .invokevirtual 66]), (25, [.iconst 0, .istore 7])] (by decide +kernel) 52 (Exists.elim h (fun c59 zc59 => And.intro ⟨Nat.le_of_ble_eq_true rfl, rfl, rfl⟩ (s_X3_clearTops (d := d + 2) zc59.1 (Exists.elim zc59.2 (fun c60 zc60 => And.intro ⟨Nat.le_of_ble_eq_true rfl, rfl, rfl⟩ (s_X3_begin (d := d) zc60.1 (zc60.2)))))))

def L_X3_tellFitting_28 (w : WS) : Nat → MI → Nat → Nat → Int32 → Int32 → Int32 → Int32 → Int32 → Option (Int32 × MI)
  | 0, _, _, _, _, _, _, _, _ => none
  | n + 1, mi, i1, i2, x3, x4, x5, x6, x7 => if 720 ≤ x7 then if x3 = 0 then some (x4, mi) else if x3 = 1 then some (x5, mi) else if x3 = 2 then if x4 = 0 then some ((-1 : Int32), mi) else (F_X3_cellToAsk mi w i1).bind fun c64 => some (c64, mi) else some ((-2 : Int32), mi) else if x6 = 0 then if x3 = 0 then some (x4, mi) else if x3 = 1 then some (x5, mi) else if x3 = 2 then if x4 = 0 then some ((-1 : Int32), mi) else (F_X3_cellToAsk mi w i1).bind fun c64 => some (c64, mi) else some ((-2 : Int32), mi) else (F_X3_fitsAll mi w i1 i2).bind fun c61 => if c61 = 0 then (F_X3_advance mi w ).bind fun c65 => L_X3_tellFitting_28 w n c65.2 i1 i2 x3 x4 x5 c65.1 (x7 + 1) else if x3 = ((10 : Int32) + x4) then (F_X3_asNumber mi w ).bind fun c63 => some (c63, mi) else if x4 = 0 then (F_X3_lastItem mi w ).bind fun c66 => if x3 = 2 then (F_X3_countTops mi w i1).bind fun c67 => (F_X3_advance c67 w ).bind fun c65 => L_X3_tellFitting_28 w n c65.2 i1 i2 x3 (x4 + 1) c66 c65.1 (x7 + 1) else (F_X3_advance mi w ).bind fun c65 => L_X3_tellFitting_28 w n c65.2 i1 i2 x3 (x4 + 1) c66 c65.1 (x7 + 1) else (F_X3_lastItem mi w ).bind fun c62 => if x5 = c62 then (F_X3_lastItem mi w ).bind fun c66 => if x3 = 2 then (F_X3_countTops mi w i1).bind fun c67 => (F_X3_advance c67 w ).bind fun c65 => L_X3_tellFitting_28 w n c65.2 i1 i2 x3 (x4 + 1) c66 c65.1 (x7 + 1) else (F_X3_advance mi w ).bind fun c65 => L_X3_tellFitting_28 w n c65.2 i1 i2 x3 (x4 + 1) c66 c65.1 (x7 + 1) else if x3 = 2 then (F_X3_countTops mi w i1).bind fun c67 => (F_X3_advance c67 w ).bind fun c65 => L_X3_tellFitting_28 w n c65.2 i1 i2 x3 (x4 + 1) (-1) c65.1 (x7 + 1) else (F_X3_advance mi w ).bind fun c65 => L_X3_tellFitting_28 w n c65.2 i1 i2 x3 (x4 + 1) (-1) c65.1 (x7 + 1)

theorem l_X3_tellFitting_28 {gl : Nat} {gx : Nat → Int32} {d : Nat} {P : PL} {Q : PO} {lv : LV} {w : WS} (n : Nat) : ∀ {mi : MI} {i1 : Nat} {i2 : Nat} {x3 : Int32} {x4 : Int32} {x5 : Int32} {x6 : Int32} {x7 : Int32} {r : (Int32 × MI)}, L_X3_tellFitting_28 w n mi i1 i2 x3 x4 x5 x6 x7 = some r → (Q (aI r.1) (r.2, RS w, lv)) → Wp gl gx (d + 3) P 53 28 [aR 2 0, aR 5 i1, aR 1 i2, aI x3, aI x4, aI x5, aI x6, aI x7] [] (mi, RS w, lv) Q := by
  induction n with
  | zero => intro mi i1 i2 x3 x4 x5 x6 x7 r hf h0; exact o_none hf
  | succ n ih => intro mi i1 i2 x3 x4 x5 x6 x7 r hf h0; exact r_X3_tellFitting_28 (⟨fun q699 => k_ifp q699 hf (fun q701 => r_X3_tellFitting_113 (⟨(fun q702 => k_ifn (sw_o q702 (by decide) (by decide)) q701 (fun q703 => k_ifn (sw_o q702 (by decide) (by decide)) q703 (fun q704 => k_ifn (sw_o q702 (by decide) (by decide)) q704 (fun q705 => o_rM q705 h0)))), (fun q706 => k_ifp q706 q701 (fun q707 => o_rM q707 h0)), (fun q708 => k_ifn (sw_n q708 (by decide)) q701 (fun q709 => k_ifp q708 q709 (fun q710 => o_rM q710 h0))), (fun q711 => k_ifn (sw_n q711 (by decide)) q701 (fun q712 => k_ifn (sw_n q711 (by decide)) q712 (fun q713 => k_ifp q711 q713 (fun q714 => ⟨fun q715 => k_ifn q715 q714 (fun q717 => o_bind q717 (fun c64 qc64 pc64 => ⟨c64, qc64, o_rM pc64 h0⟩)), fun q716 => k_ifp q716 q714 (fun q717 => o_rM q717 h0)⟩))))⟩)), fun q700 => k_ifn q700 hf (fun q701 => ⟨fun q718 => k_ifp q718 q701 (fun q720 => r_X3_tellFitting_113 (⟨(fun q721 => k_ifn (sw_o q721 (by decide) (by decide)) q720 (fun q722 => k_ifn (sw_o q721 (by decide) (by decide)) q722 (fun q723 => k_ifn (sw_o q721 (by decide) (by decide)) q723 (fun q724 => o_rM q724 h0)))), (fun q725 => k_ifp q725 q720 (fun q726 => o_rM q726 h0)), (fun q727 => k_ifn (sw_n q727 (by decide)) q720 (fun q728 => k_ifp q727 q728 (fun q729 => o_rM q729 h0))), (fun q730 => k_ifn (sw_n q730 (by decide)) q720 (fun q731 => k_ifn (sw_n q730 (by decide)) q731 (fun q732 => k_ifp q730 q732 (fun q733 => ⟨fun q734 => k_ifn q734 q733 (fun q736 => o_bind q736 (fun c64 qc64 pc64 => ⟨c64, qc64, o_rM pc64 h0⟩)), fun q735 => k_ifp q735 q733 (fun q736 => o_rM q736 h0)⟩))))⟩)), fun q719 => k_ifn q719 q701 (fun q720 => o_bind q720 (fun c61 qc61 pc61 => ⟨c61, qc61, ⟨fun q737 => k_ifp q737 pc61 (fun q739 => o_bind q739 (fun c65 qc65 pc65 => ⟨c65, qc65, ih pc65 h0⟩)), fun q738 => k_ifn q738 pc61 (fun q739 => ⟨fun q740 => k_ifn q740 q739 (fun q742 => ⟨fun q743 => k_ifp q743 q742 (fun q745 => r_X3_tellFitting_78 (o_bind q745 (fun c66 qc66 pc66 => ⟨c66, qc66, ⟨fun q746 => k_ifn q746 pc66 (fun q748 => o_bind q748 (fun c65 qc65 pc65 => ⟨c65, qc65, ih pc65 h0⟩)), fun q747 => k_ifp q747 pc66 (fun q748 => o_bind q748 (fun c67 qc67 pc67 => ⟨c67, qc67, o_bind pc67 (fun c65 qc65 pc65 => ⟨c65, qc65, ih pc65 h0⟩)⟩))⟩⟩))), fun q744 => k_ifn q744 q742 (fun q745 => o_bind q745 (fun c62 qc62 pc62 => ⟨c62, qc62, ⟨fun q749 => k_ifn q749 pc62 (fun q751 => ⟨fun q752 => k_ifn q752 q751 (fun q754 => o_bind q754 (fun c65 qc65 pc65 => ⟨c65, qc65, ih pc65 h0⟩)), fun q753 => k_ifp q753 q751 (fun q754 => o_bind q754 (fun c67 qc67 pc67 => ⟨c67, qc67, o_bind pc67 (fun c65 qc65 pc65 => ⟨c65, qc65, ih pc65 h0⟩)⟩))⟩), fun q750 => k_ifp q750 pc62 (fun q751 => r_X3_tellFitting_78 (o_bind q751 (fun c66 qc66 pc66 => ⟨c66, qc66, ⟨fun q755 => k_ifn q755 pc66 (fun q757 => o_bind q757 (fun c65 qc65 pc65 => ⟨c65, qc65, ih pc65 h0⟩)), fun q756 => k_ifp q756 pc66 (fun q757 => o_bind q757 (fun c67 qc67 pc67 => ⟨c67, qc67, o_bind pc67 (fun c65 qc65 pc65 => ⟨c65, qc65, ih pc65 h0⟩)⟩))⟩⟩)))⟩⟩))⟩), fun q741 => k_ifp q741 q739 (fun q742 => o_bind q742 (fun c63 qc63 pc63 => ⟨c63, qc63, o_rM pc63 h0⟩))⟩)⟩⟩))⟩)⟩)

def F_X3_tellFitting (mi : MI) (w : WS) (i1 : Nat) (i2 : Nat) (x3 : Int32) : Option (Int32 × MI) := (F_X3_clearTops mi w ).bind fun c59 => (F_X3_begin c59 w (c59 5 i1 3) (c59 5 i1 3)).bind fun c60 => L_X3_tellFitting_28 w 1000000 c60 i1 i2 x3 0 (-1) 1 0

theorem s_X3_tellFitting {gl : Nat} {gx : Nat → Int32} {d : Nat} {P : PL} {Q : PO} {mi : MI} {w : WS} {lv : LV} {i1 : Nat} {i2 : Nat} {x3 : Int32} {r : (Int32 × MI)} (hf : F_X3_tellFitting mi w i1 i2 x3 = some r) (h0 : Q (aI r.1) (r.2, RS w, lv)) : Wp gl gx (d + 3) P 53 0 [aR 2 0, aR 5 i1, aR 1 i2, aI x3, aU, aU, aU, aU] [] (mi, RS w, lv) Q := r_X3_tellFitting_0 (o_bind hf (fun c59 qc59 pc59 => ⟨c59, qc59, o_bind pc59 (fun c60 qc60 pc60 => ⟨c60, qc60, l_X3_tellFitting_28 1000000 pc60 h0⟩)⟩))

abbrev row_45 : MT := (⟨"StencilHouse$Orders", "fewestSprays", "(LStencilHouse$Shop;LStencilHouse$Picture;)I"⟩, prog_5_method_6_code, 4, some .int, 1, lk_3)
set_option maxRecDepth 20000 in
theorem mt_45 : mt 45 = some row_45 := rfl
theorem r_X3_fewestSprays_38 {gl : Nat} {gx : Nat → Int32} {d : Nat} {P : PL} {Q : PO} {mi : MI} {w : WS} {lv : LV} {i1 : Nat} {i2 : Nat} {x3 : Int32} (h : (((mi 5 i1 3) < x3) → Q (aI (-1)) (mi, RS w, lv)) ∧ (¬ ((mi 5 i1 3) < x3) → (∃ c71 : Int32 × MI, F_X3_findSprays mi w i1 x3 = some c71 ∧ ((c71.1 = 0) → Wp gl gx (d + 4) P 45 38 [aR 2 0, aR 5 i1, aR 3 i2, aI (x3 + 1)] [] (c71.2, RS w, lv) Q) ∧ (¬ (c71.1 = 0) → Q (aI x3) (c71.2, RS w, lv))))) : Wp gl gx (d + 4) P 45 38 [aR 2 0, aR 5 i1, aR 3 i2, aI x3] [] (mi, RS w, lv) Q := 
  wpT row_45 mt_45 [.iload_n 3, .aload_n 1, .getfield 57, .if_icmp .gt 20] (by decide +kernel) [(63, [.iconst (.negSucc 0), .ireturn]), (46, [.aload_n 0, .aload_n 1, .iload_n 3, .invokevirtual 62]), (52, [.ifCond .eq 5]), (57, [.iinc 3 1, .goto (.negSucc 21)]), (55, [.iload_n 3, .ireturn])] (by decide +kernel) 50 (And.intro (fun q758 => (h.1 q758)) (fun q759 => Exists.elim (h.2 q759) (fun c71 zc71 => And.intro ⟨Nat.le_of_ble_eq_true rfl, rfl, rfl⟩ (s_X3_findSprays (d := d) zc71.1 (And.intro (fun q760 => (zc71.2.1 q760)) (fun q761 => (zc71.2.2 q761)))))))

theorem r_X3_fewestSprays_12 {gl : Nat} {gx : Nat → Int32} {d : Nat} {P : PL} {Q : PO} {mi : MI} {w : WS} {lv : LV} {i1 : Nat} {i2 : Nat} {x3 : Int32} (h : ((10 ≤ x3) → Wp gl gx (d + 4) P 45 38 [aR 2 0, aR 5 i1, aR 3 i2, aI 0] [] (mi, RS w, lv) Q) ∧ (¬ (10 ≤ x3) → (∃ c69 : Int32, F_X4_cellsOf mi w i2 i1 x3 = some c69 ∧ (vp_in x3 10) ∧ ((∀ m70 : MI, m70 = u3 mi 45 0 x3.toNatClampNeg c69 → Wp gl gx (d + 4) P 45 12 [aR 2 0, aR 5 i1, aR 3 i2, aI (x3 + 1)] [] (m70, RS w, lv) Q))))) : Wp gl gx (d + 4) P 45 12 [aR 2 0, aR 5 i1, aR 3 i2, aI x3] [] (mi, RS w, lv) Q := 
  wpT row_45 mt_45 [.iload_n 3, .bipush 10, .if_icmp .ge 21] (by decide +kernel) [(36, [.iconst 0, .istore_n 3]), (18, [.aload_n 0, .getfield 21, .iload_n 3, .aload_n 2, .aload_n 1, .iload_n 3, .invokevirtual 53]), (29, [.iastore]), (30, [.iinc 3 1, .goto (.negSucc 20)])] (by decide +kernel) 50 (And.intro (fun q762 => (h.1 q762)) (fun q763 => Exists.elim (h.2 q763) (fun c69 zc69 => And.intro ⟨Nat.le_of_ble_eq_true rfl, rfl, rfl⟩ (s_X4_cellsOf (d := d + 2) zc69.1 (And.intro zc69.2.1 ((zc69.2.2 _ rfl)))))))

theorem r_X3_fewestSprays_0 {gl : Nat} {gx : Nat → Int32} {d : Nat} {P : PL} {Q : PO} {mi : MI} {w : WS} {lv : LV} {i1 : Nat} {i2 : Nat} (h : (∃ c68 : Int32, F_X4_isWithin mi w i2 i1 = some c68 ∧ (¬ (c68 = 0) → Wp gl gx (d + 4) P 45 12 [aR 2 0, aR 5 i1, aR 3 i2, aI 0] [] (mi, RS w, lv) Q) ∧ ((c68 = 0) → Q (aI (-1)) (mi, RS w, lv)))) : Wp gl gx (d + 4) P 45 0 [aR 2 0, aR 5 i1, aR 3 i2, aU] [] (mi, RS w, lv) Q := 
  wpT row_45 mt_45 [.aload_n 2, .aload_n 1, .invokevirtual 47] (by decide +kernel) [(5, [.ifCond .ne 5]), (10, [.iconst 0, .istore_n 3]), (8, [.iconst (.negSucc 0), .ireturn])] (by decide +kernel) 36 (Exists.elim h (fun c68 zc68 => And.intro ⟨Nat.le_of_ble_eq_true rfl, rfl, rfl⟩ (s_X4_isWithin (d := d + 2) zc68.1 (And.intro (fun q764 => (zc68.2.1 q764)) (fun q765 => (zc68.2.2 q765))))))

def L_X3_fewestSprays_38 (w : WS) : Nat → MI → Nat → Nat → Int32 → Option (Int32 × MI)
  | 0, _, _, _, _ => none
  | n + 1, mi, i1, i2, x3 => if (mi 5 i1 3) < x3 then some ((-1 : Int32), mi) else (F_X3_findSprays mi w i1 x3).bind fun c71 => if c71.1 = 0 then L_X3_fewestSprays_38 w n c71.2 i1 i2 (x3 + 1) else some (x3, c71.2)

theorem l_X3_fewestSprays_38 {gl : Nat} {gx : Nat → Int32} {d : Nat} {P : PL} {Q : PO} {lv : LV} {w : WS} (n : Nat) : ∀ {mi : MI} {i1 : Nat} {i2 : Nat} {x3 : Int32} {r : (Int32 × MI)}, L_X3_fewestSprays_38 w n mi i1 i2 x3 = some r → (Q (aI r.1) (r.2, RS w, lv)) → Wp gl gx (d + 4) P 45 38 [aR 2 0, aR 5 i1, aR 3 i2, aI x3] [] (mi, RS w, lv) Q := by
  induction n with
  | zero => intro mi i1 i2 x3 r hf h0; exact o_none hf
  | succ n ih => intro mi i1 i2 x3 r hf h0; exact r_X3_fewestSprays_38 (⟨fun q766 => k_ifp q766 hf (fun q768 => o_rM q768 h0), fun q767 => k_ifn q767 hf (fun q768 => o_bind q768 (fun c71 qc71 pc71 => ⟨c71, qc71, ⟨fun q769 => k_ifp q769 pc71 (fun q771 => ih q771 h0), fun q770 => k_ifn q770 pc71 (fun q771 => o_rM q771 h0)⟩⟩))⟩)

def L_X3_fewestSprays_12 (w : WS) : Nat → MI → Nat → Nat → Int32 → Option (Int32 × MI)
  | 0, _, _, _, _ => none
  | n + 1, mi, i1, i2, x3 => if 10 ≤ x3 then L_X3_fewestSprays_38 w 1000000 mi i1 i2 0 else (F_X4_cellsOf mi w i2 i1 x3).bind fun c69 => ck (¬ (x3 < 0 ∨ 10 ≤ x3.toNatClampNeg)) (lt (u3 mi 45 0 x3.toNatClampNeg c69) fun m70 => L_X3_fewestSprays_12 w n m70 i1 i2 (x3 + 1))

theorem l_X3_fewestSprays_12 {gl : Nat} {gx : Nat → Int32} {d : Nat} {P : PL} {Q : PO} {lv : LV} {w : WS} (n : Nat) : ∀ {mi : MI} {i1 : Nat} {i2 : Nat} {x3 : Int32} {r : (Int32 × MI)}, L_X3_fewestSprays_12 w n mi i1 i2 x3 = some r → (Q (aI r.1) (r.2, RS w, lv)) → Wp gl gx (d + 4) P 45 12 [aR 2 0, aR 5 i1, aR 3 i2, aI x3] [] (mi, RS w, lv) Q := by
  induction n with
  | zero => intro mi i1 i2 x3 r hf h0; exact o_none hf
  | succ n ih => intro mi i1 i2 x3 r hf h0; exact r_X3_fewestSprays_12 (⟨fun q772 => k_ifp q772 hf (fun q774 => l_X3_fewestSprays_38 1000000 q774 h0), fun q773 => k_ifn q773 hf (fun q774 => o_bind q774 (fun c69 qc69 pc69 => ⟨c69, qc69, k_ck pc69 (fun q776 q775 => ⟨q776, fun m70 hm70 => k_lt q775 hm70 (fun q777 => ih q777 h0)⟩)⟩))⟩)

def F_X3_fewestSprays (mi : MI) (w : WS) (i1 : Nat) (i2 : Nat) : Option (Int32 × MI) := (F_X4_isWithin mi w i2 i1).bind fun c68 => if c68 = 0 then some ((-1 : Int32), mi) else L_X3_fewestSprays_12 w 1000000 mi i1 i2 0

theorem s_X3_fewestSprays {gl : Nat} {gx : Nat → Int32} {d : Nat} {P : PL} {Q : PO} {mi : MI} {w : WS} {lv : LV} {i1 : Nat} {i2 : Nat} {r : (Int32 × MI)} (hf : F_X3_fewestSprays mi w i1 i2 = some r) (h0 : Q (aI r.1) (r.2, RS w, lv)) : Wp gl gx (d + 4) P 45 0 [aR 2 0, aR 5 i1, aR 3 i2, aU] [] (mi, RS w, lv) Q := r_X3_fewestSprays_0 (o_bind hf (fun c68 qc68 pc68 => ⟨c68, qc68, ⟨fun q778 => k_ifn q778 pc68 (fun q780 => l_X3_fewestSprays_12 1000000 q780 h0), fun q779 => k_ifp q779 pc68 (fun q780 => o_rM q780 h0)⟩⟩))
end
section
/-! METHODS AS FUNCTIONS (5) -/
abbrev row_72 : MT := (⟨"StencilHouse$Reader", "clear", "()V"⟩, prog_7_method_3_code, 2, none, 1, lk_5)
set_option maxRecDepth 20000 in
theorem mt_72 : mt 72 = some row_72 := rfl
theorem r_X5_clear_22 {gl : Nat} {gx : Nat → Int32} {d : Nat} {P : PL} {Q : PO} {mi : MI} {w : WS} {lv : LV} {x1 : Int32} (h : ((30 ≤ x1) → (∃ c73 : MI, F_X6_clear mi w 8 = some c73 ∧ (∃ c74 : MI, F_X4_clear (u3 c73 0 8 0 0) w 8 = some c74 ∧ Q aU (u3 c74 1 8 0 0, RS w, lv)))) ∧ (¬ (30 ≤ x1) → (vp_in x1 30) ∧ ((∀ m75 : MI, m75 = u3 mi 34 0 x1.toNatClampNeg 0 → Wp gl gx (d + 1) P 72 22 [aR 4 0, aI (x1 + 1)] [] (m75, RS w, lv) Q)))) : Wp gl gx (d + 1) P 72 22 [aR 4 0, aI x1] [] (mi, RS w, lv) Q := 
  wpT row_72 mt_72 [.iload_n 1, .aload_n 0, .getfield 53, .arraylength, .if_icmp .ge 16] (by decide +kernel) [(44, [.aload_n 0, .getfield 12, .invokevirtual 93]), (51, [.aload_n 0, .getfield 21, .iconst 0, .putfield 94, .aload_n 0, .getfield 28, .invokevirtual 97]), (66, [.aload_n 0, .getfield 35, .iconst 0, .putfield 98, .return_]), (31, [.aload_n 0, .getfield 53, .iload_n 1, .iconst 0, .iastore]), (38, [.iinc 1 1, .goto (.negSucc 18)])] (by decide +kernel) 74 (And.intro (fun q781 => Exists.elim (h.1 q781) (fun c73 zc73 => And.intro ⟨Nat.le_of_ble_eq_true rfl, rfl, rfl⟩ (s_X6_clear (d := d) zc73.1 (Exists.elim zc73.2 (fun c74 zc74 => And.intro ⟨Nat.le_of_ble_eq_true rfl, rfl, rfl⟩ (s_X4_clear (d := d) zc74.1 (zc74.2))))))) (fun q782 => And.intro (h.2 q782).1 (((h.2 q782).2 _ rfl))))

theorem r_X5_clear_0 {gl : Nat} {gx : Nat → Int32} {d : Nat} {P : PL} {Q : PO} {mi : MI} {w : WS} {lv : LV}  (h : (∀ m72 : MI, m72 = u3 (u3 (u3 mi 4 0 4 0) 4 0 5 (-1)) 4 0 9 0 → Wp gl gx (d + 1) P 72 22 [aR 4 0, aI 0] [] (u3 m72 4 0 10 0, RS w, lv) Q)) : Wp gl gx (d + 1) P 72 0 [aR 4 0, aU] [] (mi, RS w, lv) Q := 
  wpT row_72 mt_72 [.aload_n 0, .iconst 0, .putfield 39, .aload_n 0, .iconst (.negSucc 0), .putfield 43, .aload_n 0, .iconst 0, .putfield 60] (by decide +kernel) [(15, [.aload_n 0, .iconst 0, .putfield 63, .iconst 0, .istore_n 1])] (by decide +kernel) 48 ((h _ rfl))

def L_X5_clear_22 (w : WS) : Nat → MI → Int32 → Option MI
  | 0, _, _ => none
  | n + 1, mi, x1 => if 30 ≤ x1 then (F_X6_clear mi w 8).bind fun c73 => (F_X4_clear (u3 c73 0 8 0 0) w 8).bind fun c74 => some (u3 c74 1 8 0 0) else ck (¬ (x1 < 0 ∨ 30 ≤ x1.toNatClampNeg)) (lt (u3 mi 34 0 x1.toNatClampNeg 0) fun m75 => L_X5_clear_22 w n m75 (x1 + 1))

theorem l_X5_clear_22 {gl : Nat} {gx : Nat → Int32} {d : Nat} {P : PL} {Q : PO} {lv : LV} {w : WS} (n : Nat) : ∀ {mi : MI} {x1 : Int32} {r : MI}, L_X5_clear_22 w n mi x1 = some r → (Q aU (r, RS w, lv)) → Wp gl gx (d + 1) P 72 22 [aR 4 0, aI x1] [] (mi, RS w, lv) Q := by
  induction n with
  | zero => intro mi x1 r hf h0; exact o_none hf
  | succ n ih => intro mi x1 r hf h0; exact r_X5_clear_22 (⟨fun q783 => k_ifp q783 hf (fun q785 => o_bind q785 (fun c73 qc73 pc73 => ⟨c73, qc73, o_bind pc73 (fun c74 qc74 pc74 => ⟨c74, qc74, o_rMV pc74 h0⟩)⟩)), fun q784 => k_ifn q784 hf (fun q785 => k_ck q785 (fun q787 q786 => ⟨q787, fun m75 hm75 => k_lt q786 hm75 (fun q788 => ih q788 h0)⟩))⟩)

def F_X5_clear (mi : MI) (w : WS)  : Option MI := lt (u3 (u3 (u3 mi 4 0 4 0) 4 0 5 (-1)) 4 0 9 0) fun m72 => L_X5_clear_22 w 1000000 (u3 m72 4 0 10 0) 0

theorem s_X5_clear {gl : Nat} {gx : Nat → Int32} {d : Nat} {P : PL} {Q : PO} {mi : MI} {w : WS} {lv : LV}  {r : MI} (hf : F_X5_clear mi w  = some r) (h0 : Q aU (r, RS w, lv)) : Wp gl gx (d + 1) P 72 0 [aR 4 0, aU] [] (mi, RS w, lv) Q := r_X5_clear_0 (fun m72 hm72 => k_lt hf hm72 (fun q789 => l_X5_clear_22 1000000 q789 h0))

abbrev row_75 : MT := (⟨"StencilHouse$Reader", "spelling", "(I)Ljava/lang/String;"⟩, prog_7_method_6_code, 1, some (.object "java/lang/String"), 0, lk_5)
set_option maxRecDepth 20000 in
theorem mt_75 : mt 75 = some row_75 := rfl
theorem r_X5_spelling_0 {gl : Nat} {gx : Nat → Int32} {d : Nat} {P : PL} {Q : PO} {mi : MI} {w : WS} {lv : LV} {x0 : Int32} (h : (x0 < 0 ∨ 11 < x0 → Q (aR 16 12) (mi, RS w, lv)) ∧ (x0 = 0 → Q (aR 16 0) (mi, RS w, lv)) ∧ (x0 = 1 → Q (aR 16 1) (mi, RS w, lv)) ∧ (x0 = 2 → Q (aR 16 2) (mi, RS w, lv)) ∧ (x0 = 3 → Q (aR 16 3) (mi, RS w, lv)) ∧ (x0 = 4 → Q (aR 16 4) (mi, RS w, lv)) ∧ (x0 = 5 → Q (aR 16 5) (mi, RS w, lv)) ∧ (x0 = 6 → Q (aR 16 6) (mi, RS w, lv)) ∧ (x0 = 7 → Q (aR 16 7) (mi, RS w, lv)) ∧ (x0 = 8 → Q (aR 16 8) (mi, RS w, lv)) ∧ (x0 = 9 → Q (aR 16 9) (mi, RS w, lv)) ∧ (x0 = 10 → Q (aR 16 10) (mi, RS w, lv)) ∧ (x0 = 11 → Q (aR 16 11) (mi, RS w, lv))) : Wp gl gx d P 75 0 [aI x0] [] (mi, RS w, lv) Q := 
  wpT row_75 mt_75 [.iload_n 0, .tableswitch 99 0 11 #[63, 66, 69, 72, 75, 78, 81, 84, 87, 90, 93, 96]] (by decide +kernel) [(100, [.ldc 159, .areturn]), (64, [.ldc 135, .areturn]), (67, [.ldc 137, .areturn]), (70, [.ldc 139, .areturn]), (73, [.ldc 141, .areturn]), (76, [.ldc 143, .areturn]), (79, [.ldc 145, .areturn]), (82, [.ldc 147, .areturn]), (85, [.ldc 149, .areturn]), (88, [.ldc 151, .areturn]), (91, [.ldc 153, .areturn]), (94, [.ldc 155, .areturn]), (97, [.ldc 157, .areturn])] (by decide +kernel) 76 (And.intro (fun q802 => (h.1 q802)) (And.intro (fun q801 => (h.2.1 q801)) (And.intro (fun q800 => (h.2.2.1 q800)) (And.intro (fun q799 => (h.2.2.2.1 q799)) (And.intro (fun q798 => (h.2.2.2.2.1 q798)) (And.intro (fun q797 => (h.2.2.2.2.2.1 q797)) (And.intro (fun q796 => (h.2.2.2.2.2.2.1 q796)) (And.intro (fun q795 => (h.2.2.2.2.2.2.2.1 q795)) (And.intro (fun q794 => (h.2.2.2.2.2.2.2.2.1 q794)) (And.intro (fun q793 => (h.2.2.2.2.2.2.2.2.2.1 q793)) (And.intro (fun q792 => (h.2.2.2.2.2.2.2.2.2.2.1 q792)) (And.intro (fun q791 => (h.2.2.2.2.2.2.2.2.2.2.2.1 q791)) (And.intro (fun q790 => (h.2.2.2.2.2.2.2.2.2.2.2.2 q790)) (trivial))))))))))))))

def F_X5_spelling (mi : MI) (w : WS) (x0 : Int32) : Option (Option Nat) := if x0 = 0 then some (some 0) else if x0 = 1 then some (some 1) else if x0 = 2 then some (some 2) else if x0 = 3 then some (some 3) else if x0 = 4 then some (some 4) else if x0 = 5 then some (some 5) else if x0 = 6 then some (some 6) else if x0 = 7 then some (some 7) else if x0 = 8 then some (some 8) else if x0 = 9 then some (some 9) else if x0 = 10 then some (some 10) else if x0 = 11 then some (some 11) else some (some 12)

theorem s_X5_spelling {gl : Nat} {gx : Nat → Int32} {d : Nat} {P : PL} {Q : PO} {mi : MI} {w : WS} {lv : LV} {x0 : Int32} {r : (Option Nat)} (hf : F_X5_spelling mi w x0 = some r) (h0 : r = none → Q aN (mi, RS w, lv)) (h1 : ∀ j, r = some j → Q (aR 16 j) (mi, RS w, lv)) : Wp gl gx d P 75 0 [aI x0] [] (mi, RS w, lv) Q := r_X5_spelling_0 (⟨(fun q803 => k_ifn (sw_o q803 (by decide) (by decide)) hf (fun q804 => k_ifn (sw_o q803 (by decide) (by decide)) q804 (fun q805 => k_ifn (sw_o q803 (by decide) (by decide)) q805 (fun q806 => k_ifn (sw_o q803 (by decide) (by decide)) q806 (fun q807 => k_ifn (sw_o q803 (by decide) (by decide)) q807 (fun q808 => k_ifn (sw_o q803 (by decide) (by decide)) q808 (fun q809 => k_ifn (sw_o q803 (by decide) (by decide)) q809 (fun q810 => k_ifn (sw_o q803 (by decide) (by decide)) q810 (fun q811 => k_ifn (sw_o q803 (by decide) (by decide)) q811 (fun q812 => k_ifn (sw_o q803 (by decide) (by decide)) q812 (fun q813 => k_ifn (sw_o q803 (by decide) (by decide)) q813 (fun q814 => k_ifn (sw_o q803 (by decide) (by decide)) q814 (fun q815 => o_rS q815 h1))))))))))))), (fun q816 => k_ifp q816 hf (fun q817 => o_rS q817 h1)), (fun q818 => k_ifn (sw_n q818 (by decide)) hf (fun q819 => k_ifp q818 q819 (fun q820 => o_rS q820 h1))), (fun q821 => k_ifn (sw_n q821 (by decide)) hf (fun q822 => k_ifn (sw_n q821 (by decide)) q822 (fun q823 => k_ifp q821 q823 (fun q824 => o_rS q824 h1)))), (fun q825 => k_ifn (sw_n q825 (by decide)) hf (fun q826 => k_ifn (sw_n q825 (by decide)) q826 (fun q827 => k_ifn (sw_n q825 (by decide)) q827 (fun q828 => k_ifp q825 q828 (fun q829 => o_rS q829 h1))))), (fun q830 => k_ifn (sw_n q830 (by decide)) hf (fun q831 => k_ifn (sw_n q830 (by decide)) q831 (fun q832 => k_ifn (sw_n q830 (by decide)) q832 (fun q833 => k_ifn (sw_n q830 (by decide)) q833 (fun q834 => k_ifp q830 q834 (fun q835 => o_rS q835 h1)))))), (fun q836 => k_ifn (sw_n q836 (by decide)) hf (fun q837 => k_ifn (sw_n q836 (by decide)) q837 (fun q838 => k_ifn (sw_n q836 (by decide)) q838 (fun q839 => k_ifn (sw_n q836 (by decide)) q839 (fun q840 => k_ifn (sw_n q836 (by decide)) q840 (fun q841 => k_ifp q836 q841 (fun q842 => o_rS q842 h1))))))), (fun q843 => k_ifn (sw_n q843 (by decide)) hf (fun q844 => k_ifn (sw_n q843 (by decide)) q844 (fun q845 => k_ifn (sw_n q843 (by decide)) q845 (fun q846 => k_ifn (sw_n q843 (by decide)) q846 (fun q847 => k_ifn (sw_n q843 (by decide)) q847 (fun q848 => k_ifn (sw_n q843 (by decide)) q848 (fun q849 => k_ifp q843 q849 (fun q850 => o_rS q850 h1)))))))), (fun q851 => k_ifn (sw_n q851 (by decide)) hf (fun q852 => k_ifn (sw_n q851 (by decide)) q852 (fun q853 => k_ifn (sw_n q851 (by decide)) q853 (fun q854 => k_ifn (sw_n q851 (by decide)) q854 (fun q855 => k_ifn (sw_n q851 (by decide)) q855 (fun q856 => k_ifn (sw_n q851 (by decide)) q856 (fun q857 => k_ifn (sw_n q851 (by decide)) q857 (fun q858 => k_ifp q851 q858 (fun q859 => o_rS q859 h1))))))))), (fun q860 => k_ifn (sw_n q860 (by decide)) hf (fun q861 => k_ifn (sw_n q860 (by decide)) q861 (fun q862 => k_ifn (sw_n q860 (by decide)) q862 (fun q863 => k_ifn (sw_n q860 (by decide)) q863 (fun q864 => k_ifn (sw_n q860 (by decide)) q864 (fun q865 => k_ifn (sw_n q860 (by decide)) q865 (fun q866 => k_ifn (sw_n q860 (by decide)) q866 (fun q867 => k_ifn (sw_n q860 (by decide)) q867 (fun q868 => k_ifp q860 q868 (fun q869 => o_rS q869 h1)))))))))), (fun q870 => k_ifn (sw_n q870 (by decide)) hf (fun q871 => k_ifn (sw_n q870 (by decide)) q871 (fun q872 => k_ifn (sw_n q870 (by decide)) q872 (fun q873 => k_ifn (sw_n q870 (by decide)) q873 (fun q874 => k_ifn (sw_n q870 (by decide)) q874 (fun q875 => k_ifn (sw_n q870 (by decide)) q875 (fun q876 => k_ifn (sw_n q870 (by decide)) q876 (fun q877 => k_ifn (sw_n q870 (by decide)) q877 (fun q878 => k_ifn (sw_n q870 (by decide)) q878 (fun q879 => k_ifp q870 q879 (fun q880 => o_rS q880 h1))))))))))), (fun q881 => k_ifn (sw_n q881 (by decide)) hf (fun q882 => k_ifn (sw_n q881 (by decide)) q882 (fun q883 => k_ifn (sw_n q881 (by decide)) q883 (fun q884 => k_ifn (sw_n q881 (by decide)) q884 (fun q885 => k_ifn (sw_n q881 (by decide)) q885 (fun q886 => k_ifn (sw_n q881 (by decide)) q886 (fun q887 => k_ifn (sw_n q881 (by decide)) q887 (fun q888 => k_ifn (sw_n q881 (by decide)) q888 (fun q889 => k_ifn (sw_n q881 (by decide)) q889 (fun q890 => k_ifn (sw_n q881 (by decide)) q890 (fun q891 => k_ifp q881 q891 (fun q892 => o_rS q892 h1)))))))))))), (fun q893 => k_ifn (sw_n q893 (by decide)) hf (fun q894 => k_ifn (sw_n q893 (by decide)) q894 (fun q895 => k_ifn (sw_n q893 (by decide)) q895 (fun q896 => k_ifn (sw_n q893 (by decide)) q896 (fun q897 => k_ifn (sw_n q893 (by decide)) q897 (fun q898 => k_ifn (sw_n q893 (by decide)) q898 (fun q899 => k_ifn (sw_n q893 (by decide)) q899 (fun q900 => k_ifn (sw_n q893 (by decide)) q900 (fun q901 => k_ifn (sw_n q893 (by decide)) q901 (fun q902 => k_ifn (sw_n q893 (by decide)) q902 (fun q903 => k_ifn (sw_n q893 (by decide)) q903 (fun q904 => k_ifp q893 q904 (fun q905 => o_rS q905 h1)))))))))))))⟩)

abbrev row_76 : MT := (⟨"StencilHouse$Reader", "hasRoomFor", "(I)Z"⟩, prog_7_method_7_code, 2, some .boolean, 1, lk_5)
set_option maxRecDepth 20000 in
theorem mt_76 : mt 76 = some row_76 := rfl
theorem r_X5_hasRoomFor_0 {gl : Nat} {gx : Nat → Int32} {d : Nat} {P : PL} {Q : PO} {mi : MI} {w : WS} {lv : LV} {x1 : Int32} (h : (x1 < 0 ∨ 12 < x1 → Q (aI (b2 (¬ (40 ≤ (mi 0 8 0))))) (mi, RS w, lv)) ∧ (x1 = 0 → Q (aI 1) (mi, RS w, lv)) ∧ (x1 = 1 → Q (aI 1) (mi, RS w, lv)) ∧ (x1 = 2 → Q (aI (b2 (¬ (6 ≤ (mi 5 8 3))))) (mi, RS w, lv)) ∧ (x1 = 3 → Q (aI 1) (mi, RS w, lv)) ∧ (x1 = 4 → Q (aI (b2 (¬ (40 ≤ (mi 0 8 0))))) (mi, RS w, lv)) ∧ (x1 = 5 → Q (aI (b2 (¬ (40 ≤ (mi 0 8 0))))) (mi, RS w, lv)) ∧ (x1 = 6 → Q (aI (b2 (¬ (40 ≤ (mi 0 8 0))))) (mi, RS w, lv)) ∧ (x1 = 7 → Q (aI (b2 (¬ (40 ≤ (mi 0 8 0))))) (mi, RS w, lv)) ∧ (x1 = 8 → Q (aI (b2 (¬ (40 ≤ (mi 0 8 0))))) (mi, RS w, lv)) ∧ (x1 = 9 → Q (aI (b2 (¬ (40 ≤ (mi 0 8 0))))) (mi, RS w, lv)) ∧ (x1 = 10 → Q (aI (b2 (¬ (5 ≤ (mi 4 0 10))))) (mi, RS w, lv)) ∧ (x1 = 11 → Q (aI (b2 (¬ (8 ≤ (mi 1 8 0))))) (mi, RS w, lv)) ∧ (x1 = 12 → Q (aI (b2 (¬ (8 ≤ (mi 1 8 0))))) (mi, RS w, lv))) : Wp gl gx d P 76 0 [aR 4 0, aI x1] [] (mi, RS w, lv) Q := 
  wpT row_76 mt_76 [.iload_n 1, .tableswitch 119 0 12 #[67, 67, 69, 67, 119, 119, 119, 119, 119, 119, 87, 101, 101]] (by decide +kernel) [(120, [.aload_n 0, .getfield 21, .getfield 94, .bipush 40, .if_icmp .ge 7]), (136, [.iconst 0, .ireturn]), (132, [.iconst 1, .goto 4]), (137, [.ireturn]), (68, [.iconst 1, .ireturn]), (70, [.aload_n 0, .getfield 12, .getfield 161, .bipush 6, .if_icmp .ge 7]), (86, [.iconst 0, .ireturn]), (82, [.iconst 1, .goto 4]), (87, [.ireturn]), (88, [.aload_n 0, .getfield 63, .iconst 5, .if_icmp .ge 7]), (100, [.iconst 0, .ireturn]), (96, [.iconst 1, .goto 4]), (101, [.ireturn]), (102, [.aload_n 0, .getfield 35, .getfield 98, .bipush 8, .if_icmp .ge 7]), (118, [.iconst 0, .ireturn]), (114, [.iconst 1, .goto 4]), (119, [.ireturn])] (by decide +kernel) 106 (And.intro (fun q939 => And.intro (fun q940 => And.intro rfl (mv9 (fun v => Q (aI v) (mi, RS w, lv)) (show (b2 (¬ (40 ≤ (mi 0 8 0)))) = 0 from b2n_t (show 40 ≤ (mi 0 8 0) from q940)) (h.1 q939))) (fun q941 => And.intro rfl (mv9 (fun v => Q (aI v) (mi, RS w, lv)) (show (b2 (¬ (40 ≤ (mi 0 8 0)))) = 1 from b2n_f (show ¬ (40 ≤ (mi 0 8 0)) from q941)) (h.1 q939)))) (And.intro (fun q938 => And.intro rfl (h.2.1 q938)) (And.intro (fun q937 => And.intro rfl (h.2.2.1 q937)) (And.intro (fun q934 => And.intro (fun q935 => And.intro rfl (mv9 (fun v => Q (aI v) (mi, RS w, lv)) (show (b2 (¬ (6 ≤ (mi 5 8 3)))) = 0 from b2n_t (show 6 ≤ (mi 5 8 3) from q935)) (h.2.2.2.1 q934))) (fun q936 => And.intro rfl (mv9 (fun v => Q (aI v) (mi, RS w, lv)) (show (b2 (¬ (6 ≤ (mi 5 8 3)))) = 1 from b2n_f (show ¬ (6 ≤ (mi 5 8 3)) from q936)) (h.2.2.2.1 q934)))) (And.intro (fun q933 => And.intro rfl (h.2.2.2.2.1 q933)) (And.intro (fun q930 => And.intro (fun q931 => And.intro rfl (mv9 (fun v => Q (aI v) (mi, RS w, lv)) (show (b2 (¬ (40 ≤ (mi 0 8 0)))) = 0 from b2n_t (show 40 ≤ (mi 0 8 0) from q931)) (h.2.2.2.2.2.1 q930))) (fun q932 => And.intro rfl (mv9 (fun v => Q (aI v) (mi, RS w, lv)) (show (b2 (¬ (40 ≤ (mi 0 8 0)))) = 1 from b2n_f (show ¬ (40 ≤ (mi 0 8 0)) from q932)) (h.2.2.2.2.2.1 q930)))) (And.intro (fun q927 => And.intro (fun q928 => And.intro rfl (mv9 (fun v => Q (aI v) (mi, RS w, lv)) (show (b2 (¬ (40 ≤ (mi 0 8 0)))) = 0 from b2n_t (show 40 ≤ (mi 0 8 0) from q928)) (h.2.2.2.2.2.2.1 q927))) (fun q929 => And.intro rfl (mv9 (fun v => Q (aI v) (mi, RS w, lv)) (show (b2 (¬ (40 ≤ (mi 0 8 0)))) = 1 from b2n_f (show ¬ (40 ≤ (mi 0 8 0)) from q929)) (h.2.2.2.2.2.2.1 q927)))) (And.intro (fun q924 => And.intro (fun q925 => And.intro rfl (mv9 (fun v => Q (aI v) (mi, RS w, lv)) (show (b2 (¬ (40 ≤ (mi 0 8 0)))) = 0 from b2n_t (show 40 ≤ (mi 0 8 0) from q925)) (h.2.2.2.2.2.2.2.1 q924))) (fun q926 => And.intro rfl (mv9 (fun v => Q (aI v) (mi, RS w, lv)) (show (b2 (¬ (40 ≤ (mi 0 8 0)))) = 1 from b2n_f (show ¬ (40 ≤ (mi 0 8 0)) from q926)) (h.2.2.2.2.2.2.2.1 q924)))) (And.intro (fun q921 => And.intro (fun q922 => And.intro rfl (mv9 (fun v => Q (aI v) (mi, RS w, lv)) (show (b2 (¬ (40 ≤ (mi 0 8 0)))) = 0 from b2n_t (show 40 ≤ (mi 0 8 0) from q922)) (h.2.2.2.2.2.2.2.2.1 q921))) (fun q923 => And.intro rfl (mv9 (fun v => Q (aI v) (mi, RS w, lv)) (show (b2 (¬ (40 ≤ (mi 0 8 0)))) = 1 from b2n_f (show ¬ (40 ≤ (mi 0 8 0)) from q923)) (h.2.2.2.2.2.2.2.2.1 q921)))) (And.intro (fun q918 => And.intro (fun q919 => And.intro rfl (mv9 (fun v => Q (aI v) (mi, RS w, lv)) (show (b2 (¬ (40 ≤ (mi 0 8 0)))) = 0 from b2n_t (show 40 ≤ (mi 0 8 0) from q919)) (h.2.2.2.2.2.2.2.2.2.1 q918))) (fun q920 => And.intro rfl (mv9 (fun v => Q (aI v) (mi, RS w, lv)) (show (b2 (¬ (40 ≤ (mi 0 8 0)))) = 1 from b2n_f (show ¬ (40 ≤ (mi 0 8 0)) from q920)) (h.2.2.2.2.2.2.2.2.2.1 q918)))) (And.intro (fun q915 => And.intro (fun q916 => And.intro rfl (mv9 (fun v => Q (aI v) (mi, RS w, lv)) (show (b2 (¬ (40 ≤ (mi 0 8 0)))) = 0 from b2n_t (show 40 ≤ (mi 0 8 0) from q916)) (h.2.2.2.2.2.2.2.2.2.2.1 q915))) (fun q917 => And.intro rfl (mv9 (fun v => Q (aI v) (mi, RS w, lv)) (show (b2 (¬ (40 ≤ (mi 0 8 0)))) = 1 from b2n_f (show ¬ (40 ≤ (mi 0 8 0)) from q917)) (h.2.2.2.2.2.2.2.2.2.2.1 q915)))) (And.intro (fun q912 => And.intro (fun q913 => And.intro rfl (mv9 (fun v => Q (aI v) (mi, RS w, lv)) (show (b2 (¬ (5 ≤ (mi 4 0 10)))) = 0 from b2n_t (show 5 ≤ (mi 4 0 10) from q913)) (h.2.2.2.2.2.2.2.2.2.2.2.1 q912))) (fun q914 => And.intro rfl (mv9 (fun v => Q (aI v) (mi, RS w, lv)) (show (b2 (¬ (5 ≤ (mi 4 0 10)))) = 1 from b2n_f (show ¬ (5 ≤ (mi 4 0 10)) from q914)) (h.2.2.2.2.2.2.2.2.2.2.2.1 q912)))) (And.intro (fun q909 => And.intro (fun q910 => And.intro rfl (mv9 (fun v => Q (aI v) (mi, RS w, lv)) (show (b2 (¬ (8 ≤ (mi 1 8 0)))) = 0 from b2n_t (show 8 ≤ (mi 1 8 0) from q910)) (h.2.2.2.2.2.2.2.2.2.2.2.2.1 q909))) (fun q911 => And.intro rfl (mv9 (fun v => Q (aI v) (mi, RS w, lv)) (show (b2 (¬ (8 ≤ (mi 1 8 0)))) = 1 from b2n_f (show ¬ (8 ≤ (mi 1 8 0)) from q911)) (h.2.2.2.2.2.2.2.2.2.2.2.2.1 q909)))) (And.intro (fun q906 => And.intro (fun q907 => And.intro rfl (mv9 (fun v => Q (aI v) (mi, RS w, lv)) (show (b2 (¬ (8 ≤ (mi 1 8 0)))) = 0 from b2n_t (show 8 ≤ (mi 1 8 0) from q907)) (h.2.2.2.2.2.2.2.2.2.2.2.2.2 q906))) (fun q908 => And.intro rfl (mv9 (fun v => Q (aI v) (mi, RS w, lv)) (show (b2 (¬ (8 ≤ (mi 1 8 0)))) = 1 from b2n_f (show ¬ (8 ≤ (mi 1 8 0)) from q908)) (h.2.2.2.2.2.2.2.2.2.2.2.2.2 q906)))) (trivial)))))))))))))))

def F_X5_hasRoomFor (mi : MI) (w : WS) (x1 : Int32) : Option Int32 := if x1 = 0 then some (1 : Int32) else if x1 = 1 then some (1 : Int32) else if x1 = 2 then some (b2 (¬ (6 ≤ (mi 5 8 3)))) else if x1 = 3 then some (1 : Int32) else if x1 = 4 then some (b2 (¬ (40 ≤ (mi 0 8 0)))) else if x1 = 5 then some (b2 (¬ (40 ≤ (mi 0 8 0)))) else if x1 = 6 then some (b2 (¬ (40 ≤ (mi 0 8 0)))) else if x1 = 7 then some (b2 (¬ (40 ≤ (mi 0 8 0)))) else if x1 = 8 then some (b2 (¬ (40 ≤ (mi 0 8 0)))) else if x1 = 9 then some (b2 (¬ (40 ≤ (mi 0 8 0)))) else if x1 = 10 then some (b2 (¬ (5 ≤ (mi 4 0 10)))) else if x1 = 11 then some (b2 (¬ (8 ≤ (mi 1 8 0)))) else if x1 = 12 then some (b2 (¬ (8 ≤ (mi 1 8 0)))) else some (b2 (¬ (40 ≤ (mi 0 8 0))))

theorem s_X5_hasRoomFor {gl : Nat} {gx : Nat → Int32} {d : Nat} {P : PL} {Q : PO} {mi : MI} {w : WS} {lv : LV} {x1 : Int32} {r : Int32} (hf : F_X5_hasRoomFor mi w x1 = some r) (h0 : Q (aI r) (mi, RS w, lv)) : Wp gl gx d P 76 0 [aR 4 0, aI x1] [] (mi, RS w, lv) Q := r_X5_hasRoomFor_0 (⟨(fun q942 => k_ifn (sw_o q942 (by decide) (by decide)) hf (fun q943 => k_ifn (sw_o q942 (by decide) (by decide)) q943 (fun q944 => k_ifn (sw_o q942 (by decide) (by decide)) q944 (fun q945 => k_ifn (sw_o q942 (by decide) (by decide)) q945 (fun q946 => k_ifn (sw_o q942 (by decide) (by decide)) q946 (fun q947 => k_ifn (sw_o q942 (by decide) (by decide)) q947 (fun q948 => k_ifn (sw_o q942 (by decide) (by decide)) q948 (fun q949 => k_ifn (sw_o q942 (by decide) (by decide)) q949 (fun q950 => k_ifn (sw_o q942 (by decide) (by decide)) q950 (fun q951 => k_ifn (sw_o q942 (by decide) (by decide)) q951 (fun q952 => k_ifn (sw_o q942 (by decide) (by decide)) q952 (fun q953 => k_ifn (sw_o q942 (by decide) (by decide)) q953 (fun q954 => k_ifn (sw_o q942 (by decide) (by decide)) q954 (fun q955 => o_rP q955 h0)))))))))))))), (fun q956 => k_ifp q956 hf (fun q957 => o_rP q957 h0)), (fun q958 => k_ifn (sw_n q958 (by decide)) hf (fun q959 => k_ifp q958 q959 (fun q960 => o_rP q960 h0))), (fun q961 => k_ifn (sw_n q961 (by decide)) hf (fun q962 => k_ifn (sw_n q961 (by decide)) q962 (fun q963 => k_ifp q961 q963 (fun q964 => o_rP q964 h0)))), (fun q965 => k_ifn (sw_n q965 (by decide)) hf (fun q966 => k_ifn (sw_n q965 (by decide)) q966 (fun q967 => k_ifn (sw_n q965 (by decide)) q967 (fun q968 => k_ifp q965 q968 (fun q969 => o_rP q969 h0))))), (fun q970 => k_ifn (sw_n q970 (by decide)) hf (fun q971 => k_ifn (sw_n q970 (by decide)) q971 (fun q972 => k_ifn (sw_n q970 (by decide)) q972 (fun q973 => k_ifn (sw_n q970 (by decide)) q973 (fun q974 => k_ifp q970 q974 (fun q975 => o_rP q975 h0)))))), (fun q976 => k_ifn (sw_n q976 (by decide)) hf (fun q977 => k_ifn (sw_n q976 (by decide)) q977 (fun q978 => k_ifn (sw_n q976 (by decide)) q978 (fun q979 => k_ifn (sw_n q976 (by decide)) q979 (fun q980 => k_ifn (sw_n q976 (by decide)) q980 (fun q981 => k_ifp q976 q981 (fun q982 => o_rP q982 h0))))))), (fun q983 => k_ifn (sw_n q983 (by decide)) hf (fun q984 => k_ifn (sw_n q983 (by decide)) q984 (fun q985 => k_ifn (sw_n q983 (by decide)) q985 (fun q986 => k_ifn (sw_n q983 (by decide)) q986 (fun q987 => k_ifn (sw_n q983 (by decide)) q987 (fun q988 => k_ifn (sw_n q983 (by decide)) q988 (fun q989 => k_ifp q983 q989 (fun q990 => o_rP q990 h0)))))))), (fun q991 => k_ifn (sw_n q991 (by decide)) hf (fun q992 => k_ifn (sw_n q991 (by decide)) q992 (fun q993 => k_ifn (sw_n q991 (by decide)) q993 (fun q994 => k_ifn (sw_n q991 (by decide)) q994 (fun q995 => k_ifn (sw_n q991 (by decide)) q995 (fun q996 => k_ifn (sw_n q991 (by decide)) q996 (fun q997 => k_ifn (sw_n q991 (by decide)) q997 (fun q998 => k_ifp q991 q998 (fun q999 => o_rP q999 h0))))))))), (fun q1000 => k_ifn (sw_n q1000 (by decide)) hf (fun q1001 => k_ifn (sw_n q1000 (by decide)) q1001 (fun q1002 => k_ifn (sw_n q1000 (by decide)) q1002 (fun q1003 => k_ifn (sw_n q1000 (by decide)) q1003 (fun q1004 => k_ifn (sw_n q1000 (by decide)) q1004 (fun q1005 => k_ifn (sw_n q1000 (by decide)) q1005 (fun q1006 => k_ifn (sw_n q1000 (by decide)) q1006 (fun q1007 => k_ifn (sw_n q1000 (by decide)) q1007 (fun q1008 => k_ifp q1000 q1008 (fun q1009 => o_rP q1009 h0)))))))))), (fun q1010 => k_ifn (sw_n q1010 (by decide)) hf (fun q1011 => k_ifn (sw_n q1010 (by decide)) q1011 (fun q1012 => k_ifn (sw_n q1010 (by decide)) q1012 (fun q1013 => k_ifn (sw_n q1010 (by decide)) q1013 (fun q1014 => k_ifn (sw_n q1010 (by decide)) q1014 (fun q1015 => k_ifn (sw_n q1010 (by decide)) q1015 (fun q1016 => k_ifn (sw_n q1010 (by decide)) q1016 (fun q1017 => k_ifn (sw_n q1010 (by decide)) q1017 (fun q1018 => k_ifn (sw_n q1010 (by decide)) q1018 (fun q1019 => k_ifp q1010 q1019 (fun q1020 => o_rP q1020 h0))))))))))), (fun q1021 => k_ifn (sw_n q1021 (by decide)) hf (fun q1022 => k_ifn (sw_n q1021 (by decide)) q1022 (fun q1023 => k_ifn (sw_n q1021 (by decide)) q1023 (fun q1024 => k_ifn (sw_n q1021 (by decide)) q1024 (fun q1025 => k_ifn (sw_n q1021 (by decide)) q1025 (fun q1026 => k_ifn (sw_n q1021 (by decide)) q1026 (fun q1027 => k_ifn (sw_n q1021 (by decide)) q1027 (fun q1028 => k_ifn (sw_n q1021 (by decide)) q1028 (fun q1029 => k_ifn (sw_n q1021 (by decide)) q1029 (fun q1030 => k_ifn (sw_n q1021 (by decide)) q1030 (fun q1031 => k_ifp q1021 q1031 (fun q1032 => o_rP q1032 h0)))))))))))), (fun q1033 => k_ifn (sw_n q1033 (by decide)) hf (fun q1034 => k_ifn (sw_n q1033 (by decide)) q1034 (fun q1035 => k_ifn (sw_n q1033 (by decide)) q1035 (fun q1036 => k_ifn (sw_n q1033 (by decide)) q1036 (fun q1037 => k_ifn (sw_n q1033 (by decide)) q1037 (fun q1038 => k_ifn (sw_n q1033 (by decide)) q1038 (fun q1039 => k_ifn (sw_n q1033 (by decide)) q1039 (fun q1040 => k_ifn (sw_n q1033 (by decide)) q1040 (fun q1041 => k_ifn (sw_n q1033 (by decide)) q1041 (fun q1042 => k_ifn (sw_n q1033 (by decide)) q1042 (fun q1043 => k_ifn (sw_n q1033 (by decide)) q1043 (fun q1044 => k_ifp q1033 q1044 (fun q1045 => o_rP q1045 h0))))))))))))), (fun q1046 => k_ifn (sw_n q1046 (by decide)) hf (fun q1047 => k_ifn (sw_n q1046 (by decide)) q1047 (fun q1048 => k_ifn (sw_n q1046 (by decide)) q1048 (fun q1049 => k_ifn (sw_n q1046 (by decide)) q1049 (fun q1050 => k_ifn (sw_n q1046 (by decide)) q1050 (fun q1051 => k_ifn (sw_n q1046 (by decide)) q1051 (fun q1052 => k_ifn (sw_n q1046 (by decide)) q1052 (fun q1053 => k_ifn (sw_n q1046 (by decide)) q1053 (fun q1054 => k_ifn (sw_n q1046 (by decide)) q1054 (fun q1055 => k_ifn (sw_n q1046 (by decide)) q1055 (fun q1056 => k_ifn (sw_n q1046 (by decide)) q1056 (fun q1057 => k_ifn (sw_n q1046 (by decide)) q1057 (fun q1058 => k_ifp q1046 q1058 (fun q1059 => o_rP q1059 h0))))))))))))))⟩)

abbrev row_78 : MT := (⟨"StencilHouse$Reader", "note", "(II)V"⟩, prog_7_method_9_code, 3, none, 1, lk_5)
set_option maxRecDepth 20000 in
theorem mt_78 : mt 78 = some row_78 := rfl
theorem r_X5_note_0 {gl : Nat} {gx : Nat → Int32} {d : Nat} {P : PL} {Q : PO} {mi : MI} {w : WS} {lv : LV} {x1 : Int32} {x2 : Int32} (h : (¬ ((mi 4 0 4) = 0) → Q aU (mi, RS w, lv)) ∧ (((mi 4 0 4) = 0) → Q aU (u3 (u3 mi 4 0 4 x1) 4 0 5 x2, RS w, lv))) : Wp gl gx d P 78 0 [aR 4 0, aI x1, aI x2] [] (mi, RS w, lv) Q := 
  wpT row_78 mt_78 [.aload_n 0, .getfield 39, .ifCond .ne 13] (by decide +kernel) [(17, [.return_]), (7, [.aload_n 0, .iload_n 1, .putfield 39, .aload_n 0, .iload_n 2, .putfield 43, .return_])] (by decide +kernel) 42 (And.intro (fun q1060 => (h.1 q1060)) (fun q1061 => (h.2 q1061)))

def F_X5_note (mi : MI) (w : WS) (x1 : Int32) (x2 : Int32) : Option MI := if (mi 4 0 4) = 0 then some (u3 (u3 mi 4 0 4 x1) 4 0 5 x2) else some mi

theorem s_X5_note {gl : Nat} {gx : Nat → Int32} {d : Nat} {P : PL} {Q : PO} {mi : MI} {w : WS} {lv : LV} {x1 : Int32} {x2 : Int32} {r : MI} (hf : F_X5_note mi w x1 x2 = some r) (h0 : Q aU (r, RS w, lv)) : Wp gl gx d P 78 0 [aR 4 0, aI x1, aI x2] [] (mi, RS w, lv) Q := r_X5_note_0 (⟨fun q1062 => k_ifn q1062 hf (fun q1064 => o_rMV q1064 h0), fun q1063 => k_ifp q1063 hf (fun q1064 => o_rMV q1064 h0)⟩)

abbrev row_80 : MT := (⟨"StencilHouse$Reader", "storeSheet", "(I)V"⟩, prog_7_method_11_code, 3, none, 1, lk_5)
set_option maxRecDepth 20000 in
theorem mt_80 : mt 80 = some row_80 := rfl
theorem r_X5_storeSheet_53 {gl : Nat} {gx : Nat → Int32} {d : Nat} {P : PL} {Q : PO} {mi : MI} {w : WS} {lv : LV} {x1 : Int32} {x2 : Int32} (h : Q aU (u3 mi 5 8 3 ((mi 5 8 3) + 1), RS w, lv)) : Wp gl gx d P 80 53 [aR 4 0, aI x1, aI x2] [] (mi, RS w, lv) Q := 
  wpT row_80 mt_80 [.aload_n 0, .getfield 12, .dup, .getfield 161, .iconst 1, .iadd, .putfield 161, .return_] (by decide +kernel) [] (by decide +kernel) 36 (h)

theorem r_X5_storeSheet_15 {gl : Nat} {gx : Nat → Int32} {d : Nat} {P : PL} {Q : PO} {mi : MI} {w : WS} {lv : LV} {x1 : Int32} {x2 : Int32} (h : ((x1 ≤ x2) → Q aU (u3 mi 5 8 3 ((mi 5 8 3) + 1), RS w, lv)) ∧ (¬ (x1 ≤ x2) → ((5 ≤ x2) → Q aU (u3 mi 5 8 3 ((mi 5 8 3) + 1), RS w, lv)) ∧ (¬ (5 ≤ x2) → (vp_in x2 5) ∧ ((vp_in (((mi 5 8 3) * 5) + x2) 30) ∧ ((∀ m76 : MI, m76 = u3 mi 34 0 ((((mi 5 8 3) * 5) + x2).toNatClampNeg) (mi 35 0 x2.toNatClampNeg) → Wp gl gx d P 80 15 [aR 4 0, aI x1, aI (x2 + 1)] [] (m76, RS w, lv) Q)))))) : Wp gl gx d P 80 15 [aR 4 0, aI x1, aI x2] [] (mi, RS w, lv) Q := 
  wpT row_80 mt_80 [.iload_n 2, .iload_n 1, .if_icmp .ge 36] (by decide +kernel) [(20, [.iload_n 2, .iconst 5, .if_icmp .ge 31]), (25, [.aload_n 0, .getfield 53, .aload_n 0, .getfield 12, .getfield 161, .iconst 5, .imul, .iload_n 2, .iadd, .aload_n 0, .getfield 57, .iload_n 2, .iaload]), (46, [.iastore]), (47, [.iinc 2 1, .goto (.negSucc 34)])] (by decide +kernel) 64 (And.intro (fun q1065 => r_X5_storeSheet_53 (x1 := x1) (x2 := x2) (mi := mi) (h.1 q1065)) (fun q1066 => And.intro (fun q1067 => r_X5_storeSheet_53 (x1 := x1) (x2 := x2) (mi := mi) ((h.2 q1066).1 q1067)) (fun q1068 => And.intro ((h.2 q1066).2 q1068).1 (And.intro ((h.2 q1066).2 q1068).2.1 ((((h.2 q1066).2 q1068).2.2 _ rfl))))))

theorem r_X5_storeSheet_0 {gl : Nat} {gx : Nat → Int32} {d : Nat} {P : PL} {Q : PO} {mi : MI} {w : WS} {lv : LV} {x1 : Int32} (h : (((mi 5 8 3) < 6) → Wp gl gx d P 80 15 [aR 4 0, aI x1, aI 0] [] (mi, RS w, lv) Q) ∧ (¬ ((mi 5 8 3) < 6) → Q aU (mi, RS w, lv))) : Wp gl gx d P 80 0 [aR 4 0, aI x1, aU] [] (mi, RS w, lv) Q := 
  wpT row_80 mt_80 [.aload_n 0, .getfield 12, .getfield 161, .bipush 6, .if_icmp .lt 4] (by decide +kernel) [(13, [.iconst 0, .istore_n 2]), (12, [.return_])] (by decide +kernel) 36 (And.intro (fun q1069 => (h.1 q1069)) (fun q1070 => (h.2 q1070)))

def L_X5_storeSheet_15 (w : WS) : Nat → MI → Int32 → Int32 → Option MI
  | 0, _, _, _ => none
  | n + 1, mi, x1, x2 => if x1 ≤ x2 then some (u3 mi 5 8 3 ((mi 5 8 3) + 1)) else if 5 ≤ x2 then some (u3 mi 5 8 3 ((mi 5 8 3) + 1)) else ck (¬ (x2 < 0 ∨ 5 ≤ x2.toNatClampNeg)) (ck (¬ ((((mi 5 8 3) * 5) + x2) < 0 ∨ 30 ≤ (((mi 5 8 3) * 5) + x2).toNatClampNeg)) (lt (u3 mi 34 0 ((((mi 5 8 3) * 5) + x2).toNatClampNeg) (mi 35 0 x2.toNatClampNeg)) fun m76 => L_X5_storeSheet_15 w n m76 x1 (x2 + 1)))

theorem l_X5_storeSheet_15 {gl : Nat} {gx : Nat → Int32} {d : Nat} {P : PL} {Q : PO} {lv : LV} {w : WS} (n : Nat) : ∀ {mi : MI} {x1 : Int32} {x2 : Int32} {r : MI}, L_X5_storeSheet_15 w n mi x1 x2 = some r → (Q aU (r, RS w, lv)) → Wp gl gx d P 80 15 [aR 4 0, aI x1, aI x2] [] (mi, RS w, lv) Q := by
  induction n with
  | zero => intro mi x1 x2 r hf h0; exact o_none hf
  | succ n ih => intro mi x1 x2 r hf h0; exact r_X5_storeSheet_15 (⟨fun q1071 => k_ifp q1071 hf (fun q1073 => o_rMV q1073 h0), fun q1072 => k_ifn q1072 hf (fun q1073 => ⟨fun q1074 => k_ifp q1074 q1073 (fun q1076 => o_rMV q1076 h0), fun q1075 => k_ifn q1075 q1073 (fun q1076 => k_ck q1076 (fun q1078 q1077 => ⟨q1078, k_ck q1077 (fun q1080 q1079 => ⟨q1080, fun m76 hm76 => k_lt q1079 hm76 (fun q1081 => ih q1081 h0)⟩)⟩))⟩)⟩)

def F_X5_storeSheet (mi : MI) (w : WS) (x1 : Int32) : Option MI := if (mi 5 8 3) < 6 then L_X5_storeSheet_15 w 1000000 mi x1 0 else some mi

theorem s_X5_storeSheet {gl : Nat} {gx : Nat → Int32} {d : Nat} {P : PL} {Q : PO} {mi : MI} {w : WS} {lv : LV} {x1 : Int32} {r : MI} (hf : F_X5_storeSheet mi w x1 = some r) (h0 : Q aU (r, RS w, lv)) : Wp gl gx d P 80 0 [aR 4 0, aI x1, aU] [] (mi, RS w, lv) Q := r_X5_storeSheet_0 (⟨fun q1082 => k_ifp q1082 hf (fun q1084 => l_X5_storeSheet_15 1000000 q1084 h0), fun q1083 => k_ifn q1083 hf (fun q1084 => o_rMV q1084 h0)⟩)

abbrev row_81 : MT := (⟨"StencilHouse$Reader", "storeWear", "(II)V"⟩, prog_7_method_12_code, 3, none, 1, lk_5)
set_option maxRecDepth 20000 in
theorem mt_81 : mt 81 = some row_81 := rfl
theorem r_X5_storeWear_0 {gl : Nat} {gx : Nat → Int32} {d : Nat} {P : PL} {Q : PO} {mi : MI} {w : WS} {lv : LV} {x1 : Int32} {x2 : Int32} (h : ((x1 < 0) → Q aU (mi, RS w, lv)) ∧ (¬ (x1 < 0) → ((6 ≤ x1) → Q aU (mi, RS w, lv)) ∧ (¬ (6 ≤ x1) → (vp_in x1 6) ∧ ((∀ m77 : MI, m77 = u3 mi 27 8 x1.toNatClampNeg x2 → (∀ m78 : MI, m78 = u3 m77 4 0 9 ((m77 4 0 9) ||| ((1 : Int32) <<< (x1 &&& 31))) → Q aU (m78, RS w, lv))))))) : Wp gl gx d P 81 0 [aR 4 0, aI x1, aI x2] [] (mi, RS w, lv) Q := 
  wpT row_81 mt_81 [.iload_n 1, .ifCond .lt 31] (by decide +kernel) [(32, [.return_]), (4, [.iload_n 1, .bipush 6, .if_icmp .ge 25]), (10, [.aload_n 0, .getfield 12, .getfield 197, .iload_n 1, .iload_n 2, .iastore]), (20, [.aload_n 0, .dup, .getfield 60, .iconst 1, .iload_n 1, .ishl, .ior, .putfield 60])] (by decide +kernel) 60 (And.intro (fun q1085 => (h.1 q1085)) (fun q1086 => And.intro (fun q1087 => ((h.2 q1086).1 q1087)) (fun q1088 => And.intro ((h.2 q1086).2 q1088).1 (((((h.2 q1086).2 q1088).2 _ rfl) _ rfl)))))

def F_X5_storeWear (mi : MI) (w : WS) (x1 : Int32) (x2 : Int32) : Option MI := if x1 < 0 then some mi else if 6 ≤ x1 then some mi else ck (¬ (x1 < 0 ∨ 6 ≤ x1.toNatClampNeg)) (lt (u3 mi 27 8 x1.toNatClampNeg x2) fun m77 => lt (u3 m77 4 0 9 ((m77 4 0 9) ||| ((1 : Int32) <<< (x1 &&& 31)))) fun m78 => some m78)

theorem s_X5_storeWear {gl : Nat} {gx : Nat → Int32} {d : Nat} {P : PL} {Q : PO} {mi : MI} {w : WS} {lv : LV} {x1 : Int32} {x2 : Int32} {r : MI} (hf : F_X5_storeWear mi w x1 x2 = some r) (h0 : Q aU (r, RS w, lv)) : Wp gl gx d P 81 0 [aR 4 0, aI x1, aI x2] [] (mi, RS w, lv) Q := r_X5_storeWear_0 (⟨fun q1089 => k_ifp q1089 hf (fun q1091 => o_rMV q1091 h0), fun q1090 => k_ifn q1090 hf (fun q1091 => ⟨fun q1092 => k_ifp q1092 q1091 (fun q1094 => o_rMV q1094 h0), fun q1093 => k_ifn q1093 q1091 (fun q1094 => k_ck q1094 (fun q1096 q1095 => ⟨q1096, fun m77 hm77 => k_lt q1095 hm77 (fun q1097 => fun m78 hm78 => k_lt q1097 hm78 (fun q1098 => o_rMV q1098 h0))⟩))⟩)⟩)

abbrev row_82 : MT := (⟨"StencilHouse$Reader", "storeRow", "(I)V"⟩, prog_7_method_13_code, 3, none, 1, lk_5)
set_option maxRecDepth 20000 in
theorem mt_82 : mt 82 = some row_82 := rfl
theorem r_X5_storeRow_49 {gl : Nat} {gx : Nat → Int32} {d : Nat} {P : PL} {Q : PO} {mi : MI} {w : WS} {lv : LV} {x1 : Int32} {x2 : Int32} (h : Q aU (u3 mi 4 0 10 ((mi 4 0 10) + 1), RS w, lv)) : Wp gl gx d P 82 49 [aR 4 0, aI x1, aI x2] [] (mi, RS w, lv) Q := 
  wpT row_82 mt_82 [.aload_n 0, .dup, .getfield 63, .iconst 1, .iadd, .putfield 63, .return_] (by decide +kernel) [] (by decide +kernel) 34 (h)

theorem r_X5_storeRow_11 {gl : Nat} {gx : Nat → Int32} {d : Nat} {P : PL} {Q : PO} {mi : MI} {w : WS} {lv : LV} {x1 : Int32} {x2 : Int32} (h : ((x1 ≤ x2) → Q aU (u3 mi 4 0 10 ((mi 4 0 10) + 1), RS w, lv)) ∧ (¬ (x1 ≤ x2) → ((5 ≤ x2) → Q aU (u3 mi 4 0 10 ((mi 4 0 10) + 1), RS w, lv)) ∧ (¬ (5 ≤ x2) → (vp_in x2 5) ∧ ((vp_in (((mi 4 0 10) * 5) + x2) 25) ∧ ((∀ m79 : MI, m79 = u3 mi 30 8 ((((mi 4 0 10) * 5) + x2).toNatClampNeg) (mi 35 0 x2.toNatClampNeg) → Wp gl gx d P 82 11 [aR 4 0, aI x1, aI (x2 + 1)] [] (m79, RS w, lv) Q)))))) : Wp gl gx d P 82 11 [aR 4 0, aI x1, aI x2] [] (mi, RS w, lv) Q := 
  wpT row_82 mt_82 [.iload_n 2, .iload_n 1, .if_icmp .ge 36] (by decide +kernel) [(16, [.iload_n 2, .iconst 5, .if_icmp .ge 31]), (21, [.aload_n 0, .getfield 28, .getfield 199, .aload_n 0, .getfield 63, .iconst 5, .imul, .iload_n 2, .iadd, .aload_n 0, .getfield 57, .iload_n 2, .iaload]), (42, [.iastore]), (43, [.iinc 2 1, .goto (.negSucc 34)])] (by decide +kernel) 64 (And.intro (fun q1099 => r_X5_storeRow_49 (x1 := x1) (x2 := x2) (mi := mi) (h.1 q1099)) (fun q1100 => And.intro (fun q1101 => r_X5_storeRow_49 (x1 := x1) (x2 := x2) (mi := mi) ((h.2 q1100).1 q1101)) (fun q1102 => And.intro ((h.2 q1100).2 q1102).1 (And.intro ((h.2 q1100).2 q1102).2.1 ((((h.2 q1100).2 q1102).2.2 _ rfl))))))

theorem r_X5_storeRow_0 {gl : Nat} {gx : Nat → Int32} {d : Nat} {P : PL} {Q : PO} {mi : MI} {w : WS} {lv : LV} {x1 : Int32} (h : (((mi 4 0 10) < 5) → Wp gl gx d P 82 11 [aR 4 0, aI x1, aI 0] [] (mi, RS w, lv) Q) ∧ (¬ ((mi 4 0 10) < 5) → Q aU (mi, RS w, lv))) : Wp gl gx d P 82 0 [aR 4 0, aI x1, aU] [] (mi, RS w, lv) Q := 
  wpT row_82 mt_82 [.aload_n 0, .getfield 63, .iconst 5, .if_icmp .lt 4] (by decide +kernel) [(9, [.iconst 0, .istore_n 2]), (8, [.return_])] (by decide +kernel) 34 (And.intro (fun q1103 => (h.1 q1103)) (fun q1104 => (h.2 q1104)))

def L_X5_storeRow_11 (w : WS) : Nat → MI → Int32 → Int32 → Option MI
  | 0, _, _, _ => none
  | n + 1, mi, x1, x2 => if x1 ≤ x2 then some (u3 mi 4 0 10 ((mi 4 0 10) + 1)) else if 5 ≤ x2 then some (u3 mi 4 0 10 ((mi 4 0 10) + 1)) else ck (¬ (x2 < 0 ∨ 5 ≤ x2.toNatClampNeg)) (ck (¬ ((((mi 4 0 10) * 5) + x2) < 0 ∨ 25 ≤ (((mi 4 0 10) * 5) + x2).toNatClampNeg)) (lt (u3 mi 30 8 ((((mi 4 0 10) * 5) + x2).toNatClampNeg) (mi 35 0 x2.toNatClampNeg)) fun m79 => L_X5_storeRow_11 w n m79 x1 (x2 + 1)))

theorem l_X5_storeRow_11 {gl : Nat} {gx : Nat → Int32} {d : Nat} {P : PL} {Q : PO} {lv : LV} {w : WS} (n : Nat) : ∀ {mi : MI} {x1 : Int32} {x2 : Int32} {r : MI}, L_X5_storeRow_11 w n mi x1 x2 = some r → (Q aU (r, RS w, lv)) → Wp gl gx d P 82 11 [aR 4 0, aI x1, aI x2] [] (mi, RS w, lv) Q := by
  induction n with
  | zero => intro mi x1 x2 r hf h0; exact o_none hf
  | succ n ih => intro mi x1 x2 r hf h0; exact r_X5_storeRow_11 (⟨fun q1105 => k_ifp q1105 hf (fun q1107 => o_rMV q1107 h0), fun q1106 => k_ifn q1106 hf (fun q1107 => ⟨fun q1108 => k_ifp q1108 q1107 (fun q1110 => o_rMV q1110 h0), fun q1109 => k_ifn q1109 q1107 (fun q1110 => k_ck q1110 (fun q1112 q1111 => ⟨q1112, k_ck q1111 (fun q1114 q1113 => ⟨q1114, fun m79 hm79 => k_lt q1113 hm79 (fun q1115 => ih q1115 h0)⟩)⟩))⟩)⟩)

def F_X5_storeRow (mi : MI) (w : WS) (x1 : Int32) : Option MI := if (mi 4 0 10) < 5 then L_X5_storeRow_11 w 1000000 mi x1 0 else some mi

theorem s_X5_storeRow {gl : Nat} {gx : Nat → Int32} {d : Nat} {P : PL} {Q : PO} {mi : MI} {w : WS} {lv : LV} {x1 : Int32} {r : MI} (hf : F_X5_storeRow mi w x1 = some r) (h0 : Q aU (r, RS w, lv)) : Wp gl gx d P 82 0 [aR 4 0, aI x1, aU] [] (mi, RS w, lv) Q := r_X5_storeRow_0 (⟨fun q1116 => k_ifp q1116 hf (fun q1118 => l_X5_storeRow_11 1000000 q1118 h0), fun q1117 => k_ifn q1117 hf (fun q1118 => o_rMV q1118 h0)⟩)

abbrev row_84 : MT := (⟨"StencilHouse$Reader", "cutRow", "(III)V"⟩, prog_7_method_15_code, 5, none, 1, lk_5)
set_option maxRecDepth 20000 in
theorem mt_84 : mt 84 = some row_84 := rfl
theorem r_X5_cutRow_42 {gl : Nat} {gx : Nat → Int32} {d : Nat} {P : PL} {Q : PO} {mi : MI} {w : WS} {lv : LV} {x1 : Int32} {x2 : Int32} {x3 : Int32} {x4 : Int32} (h : (∃ c81 : MI, F_X5_note mi w 5 x3 = some c81 ∧ Q aU (c81, RS w, lv))) : Wp gl gx (d + 1) P 84 42 [aR 4 0, aI x1, aI x2, aI x3, aI x4] [] (mi, RS w, lv) Q := 
  wpT row_84 mt_84 [.aload_n 0, .iconst 5, .iload_n 3, .invokevirtual 108] (by decide +kernel) [(48, [.return_])] (by decide +kernel) 30 (Exists.elim h (fun c81 zc81 => And.intro ⟨Nat.le_of_ble_eq_true rfl, rfl, rfl⟩ (s_X5_note (d := d) zc81.1 (zc81.2))))

theorem r_X5_cutRow_0 {gl : Nat} {gx : Nat → Int32} {d : Nat} {P : PL} {Q : PO} {mi : MI} {w : WS} {lv : LV} {x1 : Int32} {x2 : Int32} {x3 : Int32} (h : (vp_in ((x1 * 5) + x2) 30) ∧ ((¬ ((mi 34 0 (((x1 * 5) + x2).toNatClampNeg)) = 0) → (((mi 5 8 1) ≤ x2) → (∃ c81 : MI, F_X5_note mi w 5 x3 = some c81 ∧ Q aU (c81, RS w, lv))) ∧ (¬ ((mi 5 8 1) ≤ x2) → ((((mi 34 0 (((x1 * 5) + x2).toNatClampNeg)) >>> ((mi 5 8 0) &&& 31)) = 0) → (vp_in x1 6) ∧ ((vp_in x1 6) ∧ ((∀ m80 : MI, m80 = u3 mi 26 8 x1.toNatClampNeg ((mi 26 8 x1.toNatClampNeg) ||| ((mi 34 0 (((x1 * 5) + x2).toNatClampNeg)) <<< ((x2 * (mi 5 8 0)) &&& 31))) → Q aU (m80, RS w, lv))))) ∧ (¬ (((mi 34 0 (((x1 * 5) + x2).toNatClampNeg)) >>> ((mi 5 8 0) &&& 31)) = 0) → (∃ c81 : MI, F_X5_note mi w 5 x3 = some c81 ∧ Q aU (c81, RS w, lv))))) ∧ (((mi 34 0 (((x1 * 5) + x2).toNatClampNeg)) = 0) → Q aU (mi, RS w, lv)))) : Wp gl gx (d + 1) P 84 0 [aR 4 0, aI x1, aI x2, aI x3, aU] [] (mi, RS w, lv) Q := 
  wpT row_84 mt_84 [.aload_n 0, .getfield 53, .iload_n 1, .iconst 5, .imul, .iload_n 2, .iadd, .iaload] (by decide +kernel) [(10, [.istore 4, .iload 4, .ifCond .ne 4]), (18, [.iload_n 2, .aload_n 0, .getfield 12, .getfield 176, .if_icmp .ge 16]), (29, [.iload 4, .aload_n 0, .getfield 12, .getfield 173, .ishr, .ifCond .eq 10]), (49, [.aload_n 0, .getfield 12, .getfield 205, .iload_n 1, .dup2, .iaload]), (59, [.iload 4, .iload_n 2, .aload_n 0, .getfield 12, .getfield 173, .imul, .ishl, .ior, .iastore]), (73, [.return_]), (17, [.return_])] (by decide +kernel) 98 (And.intro h.1 (And.intro (fun q1119 => And.intro (fun q1121 => r_X5_cutRow_42 (x1 := x1) (x2 := x2) (x3 := x3) (x4 := (mi 34 0 (((x1 * 5) + x2).toNatClampNeg))) (mi := mi) ((h.2.1 q1119).1 q1121)) (fun q1122 => And.intro (fun q1123 => And.intro (((h.2.1 q1119).2 q1122).1 q1123).1 (And.intro (((h.2.1 q1119).2 q1122).1 q1123).2.1 (((((h.2.1 q1119).2 q1122).1 q1123).2.2 _ rfl)))) (fun q1124 => r_X5_cutRow_42 (x1 := x1) (x2 := x2) (x3 := x3) (x4 := (mi 34 0 (((x1 * 5) + x2).toNatClampNeg))) (mi := mi) (((h.2.1 q1119).2 q1122).2 q1124)))) (fun q1120 => (h.2.2 q1120))))

def F_X5_cutRow (mi : MI) (w : WS) (x1 : Int32) (x2 : Int32) (x3 : Int32) : Option MI := ck (¬ (((x1 * 5) + x2) < 0 ∨ 30 ≤ ((x1 * 5) + x2).toNatClampNeg)) (if (mi 34 0 (((x1 * 5) + x2).toNatClampNeg)) = 0 then some mi else if (mi 5 8 1) ≤ x2 then (F_X5_note mi w 5 x3).bind fun c81 => some c81 else if ((mi 34 0 (((x1 * 5) + x2).toNatClampNeg)) >>> ((mi 5 8 0) &&& 31)) = 0 then ck (¬ (x1 < 0 ∨ 6 ≤ x1.toNatClampNeg)) (ck (¬ (x1 < 0 ∨ 6 ≤ x1.toNatClampNeg)) (lt (u3 mi 26 8 x1.toNatClampNeg ((mi 26 8 x1.toNatClampNeg) ||| ((mi 34 0 (((x1 * 5) + x2).toNatClampNeg)) <<< ((x2 * (mi 5 8 0)) &&& 31)))) fun m80 => some m80)) else (F_X5_note mi w 5 x3).bind fun c81 => some c81)

theorem s_X5_cutRow {gl : Nat} {gx : Nat → Int32} {d : Nat} {P : PL} {Q : PO} {mi : MI} {w : WS} {lv : LV} {x1 : Int32} {x2 : Int32} {x3 : Int32} {r : MI} (hf : F_X5_cutRow mi w x1 x2 x3 = some r) (h0 : Q aU (r, RS w, lv)) : Wp gl gx (d + 1) P 84 0 [aR 4 0, aI x1, aI x2, aI x3, aU] [] (mi, RS w, lv) Q := r_X5_cutRow_0 (k_ck hf (fun q1126 q1125 => ⟨q1126, ⟨fun q1127 => k_ifn q1127 q1125 (fun q1129 => ⟨fun q1130 => k_ifp q1130 q1129 (fun q1132 => o_bind q1132 (fun c81 qc81 pc81 => ⟨c81, qc81, o_rMV pc81 h0⟩)), fun q1131 => k_ifn q1131 q1129 (fun q1132 => ⟨fun q1133 => k_ifp q1133 q1132 (fun q1135 => k_ck q1135 (fun q1137 q1136 => ⟨q1137, k_ck q1136 (fun q1139 q1138 => ⟨q1139, fun m80 hm80 => k_lt q1138 hm80 (fun q1140 => o_rMV q1140 h0)⟩)⟩)), fun q1134 => k_ifn q1134 q1132 (fun q1135 => o_bind q1135 (fun c81 qc81 pc81 => ⟨c81, qc81, o_rMV pc81 h0⟩))⟩)⟩), fun q1128 => k_ifp q1128 q1125 (fun q1129 => o_rMV q1129 h0)⟩⟩))

abbrev row_115 : MT := (⟨"StencilHouse$Told", "copyFrom", "(LStencilHouse$Told;)V"⟩, prog_10_method_2_code, 3, none, 1, lk_8)
set_option maxRecDepth 20000 in
theorem mt_115 : mt 115 = some row_115 := rfl
theorem r_X8_copyFrom_56 {gl : Nat} {gx : Nat → Int32} {d : Nat} {P : PL} {Q : PO} {mi : MI} {w : WS} {lv : LV} {i : Nat} {i1 : Nat} {x2 : Int32} (h : ((2 ≤ x2) → Q aU (mi, RS w, lv)) ∧ (¬ (2 ≤ x2) → (vp_in x2 2) ∧ ((vp_in x2 2) ∧ ((∃ c85 : MI, F_X6_copyFrom mi w (2 * i + x2.toNatClampNeg) (2 * i1 + x2.toNatClampNeg) = some c85 ∧ (vp_in x2 2) ∧ ((vp_in x2 2) ∧ ((∃ c86 : MI, F_X0_copyFrom c85 w (2 * i + x2.toNatClampNeg) (2 * i1 + x2.toNatClampNeg) = some c86 ∧ (vp_in x2 2) ∧ ((vp_in x2 2) ∧ ((∃ c87 : MI, F_X4_copyFrom c86 w (2 * i + x2.toNatClampNeg) (2 * i1 + x2.toNatClampNeg) = some c87 ∧ (vp_in x2 2) ∧ ((vp_in x2 2) ∧ ((∃ c88 : MI, F_X2_copyFrom c87 w (2 * i + x2.toNatClampNeg) (2 * i1 + x2.toNatClampNeg) = some c88 ∧ Wp gl gx (d + 2) P 115 56 [aR 7 i, aR 7 i1, aI (x2 + 1)] [] (c88, RS w, lv) Q)))))))))))))) : Wp gl gx (d + 2) P 115 56 [aR 7 i, aR 7 i1, aI x2] [] (mi, RS w, lv) Q := 
  wpT row_115 mt_115 [.iload_n 2, .iconst 2, .if_icmp .ge 69] (by decide +kernel) [(127, [.return_]), (61, [.aload_n 0, .getfield 30, .iload_n 2, .aaload]), (67, [.aload_n 1, .getfield 30, .iload_n 2, .aaload]), (73, [.invokevirtual 62]), (76, [.aload_n 0, .getfield 36, .iload_n 2, .aaload]), (82, [.aload_n 1, .getfield 36, .iload_n 2, .aaload]), (88, [.invokevirtual 66]), (91, [.aload_n 0, .getfield 42, .iload_n 2, .aaload]), (97, [.aload_n 1, .getfield 42, .iload_n 2, .aaload]), (103, [.invokevirtual 69]), (106, [.aload_n 0, .getfield 48, .iload_n 2, .aaload]), (112, [.aload_n 1, .getfield 48, .iload_n 2, .aaload]), (118, [.invokevirtual 72]), (121, [.iinc 2 1, .goto (.negSucc 67)])] (by decide +kernel) 104 (And.intro (fun q1141 => (h.1 q1141)) (fun q1142 => And.intro (h.2 q1142).1 (And.intro (h.2 q1142).2.1 (Exists.elim ((h.2 q1142).2.2) (fun c85 zc85 => And.intro ⟨Nat.le_of_ble_eq_true rfl, rfl, rfl⟩ (s_X6_copyFrom (d := d) zc85.1 (And.intro zc85.2.1 (And.intro zc85.2.2.1 (Exists.elim zc85.2.2.2 (fun c86 zc86 => And.intro ⟨Nat.le_of_ble_eq_true rfl, rfl, rfl⟩ (s_X0_copyFrom (d := d) zc86.1 (And.intro zc86.2.1 (And.intro zc86.2.2.1 (Exists.elim zc86.2.2.2 (fun c87 zc87 => And.intro ⟨Nat.le_of_ble_eq_true rfl, rfl, rfl⟩ (s_X4_copyFrom (d := d) zc87.1 (And.intro zc87.2.1 (And.intro zc87.2.2.1 (Exists.elim zc87.2.2.2 (fun c88 zc88 => And.intro ⟨Nat.le_of_ble_eq_true rfl, rfl, rfl⟩ (s_X2_copyFrom (d := d) zc88.1 (zc88.2))))))))))))))))))))))

theorem r_X8_copyFrom_0 {gl : Nat} {gx : Nat → Int32} {d : Nat} {P : PL} {Q : PO} {mi : MI} {w : WS} {lv : LV} {i : Nat} {i1 : Nat} (h : (∀ m82 : MI, m82 = u2 mi 20 i (va_cpy (mi 20 i1) (mi 20 i) 0 0 600) → (∀ m83 : MI, m83 = u3 (u3 m82 7 i 1 (m82 7 i1 1)) 7 i 2 ((u3 m82 7 i 1 (m82 7 i1 1)) 7 i1 2) → (∀ m84 : MI, m84 = u2 (u3 m83 7 i 3 (m83 7 i1 3)) 21 i (va_cpy ((u3 m83 7 i 3 (m83 7 i1 3)) 21 i1) ((u3 m83 7 i 3 (m83 7 i1 3)) 21 i) 0 0 4) → Wp gl gx (d + 2) P 115 56 [aR 7 i, aR 7 i1, aI 0] [] (m84, RS w, lv) Q)))) : Wp gl gx (d + 2) P 115 0 [aR 7 i, aR 7 i1, aU] [] (mi, RS w, lv) Q := 
  wpT row_115 mt_115 [.aload_n 1, .getfield 9, .iconst 0, .aload_n 0, .getfield 9, .iconst 0, .sipush 600, .invokestatic 56] (by decide +kernel) [(16, [.aload_n 0, .aload_n 1, .getfield 15, .putfield 15, .aload_n 0, .aload_n 1, .getfield 19, .putfield 19]), (32, [.aload_n 0, .aload_n 1, .getfield 22, .putfield 22, .aload_n 1, .getfield 25, .iconst 0, .aload_n 0, .getfield 25, .iconst 0, .iconst 4, .invokestatic 56]), (54, [.iconst 0, .istore_n 2])] (by decide +kernel) 80 (And.intro ⟨Nat.le_of_ble_eq_true rfl, by decide, by decide, by decide, by decide, by decide⟩ (And.intro ⟨Nat.le_of_ble_eq_true rfl, by decide, by decide, by decide, by decide, by decide⟩ ((((h _ rfl) _ rfl) _ rfl))))

def L_X8_copyFrom_56 (w : WS) : Nat → MI → Nat → Nat → Int32 → Option MI
  | 0, _, _, _, _ => none
  | n + 1, mi, i, i1, x2 => if 2 ≤ x2 then some mi else ck (¬ (x2 < 0 ∨ 2 ≤ x2.toNatClampNeg)) (ck (¬ (x2 < 0 ∨ 2 ≤ x2.toNatClampNeg)) ((F_X6_copyFrom mi w (2 * i + x2.toNatClampNeg) (2 * i1 + x2.toNatClampNeg)).bind fun c85 => ck (¬ (x2 < 0 ∨ 2 ≤ x2.toNatClampNeg)) (ck (¬ (x2 < 0 ∨ 2 ≤ x2.toNatClampNeg)) ((F_X0_copyFrom c85 w (2 * i + x2.toNatClampNeg) (2 * i1 + x2.toNatClampNeg)).bind fun c86 => ck (¬ (x2 < 0 ∨ 2 ≤ x2.toNatClampNeg)) (ck (¬ (x2 < 0 ∨ 2 ≤ x2.toNatClampNeg)) ((F_X4_copyFrom c86 w (2 * i + x2.toNatClampNeg) (2 * i1 + x2.toNatClampNeg)).bind fun c87 => ck (¬ (x2 < 0 ∨ 2 ≤ x2.toNatClampNeg)) (ck (¬ (x2 < 0 ∨ 2 ≤ x2.toNatClampNeg)) ((F_X2_copyFrom c87 w (2 * i + x2.toNatClampNeg) (2 * i1 + x2.toNatClampNeg)).bind fun c88 => L_X8_copyFrom_56 w n c88 i i1 (x2 + 1)))))))))

theorem l_X8_copyFrom_56 {gl : Nat} {gx : Nat → Int32} {d : Nat} {P : PL} {Q : PO} {lv : LV} {w : WS} (n : Nat) : ∀ {mi : MI} {i : Nat} {i1 : Nat} {x2 : Int32} {r : MI}, L_X8_copyFrom_56 w n mi i i1 x2 = some r → (Q aU (r, RS w, lv)) → Wp gl gx (d + 2) P 115 56 [aR 7 i, aR 7 i1, aI x2] [] (mi, RS w, lv) Q := by
  induction n with
  | zero => intro mi i i1 x2 r hf h0; exact o_none hf
  | succ n ih => intro mi i i1 x2 r hf h0; exact r_X8_copyFrom_56 (⟨fun q1143 => k_ifp q1143 hf (fun q1145 => o_rMV q1145 h0), fun q1144 => k_ifn q1144 hf (fun q1145 => k_ck q1145 (fun q1147 q1146 => ⟨q1147, k_ck q1146 (fun q1149 q1148 => ⟨q1149, o_bind q1148 (fun c85 qc85 pc85 => ⟨c85, qc85, k_ck pc85 (fun q1151 q1150 => ⟨q1151, k_ck q1150 (fun q1153 q1152 => ⟨q1153, o_bind q1152 (fun c86 qc86 pc86 => ⟨c86, qc86, k_ck pc86 (fun q1155 q1154 => ⟨q1155, k_ck q1154 (fun q1157 q1156 => ⟨q1157, o_bind q1156 (fun c87 qc87 pc87 => ⟨c87, qc87, k_ck pc87 (fun q1159 q1158 => ⟨q1159, k_ck q1158 (fun q1161 q1160 => ⟨q1161, o_bind q1160 (fun c88 qc88 pc88 => ⟨c88, qc88, ih pc88 h0⟩)⟩)⟩)⟩)⟩)⟩)⟩)⟩)⟩)⟩)⟩)⟩))⟩)

def F_X8_copyFrom (mi : MI) (w : WS) (i : Nat) (i1 : Nat) : Option MI := lt (u2 mi 20 i (va_cpy (mi 20 i1) (mi 20 i) 0 0 600)) fun m82 => lt (u3 (u3 m82 7 i 1 (m82 7 i1 1)) 7 i 2 ((u3 m82 7 i 1 (m82 7 i1 1)) 7 i1 2)) fun m83 => lt (u2 (u3 m83 7 i 3 (m83 7 i1 3)) 21 i (va_cpy ((u3 m83 7 i 3 (m83 7 i1 3)) 21 i1) ((u3 m83 7 i 3 (m83 7 i1 3)) 21 i) 0 0 4)) fun m84 => L_X8_copyFrom_56 w 1000000 m84 i i1 0

theorem s_X8_copyFrom {gl : Nat} {gx : Nat → Int32} {d : Nat} {P : PL} {Q : PO} {mi : MI} {w : WS} {lv : LV} {i : Nat} {i1 : Nat} {r : MI} (hf : F_X8_copyFrom mi w i i1 = some r) (h0 : Q aU (r, RS w, lv)) : Wp gl gx (d + 2) P 115 0 [aR 7 i, aR 7 i1, aU] [] (mi, RS w, lv) Q := r_X8_copyFrom_0 (fun m82 hm82 => k_lt hf hm82 (fun q1162 => fun m83 hm83 => k_lt q1162 hm83 (fun q1163 => fun m84 hm84 => k_lt q1163 hm84 (fun q1164 => l_X8_copyFrom_56 1000000 q1164 h0))))

abbrev row_116 : MT := (⟨"StencilHouse$Told", "append", "(I)V"⟩, prog_10_method_3_code, 3, none, 1, lk_8)
set_option maxRecDepth 20000 in
theorem mt_116 : mt 116 = some row_116 := rfl
theorem r_X8_append_3 {gl : Nat} {gx : Nat → Int32} {d : Nat} {P : PL} {Q : PO} {mi : MI} {w : WS} {lv : LV} {i : Nat} {x1 : Int32} {x2 : Int32} (h : ((x2 < 0) → Q aU (mi, RS w, lv)) ∧ (¬ (x2 < 0) → ((600 ≤ (mi 7 i 1)) → Q aU (mi, RS w, lv)) ∧ (¬ (600 ≤ (mi 7 i 1)) → (vp_in (mi 7 i 1) 600) ∧ ((∀ m89 : MI, m89 = u3 mi 20 i ((mi 7 i 1).toNatClampNeg) ((ushr x1 x2) &&& 255) → Wp gl gx d P 116 3 [aR 7 i, aI x1, aI (x2 + (-8))] [] (u3 m89 7 i 1 ((m89 7 i 1) + 1), RS w, lv) Q))))) : Wp gl gx d P 116 3 [aR 7 i, aI x1, aI x2] [] (mi, RS w, lv) Q := 
  wpT row_116 mt_116 [.iload_n 2, .ifCond .lt 45] (by decide +kernel) [(49, [.return_]), (7, [.aload_n 0, .getfield 15, .sipush 600, .if_icmp .ge 35]), (17, [.aload_n 0, .getfield 9, .aload_n 0, .getfield 15, .iload_n 1, .iload_n 2, .iushr, .sipush 255, .iand, .iastore]), (33, [.aload_n 0, .dup, .getfield 15, .iconst 1, .iadd, .putfield 15, .iinc 2 (.negSucc 7), .goto (.negSucc 42)])] (by decide +kernel) 70 (And.intro (fun q1165 => (h.1 q1165)) (fun q1166 => And.intro (fun q1167 => ((h.2 q1166).1 q1167)) (fun q1168 => And.intro ((h.2 q1166).2 q1168).1 ((((h.2 q1166).2 q1168).2 _ rfl)))))

theorem r_X8_append_0 {gl : Nat} {gx : Nat → Int32} {d : Nat} {P : PL} {Q : PO} {mi : MI} {w : WS} {lv : LV} {i : Nat} {x1 : Int32} (h : Wp gl gx d P 116 3 [aR 7 i, aI x1, aI 24] [] (mi, RS w, lv) Q) : Wp gl gx d P 116 0 [aR 7 i, aI x1, aU] [] (mi, RS w, lv) Q := 
  wpT row_116 mt_116 [.bipush 24, .istore_n 2] (by decide +kernel) [] (by decide +kernel) 24 (h)

def L_X8_append_3 (w : WS) : Nat → MI → Nat → Int32 → Int32 → Option MI
  | 0, _, _, _, _ => none
  | n + 1, mi, i, x1, x2 => if x2 < 0 then some mi else if 600 ≤ (mi 7 i 1) then some mi else ck (¬ ((mi 7 i 1) < 0 ∨ 600 ≤ (mi 7 i 1).toNatClampNeg)) (lt (u3 mi 20 i ((mi 7 i 1).toNatClampNeg) ((ushr x1 x2) &&& 255)) fun m89 => L_X8_append_3 w n (u3 m89 7 i 1 ((m89 7 i 1) + 1)) i x1 (x2 + (-8)))

theorem l_X8_append_3 {gl : Nat} {gx : Nat → Int32} {d : Nat} {P : PL} {Q : PO} {lv : LV} {w : WS} (n : Nat) : ∀ {mi : MI} {i : Nat} {x1 : Int32} {x2 : Int32} {r : MI}, L_X8_append_3 w n mi i x1 x2 = some r → (Q aU (r, RS w, lv)) → Wp gl gx d P 116 3 [aR 7 i, aI x1, aI x2] [] (mi, RS w, lv) Q := by
  induction n with
  | zero => intro mi i x1 x2 r hf h0; exact o_none hf
  | succ n ih => intro mi i x1 x2 r hf h0; exact r_X8_append_3 (⟨fun q1169 => k_ifp q1169 hf (fun q1171 => o_rMV q1171 h0), fun q1170 => k_ifn q1170 hf (fun q1171 => ⟨fun q1172 => k_ifp q1172 q1171 (fun q1174 => o_rMV q1174 h0), fun q1173 => k_ifn q1173 q1171 (fun q1174 => k_ck q1174 (fun q1176 q1175 => ⟨q1176, fun m89 hm89 => k_lt q1175 hm89 (fun q1177 => ih q1177 h0)⟩))⟩)⟩)

def F_X8_append (mi : MI) (w : WS) (i : Nat) (x1 : Int32) : Option MI := L_X8_append_3 w 1000000 mi i x1 24

theorem s_X8_append {gl : Nat} {gx : Nat → Int32} {d : Nat} {P : PL} {Q : PO} {mi : MI} {w : WS} {lv : LV} {i : Nat} {x1 : Int32} {r : MI} (hf : F_X8_append mi w i x1 = some r) (h0 : Q aU (r, RS w, lv)) : Wp gl gx d P 116 0 [aR 7 i, aI x1, aU] [] (mi, RS w, lv) Q := r_X8_append_0 (l_X8_append_3 1000000 hf h0)

abbrev row_117 : MT := (⟨"StencilHouse$Told", "has", "(II)Z"⟩, prog_10_method_4_code, 3, some .boolean, 1, lk_8)
set_option maxRecDepth 20000 in
theorem mt_117 : mt 117 = some row_117 := rfl
theorem r_X8_has_0 {gl : Nat} {gx : Nat → Int32} {d : Nat} {P : PL} {Q : PO} {mi : MI} {w : WS} {lv : LV} {i : Nat} {x1 : Int32} {x2 : Int32} (h : ((x2 < 0) → Q (aI 0) (mi, RS w, lv)) ∧ (¬ (x2 < 0) → (vp_in x1 4) ∧ (Q (aI (b2 (¬ ((mi 21 i x1.toNatClampNeg) ≤ x2) ∧ (¬ (2 ≤ x2))))) (mi, RS w, lv)))) : Wp gl gx d P 117 0 [aR 7 i, aI x1, aI x2] [] (mi, RS w, lv) Q := 
  wpT row_117 mt_117 [.iload_n 2, .ifCond .lt 22] (by decide +kernel) [(23, [.iconst 0, .ireturn]), (4, [.iload_n 2, .aload_n 0, .getfield 25, .iload_n 1, .iaload]), (11, [.if_icmp .ge 12]), (14, [.iload_n 2, .iconst 2, .if_icmp .ge 7]), (19, [.iconst 1, .goto 4]), (24, [.ireturn])] (by decide +kernel) 52 (And.intro (fun q1178 => And.intro rfl (h.1 q1178)) (fun q1179 => And.intro (h.2 q1179).1 (And.intro (fun q1180 => And.intro rfl (mv9 (fun v => Q (aI v) (mi, RS w, lv)) (show (b2 (¬ ((mi 21 i x1.toNatClampNeg) ≤ x2) ∧ (¬ (2 ≤ x2)))) = 0 from b2na_t (show (mi 21 i x1.toNatClampNeg) ≤ x2 from q1180)) ((h.2 q1179).2))) (fun q1181 => And.intro (fun q1182 => And.intro rfl (mv9 (fun v => Q (aI v) (mi, RS w, lv)) (show (b2 (¬ (2 ≤ x2))) = 0 from b2n_t (show 2 ≤ x2 from q1182)) (mv9 (fun v => Q (aI v) (mi, RS w, lv)) (show (b2 (¬ ((mi 21 i x1.toNatClampNeg) ≤ x2) ∧ (¬ (2 ≤ x2)))) = (b2 (¬ (2 ≤ x2))) from b2na_f (show ¬ ((mi 21 i x1.toNatClampNeg) ≤ x2) from q1181)) ((h.2 q1179).2)))) (fun q1183 => And.intro rfl (mv9 (fun v => Q (aI v) (mi, RS w, lv)) (show (b2 (¬ (2 ≤ x2))) = 1 from b2n_f (show ¬ (2 ≤ x2) from q1183)) (mv9 (fun v => Q (aI v) (mi, RS w, lv)) (show (b2 (¬ ((mi 21 i x1.toNatClampNeg) ≤ x2) ∧ (¬ (2 ≤ x2)))) = (b2 (¬ (2 ≤ x2))) from b2na_f (show ¬ ((mi 21 i x1.toNatClampNeg) ≤ x2) from q1181)) ((h.2 q1179).2))))))))

def F_X8_has (mi : MI) (w : WS) (i : Nat) (x1 : Int32) (x2 : Int32) : Option Int32 := if x2 < 0 then some (0 : Int32) else ck (¬ (x1 < 0 ∨ 4 ≤ x1.toNatClampNeg)) (some (b2 (¬ ((mi 21 i x1.toNatClampNeg) ≤ x2) ∧ (¬ (2 ≤ x2)))))

theorem s_X8_has {gl : Nat} {gx : Nat → Int32} {d : Nat} {P : PL} {Q : PO} {mi : MI} {w : WS} {lv : LV} {i : Nat} {x1 : Int32} {x2 : Int32} {r : Int32} (hf : F_X8_has mi w i x1 x2 = some r) (h0 : Q (aI r) (mi, RS w, lv)) : Wp gl gx d P 117 0 [aR 7 i, aI x1, aI x2] [] (mi, RS w, lv) Q := r_X8_has_0 (⟨fun q1184 => k_ifp q1184 hf (fun q1186 => o_rP q1186 h0), fun q1185 => k_ifn q1185 hf (fun q1186 => k_ck q1186 (fun q1188 q1187 => ⟨q1188, o_rP q1187 h0⟩))⟩)

abbrev row_118 : MT := (⟨"StencilHouse$Told", "hasPlaceFor", "(II)Z"⟩, prog_10_method_5_code, 3, some .boolean, 1, lk_8)
set_option maxRecDepth 20000 in
theorem mt_118 : mt 118 = some row_118 := rfl
theorem r_X8_hasPlaceFor_0 {gl : Nat} {gx : Nat → Int32} {d : Nat} {P : PL} {Q : PO} {mi : MI} {w : WS} {lv : LV} {i : Nat} {x1 : Int32} {x2 : Int32} (h : ((x1 < 0) → Q (aI 0) (mi, RS w, lv)) ∧ (¬ (x1 < 0) → ((x1 < 4) → (¬ (x2 = (-1)) → (∃ c90 : Int32, F_X8_has mi w i x1 x2 = some c90 ∧ (narrow .boolean (.int c90) = .int c90) ∧ Q (aI c90) (mi, RS w, lv))) ∧ ((x2 = (-1)) → (vp_in x1 4) ∧ (Q (aI (b2 (¬ (2 ≤ (mi 21 i x1.toNatClampNeg))))) (mi, RS w, lv)))) ∧ (¬ (x1 < 4) → Q (aI 0) (mi, RS w, lv)))) : Wp gl gx (d + 1) P 118 0 [aR 7 i, aI x1, aI x2] [] (mi, RS w, lv) Q := 
  wpT row_118 mt_118 [.iload_n 1, .ifCond .lt 8] (by decide +kernel) [(9, [.iconst 0, .ireturn]), (4, [.iload_n 1, .iconst 4, .if_icmp .lt 5]), (11, [.iload_n 2, .iconst (.negSucc 0), .if_icmp .ne 21]), (34, [.aload_n 0, .iload_n 1, .iload_n 2, .invokevirtual 75]), (40, [.ireturn]), (16, [.aload_n 0, .getfield 25, .iload_n 1, .iaload]), (22, [.iconst 2, .if_icmp .ge 7]), (30, [.iconst 0, .goto 9]), (26, [.iconst 1, .goto 13])] (by decide +kernel) 70 (And.intro (fun q1189 => And.intro rfl (h.1 q1189)) (fun q1190 => And.intro (fun q1191 => And.intro (fun q1193 => Exists.elim (((h.2 q1190).1 q1191).1 q1193) (fun c90 zc90 => And.intro ⟨Nat.le_of_ble_eq_true rfl, rfl, rfl⟩ (s_X8_has (d := d) zc90.1 (zc90.2)))) (fun q1194 => And.intro (((h.2 q1190).1 q1191).2 q1194).1 (And.intro (fun q1195 => And.intro rfl (mv9 (fun v => Q (aI v) (mi, RS w, lv)) (show (b2 (¬ (2 ≤ (mi 21 i x1.toNatClampNeg)))) = 0 from b2n_t (show 2 ≤ (mi 21 i x1.toNatClampNeg) from q1195)) ((((h.2 q1190).1 q1191).2 q1194).2))) (fun q1196 => And.intro rfl (mv9 (fun v => Q (aI v) (mi, RS w, lv)) (show (b2 (¬ (2 ≤ (mi 21 i x1.toNatClampNeg)))) = 1 from b2n_f (show ¬ (2 ≤ (mi 21 i x1.toNatClampNeg)) from q1196)) ((((h.2 q1190).1 q1191).2 q1194).2)))))) (fun q1192 => And.intro rfl ((h.2 q1190).2 q1192))))

def F_X8_hasPlaceFor (mi : MI) (w : WS) (i : Nat) (x1 : Int32) (x2 : Int32) : Option Int32 := if x1 < 0 then some (0 : Int32) else if x1 < 4 then if x2 = (-1) then ck (¬ (x1 < 0 ∨ 4 ≤ x1.toNatClampNeg)) (some (b2 (¬ (2 ≤ (mi 21 i x1.toNatClampNeg))))) else (F_X8_has mi w i x1 x2).bind fun c90 => ck (c90 = 0 ∨ c90 = 1) (some c90) else some (0 : Int32)

theorem s_X8_hasPlaceFor {gl : Nat} {gx : Nat → Int32} {d : Nat} {P : PL} {Q : PO} {mi : MI} {w : WS} {lv : LV} {i : Nat} {x1 : Int32} {x2 : Int32} {r : Int32} (hf : F_X8_hasPlaceFor mi w i x1 x2 = some r) (h0 : Q (aI r) (mi, RS w, lv)) : Wp gl gx (d + 1) P 118 0 [aR 7 i, aI x1, aI x2] [] (mi, RS w, lv) Q := r_X8_hasPlaceFor_0 (⟨fun q1197 => k_ifp q1197 hf (fun q1199 => o_rP q1199 h0), fun q1198 => k_ifn q1198 hf (fun q1199 => ⟨fun q1200 => k_ifp q1200 q1199 (fun q1202 => ⟨fun q1203 => k_ifn q1203 q1202 (fun q1205 => o_bind q1205 (fun c90 qc90 pc90 => ⟨c90, qc90, k_ck pc90 (fun q1207 q1206 => ⟨nb_01 q1207, o_rP q1206 h0⟩)⟩)), fun q1204 => k_ifp q1204 q1202 (fun q1205 => k_ck q1205 (fun q1209 q1208 => ⟨q1209, o_rP q1208 h0⟩))⟩), fun q1201 => k_ifn q1201 q1199 (fun q1202 => o_rP q1202 h0)⟩)⟩)

abbrev row_119 : MT := (⟨"StencilHouse$Told", "take", "(LStencilHouse$Reader;II)I"⟩, prog_10_method_6_code, 5, some .int, 1, lk_8)
set_option maxRecDepth 20000 in
theorem mt_119 : mt 119 = some row_119 := rfl
theorem r_X8_take_125 {gl : Nat} {gx : Nat → Int32} {d : Nat} {P : PL} {Q : PO} {mi : MI} {w : WS} {lv : LV} {i : Nat} {x2 : Int32} {x3 : Int32} {x4 : Int32} (h : (¬ (x3 = (-1)) → Q (aI x4) (mi, RS w, lv)) ∧ ((x3 = (-1)) → (vp_in x2 4) ∧ ((vp_in x2 4) ∧ ((∀ m95 : MI, m95 = u3 mi 21 i x2.toNatClampNeg ((mi 21 i x2.toNatClampNeg) + 1) → Q (aI x4) (m95, RS w, lv)))))) : Wp gl gx (d + 2) P 119 125 [aR 7 i, aR 4 0, aI x2, aI x3, aI x4] [] (mi, RS w, lv) Q := 
  wpT row_119 mt_119 [.iload_n 3, .iconst (.negSucc 0), .if_icmp .ne 13] (by decide +kernel) [(140, [.iload 4, .ireturn]), (130, [.aload_n 0, .getfield 25, .iload_n 2, .dup2, .iaload]), (137, [.iconst 1, .iadd, .iastore])] (by decide +kernel) 46 (And.intro (fun q1210 => (h.1 q1210)) (fun q1211 => And.intro (h.2 q1211).1 (And.intro (h.2 q1211).2.1 (((h.2 q1211).2.2 _ rfl)))))

theorem r_X8_take_15 {gl : Nat} {gx : Nat → Int32} {d : Nat} {P : PL} {Q : PO} {mi : MI} {w : WS} {lv : LV} {i : Nat} {x2 : Int32} {x3 : Int32} {v4 : AV} {s0 : Int32} (h : ((s0 < 0) → Q (aI (-2)) (mi, RS w, lv)) ∧ (¬ (s0 < 0) → ((s0 < 2) → (x2 < 0 ∨ 2 < x2 → (vp_in s0 2) ∧ ((∃ c91 : MI, F_X2_copyFrom mi w (2 * i + s0.toNatClampNeg) 8 = some c91 ∧ Wp gl gx (d + 2) P 119 125 [aR 7 i, aR 4 0, aI x2, aI x3, aI s0] [] (c91, RS w, lv) Q))) ∧ (x2 = 0 → (vp_in s0 2) ∧ ((∃ c92 : MI, F_X6_copyFrom mi w (2 * i + s0.toNatClampNeg) 8 = some c92 ∧ Wp gl gx (d + 2) P 119 125 [aR 7 i, aR 4 0, aI x2, aI x3, aI s0] [] (c92, RS w, lv) Q))) ∧ (x2 = 1 → (vp_in s0 2) ∧ ((∃ c93 : MI, F_X0_copyFrom mi w (2 * i + s0.toNatClampNeg) 8 = some c93 ∧ Wp gl gx (d + 2) P 119 125 [aR 7 i, aR 4 0, aI x2, aI x3, aI s0] [] (c93, RS w, lv) Q))) ∧ (x2 = 2 → (vp_in s0 2) ∧ ((∃ c94 : MI, F_X4_copyFrom mi w (2 * i + s0.toNatClampNeg) 8 = some c94 ∧ Wp gl gx (d + 2) P 119 125 [aR 7 i, aR 4 0, aI x2, aI x3, aI s0] [] (c94, RS w, lv) Q)))) ∧ (¬ (s0 < 2) → Q (aI (-2)) (mi, RS w, lv)))) : Wp gl gx (d + 2) P 119 15 [aR 7 i, aR 4 0, aI x2, aI x3, v4] [aI s0] (mi, RS w, lv) Q := 
  wpT row_119 mt_119 [.istore 4, .iload 4, .ifCond .lt 9] (by decide +kernel) [(28, [.bipush (.negSucc 1), .ireturn]), (22, [.iload 4, .iconst 2, .if_icmp .lt 6]), (31, [.iload_n 2, .tableswitch 79 0 2 #[28, 45, 62]]), (111, [.aload_n 0, .getfield 48, .iload 4, .aaload]), (118, [.aload_n 1, .getfield 93, .invokevirtual 72]), (60, [.aload_n 0, .getfield 30, .iload 4, .aaload]), (67, [.aload_n 1, .getfield 79, .invokevirtual 62]), (74, [.goto 51]), (77, [.aload_n 0, .getfield 36, .iload 4, .aaload]), (84, [.aload_n 1, .getfield 85, .invokevirtual 66]), (91, [.goto 34]), (94, [.aload_n 0, .getfield 42, .iload 4, .aaload]), (101, [.aload_n 1, .getfield 89, .invokevirtual 69]), (108, [.goto 17])] (by decide +kernel) 102 (And.intro (fun q1212 => (h.1 q1212)) (fun q1213 => And.intro (fun q1214 => And.intro (fun q1219 => And.intro (((h.2 q1213).1 q1214).1 q1219).1 (Exists.elim ((((h.2 q1213).1 q1214).1 q1219).2) (fun c91 zc91 => And.intro ⟨Nat.le_of_ble_eq_true rfl, rfl, rfl⟩ (s_X2_copyFrom (d := d) zc91.1 (zc91.2))))) (And.intro (fun q1218 => And.intro (((h.2 q1213).1 q1214).2.1 q1218).1 (Exists.elim ((((h.2 q1213).1 q1214).2.1 q1218).2) (fun c92 zc92 => And.intro ⟨Nat.le_of_ble_eq_true rfl, rfl, rfl⟩ (s_X6_copyFrom (d := d) zc92.1 (zc92.2))))) (And.intro (fun q1217 => And.intro (((h.2 q1213).1 q1214).2.2.1 q1217).1 (Exists.elim ((((h.2 q1213).1 q1214).2.2.1 q1217).2) (fun c93 zc93 => And.intro ⟨Nat.le_of_ble_eq_true rfl, rfl, rfl⟩ (s_X0_copyFrom (d := d) zc93.1 (zc93.2))))) (And.intro (fun q1216 => And.intro (((h.2 q1213).1 q1214).2.2.2 q1216).1 (Exists.elim ((((h.2 q1213).1 q1214).2.2.2 q1216).2) (fun c94 zc94 => And.intro ⟨Nat.le_of_ble_eq_true rfl, rfl, rfl⟩ (s_X4_copyFrom (d := d) zc94.1 (zc94.2))))) (trivial))))) (fun q1215 => ((h.2 q1213).2 q1215))))

theorem r_X8_take_0 {gl : Nat} {gx : Nat → Int32} {d : Nat} {P : PL} {Q : PO} {mi : MI} {w : WS} {lv : LV} {i : Nat} {x2 : Int32} {x3 : Int32} (h : (¬ (x3 = (-1)) → Wp gl gx (d + 2) P 119 15 [aR 7 i, aR 4 0, aI x2, aI x3, aU] [aI x3] (mi, RS w, lv) Q) ∧ ((x3 = (-1)) → (vp_in x2 4) ∧ (Wp gl gx (d + 2) P 119 15 [aR 7 i, aR 4 0, aI x2, aI x3, aU] [aI (mi 21 i x2.toNatClampNeg)] (mi, RS w, lv) Q))) : Wp gl gx (d + 2) P 119 0 [aR 7 i, aR 4 0, aI x2, aI x3, aU] [] (mi, RS w, lv) Q := 
  wpT row_119 mt_119 [.iload_n 3, .iconst (.negSucc 0), .if_icmp .ne 12] (by decide +kernel) [(14, [.iload_n 3]), (5, [.aload_n 0, .getfield 25, .iload_n 2, .iaload]), (11, [.goto 4])] (by decide +kernel) 38 (And.intro (fun q1220 => (h.1 q1220)) (fun q1221 => And.intro (h.2 q1221).1 ((h.2 q1221).2)))

def F_X8_take (mi : MI) (w : WS) (i : Nat) (x2 : Int32) (x3 : Int32) : Option (Int32 × MI) := if x3 = (-1) then ck (¬ (x2 < 0 ∨ 4 ≤ x2.toNatClampNeg)) (if (mi 21 i x2.toNatClampNeg) < 0 then some ((-2 : Int32), mi) else if (mi 21 i x2.toNatClampNeg) < 2 then if x2 = 0 then ck (¬ ((mi 21 i x2.toNatClampNeg) < 0 ∨ 2 ≤ (mi 21 i x2.toNatClampNeg).toNatClampNeg)) ((F_X6_copyFrom mi w (2 * i + (mi 21 i x2.toNatClampNeg).toNatClampNeg) 8).bind fun c92 => if x3 = (-1) then ck (¬ (x2 < 0 ∨ 4 ≤ x2.toNatClampNeg)) (ck (¬ (x2 < 0 ∨ 4 ≤ x2.toNatClampNeg)) (lt (u3 c92 21 i x2.toNatClampNeg ((c92 21 i x2.toNatClampNeg) + 1)) fun m95 => some ((mi 21 i x2.toNatClampNeg), m95))) else some ((mi 21 i x2.toNatClampNeg), c92)) else if x2 = 1 then ck (¬ ((mi 21 i x2.toNatClampNeg) < 0 ∨ 2 ≤ (mi 21 i x2.toNatClampNeg).toNatClampNeg)) ((F_X0_copyFrom mi w (2 * i + (mi 21 i x2.toNatClampNeg).toNatClampNeg) 8).bind fun c93 => if x3 = (-1) then ck (¬ (x2 < 0 ∨ 4 ≤ x2.toNatClampNeg)) (ck (¬ (x2 < 0 ∨ 4 ≤ x2.toNatClampNeg)) (lt (u3 c93 21 i x2.toNatClampNeg ((c93 21 i x2.toNatClampNeg) + 1)) fun m95 => some ((mi 21 i x2.toNatClampNeg), m95))) else some ((mi 21 i x2.toNatClampNeg), c93)) else if x2 = 2 then ck (¬ ((mi 21 i x2.toNatClampNeg) < 0 ∨ 2 ≤ (mi 21 i x2.toNatClampNeg).toNatClampNeg)) ((F_X4_copyFrom mi w (2 * i + (mi 21 i x2.toNatClampNeg).toNatClampNeg) 8).bind fun c94 => if x3 = (-1) then ck (¬ (x2 < 0 ∨ 4 ≤ x2.toNatClampNeg)) (ck (¬ (x2 < 0 ∨ 4 ≤ x2.toNatClampNeg)) (lt (u3 c94 21 i x2.toNatClampNeg ((c94 21 i x2.toNatClampNeg) + 1)) fun m95 => some ((mi 21 i x2.toNatClampNeg), m95))) else some ((mi 21 i x2.toNatClampNeg), c94)) else ck (¬ ((mi 21 i x2.toNatClampNeg) < 0 ∨ 2 ≤ (mi 21 i x2.toNatClampNeg).toNatClampNeg)) ((F_X2_copyFrom mi w (2 * i + (mi 21 i x2.toNatClampNeg).toNatClampNeg) 8).bind fun c91 => if x3 = (-1) then ck (¬ (x2 < 0 ∨ 4 ≤ x2.toNatClampNeg)) (ck (¬ (x2 < 0 ∨ 4 ≤ x2.toNatClampNeg)) (lt (u3 c91 21 i x2.toNatClampNeg ((c91 21 i x2.toNatClampNeg) + 1)) fun m95 => some ((mi 21 i x2.toNatClampNeg), m95))) else some ((mi 21 i x2.toNatClampNeg), c91)) else some ((-2 : Int32), mi)) else if x3 < 0 then some ((-2 : Int32), mi) else if x3 < 2 then if x2 = 0 then ck (¬ (x3 < 0 ∨ 2 ≤ x3.toNatClampNeg)) ((F_X6_copyFrom mi w (2 * i + x3.toNatClampNeg) 8).bind fun c92 => if x3 = (-1) then ck (¬ (x2 < 0 ∨ 4 ≤ x2.toNatClampNeg)) (ck (¬ (x2 < 0 ∨ 4 ≤ x2.toNatClampNeg)) (lt (u3 c92 21 i x2.toNatClampNeg ((c92 21 i x2.toNatClampNeg) + 1)) fun m95 => some (x3, m95))) else some (x3, c92)) else if x2 = 1 then ck (¬ (x3 < 0 ∨ 2 ≤ x3.toNatClampNeg)) ((F_X0_copyFrom mi w (2 * i + x3.toNatClampNeg) 8).bind fun c93 => if x3 = (-1) then ck (¬ (x2 < 0 ∨ 4 ≤ x2.toNatClampNeg)) (ck (¬ (x2 < 0 ∨ 4 ≤ x2.toNatClampNeg)) (lt (u3 c93 21 i x2.toNatClampNeg ((c93 21 i x2.toNatClampNeg) + 1)) fun m95 => some (x3, m95))) else some (x3, c93)) else if x2 = 2 then ck (¬ (x3 < 0 ∨ 2 ≤ x3.toNatClampNeg)) ((F_X4_copyFrom mi w (2 * i + x3.toNatClampNeg) 8).bind fun c94 => if x3 = (-1) then ck (¬ (x2 < 0 ∨ 4 ≤ x2.toNatClampNeg)) (ck (¬ (x2 < 0 ∨ 4 ≤ x2.toNatClampNeg)) (lt (u3 c94 21 i x2.toNatClampNeg ((c94 21 i x2.toNatClampNeg) + 1)) fun m95 => some (x3, m95))) else some (x3, c94)) else ck (¬ (x3 < 0 ∨ 2 ≤ x3.toNatClampNeg)) ((F_X2_copyFrom mi w (2 * i + x3.toNatClampNeg) 8).bind fun c91 => if x3 = (-1) then ck (¬ (x2 < 0 ∨ 4 ≤ x2.toNatClampNeg)) (ck (¬ (x2 < 0 ∨ 4 ≤ x2.toNatClampNeg)) (lt (u3 c91 21 i x2.toNatClampNeg ((c91 21 i x2.toNatClampNeg) + 1)) fun m95 => some (x3, m95))) else some (x3, c91)) else some ((-2 : Int32), mi)

theorem s_X8_take {gl : Nat} {gx : Nat → Int32} {d : Nat} {P : PL} {Q : PO} {mi : MI} {w : WS} {lv : LV} {i : Nat} {x2 : Int32} {x3 : Int32} {r : (Int32 × MI)} (hf : F_X8_take mi w i x2 x3 = some r) (h0 : Q (aI r.1) (r.2, RS w, lv)) : Wp gl gx (d + 2) P 119 0 [aR 7 i, aR 4 0, aI x2, aI x3, aU] [] (mi, RS w, lv) Q := r_X8_take_0 (⟨fun q1222 => k_ifn q1222 hf (fun q1224 => r_X8_take_15 (⟨fun q1225 => k_ifp q1225 q1224 (fun q1227 => o_rM q1227 h0), fun q1226 => k_ifn q1226 q1224 (fun q1227 => ⟨fun q1228 => k_ifp q1228 q1227 (fun q1230 => ⟨(fun q1231 => k_ifn (sw_o q1231 (by decide) (by decide)) q1230 (fun q1232 => k_ifn (sw_o q1231 (by decide) (by decide)) q1232 (fun q1233 => k_ifn (sw_o q1231 (by decide) (by decide)) q1233 (fun q1234 => k_ck q1234 (fun q1236 q1235 => ⟨q1236, o_bind q1235 (fun c91 qc91 pc91 => ⟨c91, qc91, r_X8_take_125 (⟨fun q1237 => k_ifn q1237 pc91 (fun q1239 => o_rM q1239 h0), fun q1238 => k_ifp q1238 pc91 (fun q1239 => k_ck q1239 (fun q1241 q1240 => ⟨q1241, k_ck q1240 (fun q1243 q1242 => ⟨q1243, fun m95 hm95 => k_lt q1242 hm95 (fun q1244 => o_rM q1244 h0)⟩)⟩))⟩)⟩)⟩))))), (fun q1245 => k_ifp q1245 q1230 (fun q1246 => k_ck q1246 (fun q1248 q1247 => ⟨q1248, o_bind q1247 (fun c92 qc92 pc92 => ⟨c92, qc92, r_X8_take_125 (⟨fun q1249 => k_ifn q1249 pc92 (fun q1251 => o_rM q1251 h0), fun q1250 => k_ifp q1250 pc92 (fun q1251 => k_ck q1251 (fun q1253 q1252 => ⟨q1253, k_ck q1252 (fun q1255 q1254 => ⟨q1255, fun m95 hm95 => k_lt q1254 hm95 (fun q1256 => o_rM q1256 h0)⟩)⟩))⟩)⟩)⟩))), (fun q1257 => k_ifn (sw_n q1257 (by decide)) q1230 (fun q1258 => k_ifp q1257 q1258 (fun q1259 => k_ck q1259 (fun q1261 q1260 => ⟨q1261, o_bind q1260 (fun c93 qc93 pc93 => ⟨c93, qc93, r_X8_take_125 (⟨fun q1262 => k_ifn q1262 pc93 (fun q1264 => o_rM q1264 h0), fun q1263 => k_ifp q1263 pc93 (fun q1264 => k_ck q1264 (fun q1266 q1265 => ⟨q1266, k_ck q1265 (fun q1268 q1267 => ⟨q1268, fun m95 hm95 => k_lt q1267 hm95 (fun q1269 => o_rM q1269 h0)⟩)⟩))⟩)⟩)⟩)))), (fun q1270 => k_ifn (sw_n q1270 (by decide)) q1230 (fun q1271 => k_ifn (sw_n q1270 (by decide)) q1271 (fun q1272 => k_ifp q1270 q1272 (fun q1273 => k_ck q1273 (fun q1275 q1274 => ⟨q1275, o_bind q1274 (fun c94 qc94 pc94 => ⟨c94, qc94, r_X8_take_125 (⟨fun q1276 => k_ifn q1276 pc94 (fun q1278 => o_rM q1278 h0), fun q1277 => k_ifp q1277 pc94 (fun q1278 => k_ck q1278 (fun q1280 q1279 => ⟨q1280, k_ck q1279 (fun q1282 q1281 => ⟨q1282, fun m95 hm95 => k_lt q1281 hm95 (fun q1283 => o_rM q1283 h0)⟩)⟩))⟩)⟩)⟩)))))⟩), fun q1229 => k_ifn q1229 q1227 (fun q1230 => o_rM q1230 h0)⟩)⟩)), fun q1223 => k_ifp q1223 hf (fun q1224 => k_ck q1224 (fun q1285 q1284 => ⟨q1285, r_X8_take_15 (⟨fun q1286 => k_ifp q1286 q1284 (fun q1288 => o_rM q1288 h0), fun q1287 => k_ifn q1287 q1284 (fun q1288 => ⟨fun q1289 => k_ifp q1289 q1288 (fun q1291 => ⟨(fun q1292 => k_ifn (sw_o q1292 (by decide) (by decide)) q1291 (fun q1293 => k_ifn (sw_o q1292 (by decide) (by decide)) q1293 (fun q1294 => k_ifn (sw_o q1292 (by decide) (by decide)) q1294 (fun q1295 => k_ck q1295 (fun q1297 q1296 => ⟨q1297, o_bind q1296 (fun c91 qc91 pc91 => ⟨c91, qc91, r_X8_take_125 (⟨fun q1298 => k_ifn q1298 pc91 (fun q1300 => o_rM q1300 h0), fun q1299 => k_ifp q1299 pc91 (fun q1300 => k_ck q1300 (fun q1302 q1301 => ⟨q1302, k_ck q1301 (fun q1304 q1303 => ⟨q1304, fun m95 hm95 => k_lt q1303 hm95 (fun q1305 => o_rM q1305 h0)⟩)⟩))⟩)⟩)⟩))))), (fun q1306 => k_ifp q1306 q1291 (fun q1307 => k_ck q1307 (fun q1309 q1308 => ⟨q1309, o_bind q1308 (fun c92 qc92 pc92 => ⟨c92, qc92, r_X8_take_125 (⟨fun q1310 => k_ifn q1310 pc92 (fun q1312 => o_rM q1312 h0), fun q1311 => k_ifp q1311 pc92 (fun q1312 => k_ck q1312 (fun q1314 q1313 => ⟨q1314, k_ck q1313 (fun q1316 q1315 => ⟨q1316, fun m95 hm95 => k_lt q1315 hm95 (fun q1317 => o_rM q1317 h0)⟩)⟩))⟩)⟩)⟩))), (fun q1318 => k_ifn (sw_n q1318 (by decide)) q1291 (fun q1319 => k_ifp q1318 q1319 (fun q1320 => k_ck q1320 (fun q1322 q1321 => ⟨q1322, o_bind q1321 (fun c93 qc93 pc93 => ⟨c93, qc93, r_X8_take_125 (⟨fun q1323 => k_ifn q1323 pc93 (fun q1325 => o_rM q1325 h0), fun q1324 => k_ifp q1324 pc93 (fun q1325 => k_ck q1325 (fun q1327 q1326 => ⟨q1327, k_ck q1326 (fun q1329 q1328 => ⟨q1329, fun m95 hm95 => k_lt q1328 hm95 (fun q1330 => o_rM q1330 h0)⟩)⟩))⟩)⟩)⟩)))), (fun q1331 => k_ifn (sw_n q1331 (by decide)) q1291 (fun q1332 => k_ifn (sw_n q1331 (by decide)) q1332 (fun q1333 => k_ifp q1331 q1333 (fun q1334 => k_ck q1334 (fun q1336 q1335 => ⟨q1336, o_bind q1335 (fun c94 qc94 pc94 => ⟨c94, qc94, r_X8_take_125 (⟨fun q1337 => k_ifn q1337 pc94 (fun q1339 => o_rM q1339 h0), fun q1338 => k_ifp q1338 pc94 (fun q1339 => k_ck q1339 (fun q1341 q1340 => ⟨q1341, k_ck q1340 (fun q1343 q1342 => ⟨q1343, fun m95 hm95 => k_lt q1342 hm95 (fun q1344 => o_rM q1344 h0)⟩)⟩))⟩)⟩)⟩)))))⟩), fun q1290 => k_ifn q1290 q1288 (fun q1291 => o_rM q1291 h0)⟩)⟩)⟩))⟩)

abbrev row_120 : MT := (⟨"StencilHouse$Told", "shopAt", "(I)LStencilHouse$Shop;"⟩, prog_10_method_7_code, 2, some (.object "StencilHouse$Shop"), 1, lk_8)
set_option maxRecDepth 20000 in
theorem mt_120 : mt 120 = some row_120 := rfl
theorem r_X8_shopAt_0 {gl : Nat} {gx : Nat → Int32} {d : Nat} {P : PL} {Q : PO} {mi : MI} {w : WS} {lv : LV} {i : Nat} {x1 : Int32} (h : (∃ c96 : Int32, F_X8_has mi w i 0 x1 = some c96 ∧ ((c96 = 0) → Q aN (mi, RS w, lv)) ∧ (¬ (c96 = 0) → (vp_in x1 2) ∧ (Q (aR 5 (2 * i + x1.toNatClampNeg)) (mi, RS w, lv))))) : Wp gl gx (d + 1) P 120 0 [aR 7 i, aI x1] [] (mi, RS w, lv) Q := 
  wpT row_120 mt_120 [.aload_n 0, .iconst 0, .iload_n 1, .invokevirtual 75] (by decide +kernel) [(6, [.ifCond .eq 12]), (18, [.aconst_null, .areturn]), (9, [.aload_n 0, .getfield 30, .iload_n 1, .aaload]), (15, [.goto 4]), (19, [.areturn])] (by decide +kernel) 46 (Exists.elim h (fun c96 zc96 => And.intro ⟨Nat.le_of_ble_eq_true rfl, rfl, rfl⟩ (s_X8_has (d := d) zc96.1 (And.intro (fun q1345 => (zc96.2.1 q1345)) (fun q1346 => And.intro (zc96.2.2 q1346).1 ((zc96.2.2 q1346).2))))))

def F_X8_shopAt (mi : MI) (w : WS) (i : Nat) (x1 : Int32) : Option (Option Nat) := (F_X8_has mi w i 0 x1).bind fun c96 => if c96 = 0 then some none else ck (¬ (x1 < 0 ∨ 2 ≤ x1.toNatClampNeg)) (some (some (2 * i + x1.toNatClampNeg)))

theorem s_X8_shopAt {gl : Nat} {gx : Nat → Int32} {d : Nat} {P : PL} {Q : PO} {mi : MI} {w : WS} {lv : LV} {i : Nat} {x1 : Int32} {r : (Option Nat)} (hf : F_X8_shopAt mi w i x1 = some r) (h0 : r = none → Q aN (mi, RS w, lv)) (h1 : ∀ j, r = some j → Q (aR 5 j) (mi, RS w, lv)) : Wp gl gx (d + 1) P 120 0 [aR 7 i, aI x1] [] (mi, RS w, lv) Q := r_X8_shopAt_0 (o_bind hf (fun c96 qc96 pc96 => ⟨c96, qc96, ⟨fun q1347 => k_ifp q1347 pc96 (fun q1349 => o_rN q1349 h0), fun q1348 => k_ifn q1348 pc96 (fun q1349 => k_ck q1349 (fun q1351 q1350 => ⟨q1351, o_rS q1350 h1⟩))⟩⟩))

abbrev row_121 : MT := (⟨"StencilHouse$Told", "dayAt", "(I)LStencilHouse$Day;"⟩, prog_10_method_8_code, 2, some (.object "StencilHouse$Day"), 1, lk_8)
set_option maxRecDepth 20000 in
theorem mt_121 : mt 121 = some row_121 := rfl
theorem r_X8_dayAt_0 {gl : Nat} {gx : Nat → Int32} {d : Nat} {P : PL} {Q : PO} {mi : MI} {w : WS} {lv : LV} {i : Nat} {x1 : Int32} (h : (∃ c97 : Int32, F_X8_has mi w i 1 x1 = some c97 ∧ ((c97 = 0) → Q aN (mi, RS w, lv)) ∧ (¬ (c97 = 0) → (vp_in x1 2) ∧ (Q (aR 0 (2 * i + x1.toNatClampNeg)) (mi, RS w, lv))))) : Wp gl gx (d + 1) P 121 0 [aR 7 i, aI x1] [] (mi, RS w, lv) Q := 
  wpT row_121 mt_121 [.aload_n 0, .iconst 1, .iload_n 1, .invokevirtual 75] (by decide +kernel) [(6, [.ifCond .eq 12]), (18, [.aconst_null, .areturn]), (9, [.aload_n 0, .getfield 36, .iload_n 1, .aaload]), (15, [.goto 4]), (19, [.areturn])] (by decide +kernel) 46 (Exists.elim h (fun c97 zc97 => And.intro ⟨Nat.le_of_ble_eq_true rfl, rfl, rfl⟩ (s_X8_has (d := d) zc97.1 (And.intro (fun q1352 => (zc97.2.1 q1352)) (fun q1353 => And.intro (zc97.2.2 q1353).1 ((zc97.2.2 q1353).2))))))

def F_X8_dayAt (mi : MI) (w : WS) (i : Nat) (x1 : Int32) : Option (Option Nat) := (F_X8_has mi w i 1 x1).bind fun c97 => if c97 = 0 then some none else ck (¬ (x1 < 0 ∨ 2 ≤ x1.toNatClampNeg)) (some (some (2 * i + x1.toNatClampNeg)))

theorem s_X8_dayAt {gl : Nat} {gx : Nat → Int32} {d : Nat} {P : PL} {Q : PO} {mi : MI} {w : WS} {lv : LV} {i : Nat} {x1 : Int32} {r : (Option Nat)} (hf : F_X8_dayAt mi w i x1 = some r) (h0 : r = none → Q aN (mi, RS w, lv)) (h1 : ∀ j, r = some j → Q (aR 0 j) (mi, RS w, lv)) : Wp gl gx (d + 1) P 121 0 [aR 7 i, aI x1] [] (mi, RS w, lv) Q := r_X8_dayAt_0 (o_bind hf (fun c97 qc97 pc97 => ⟨c97, qc97, ⟨fun q1354 => k_ifp q1354 pc97 (fun q1356 => o_rN q1356 h0), fun q1355 => k_ifn q1355 pc97 (fun q1356 => k_ck q1356 (fun q1358 q1357 => ⟨q1358, o_rS q1357 h1⟩))⟩⟩))

abbrev row_122 : MT := (⟨"StencilHouse$Told", "pictureAt", "(I)LStencilHouse$Picture;"⟩, prog_10_method_9_code, 2, some (.object "StencilHouse$Picture"), 1, lk_8)
set_option maxRecDepth 20000 in
theorem mt_122 : mt 122 = some row_122 := rfl
theorem r_X8_pictureAt_0 {gl : Nat} {gx : Nat → Int32} {d : Nat} {P : PL} {Q : PO} {mi : MI} {w : WS} {lv : LV} {i : Nat} {x1 : Int32} (h : (∃ c98 : Int32, F_X8_has mi w i 2 x1 = some c98 ∧ ((c98 = 0) → Q aN (mi, RS w, lv)) ∧ (¬ (c98 = 0) → (vp_in x1 2) ∧ (Q (aR 3 (2 * i + x1.toNatClampNeg)) (mi, RS w, lv))))) : Wp gl gx (d + 1) P 122 0 [aR 7 i, aI x1] [] (mi, RS w, lv) Q := 
  wpT row_122 mt_122 [.aload_n 0, .iconst 2, .iload_n 1, .invokevirtual 75] (by decide +kernel) [(6, [.ifCond .eq 12]), (18, [.aconst_null, .areturn]), (9, [.aload_n 0, .getfield 42, .iload_n 1, .aaload]), (15, [.goto 4]), (19, [.areturn])] (by decide +kernel) 46 (Exists.elim h (fun c98 zc98 => And.intro ⟨Nat.le_of_ble_eq_true rfl, rfl, rfl⟩ (s_X8_has (d := d) zc98.1 (And.intro (fun q1359 => (zc98.2.1 q1359)) (fun q1360 => And.intro (zc98.2.2 q1360).1 ((zc98.2.2 q1360).2))))))

def F_X8_pictureAt (mi : MI) (w : WS) (i : Nat) (x1 : Int32) : Option (Option Nat) := (F_X8_has mi w i 2 x1).bind fun c98 => if c98 = 0 then some none else ck (¬ (x1 < 0 ∨ 2 ≤ x1.toNatClampNeg)) (some (some (2 * i + x1.toNatClampNeg)))

theorem s_X8_pictureAt {gl : Nat} {gx : Nat → Int32} {d : Nat} {P : PL} {Q : PO} {mi : MI} {w : WS} {lv : LV} {i : Nat} {x1 : Int32} {r : (Option Nat)} (hf : F_X8_pictureAt mi w i x1 = some r) (h0 : r = none → Q aN (mi, RS w, lv)) (h1 : ∀ j, r = some j → Q (aR 3 j) (mi, RS w, lv)) : Wp gl gx (d + 1) P 122 0 [aR 7 i, aI x1] [] (mi, RS w, lv) Q := r_X8_pictureAt_0 (o_bind hf (fun c98 qc98 pc98 => ⟨c98, qc98, ⟨fun q1361 => k_ifp q1361 pc98 (fun q1363 => o_rN q1363 h0), fun q1362 => k_ifn q1362 pc98 (fun q1363 => k_ck q1363 (fun q1365 q1364 => ⟨q1365, o_rS q1364 h1⟩))⟩⟩))

abbrev row_123 : MT := (⟨"StencilHouse$Told", "marksAt", "(I)LStencilHouse$Marks;"⟩, prog_10_method_10_code, 2, some (.object "StencilHouse$Marks"), 1, lk_8)
set_option maxRecDepth 20000 in
theorem mt_123 : mt 123 = some row_123 := rfl
theorem r_X8_marksAt_0 {gl : Nat} {gx : Nat → Int32} {d : Nat} {P : PL} {Q : PO} {mi : MI} {w : WS} {lv : LV} {i : Nat} {x1 : Int32} (h : (∃ c99 : Int32, F_X8_has mi w i 3 x1 = some c99 ∧ ((c99 = 0) → Q aN (mi, RS w, lv)) ∧ (¬ (c99 = 0) → (vp_in x1 2) ∧ (Q (aR 1 (2 * i + x1.toNatClampNeg)) (mi, RS w, lv))))) : Wp gl gx (d + 1) P 123 0 [aR 7 i, aI x1] [] (mi, RS w, lv) Q := 
  wpT row_123 mt_123 [.aload_n 0, .iconst 3, .iload_n 1, .invokevirtual 75] (by decide +kernel) [(6, [.ifCond .eq 12]), (18, [.aconst_null, .areturn]), (9, [.aload_n 0, .getfield 48, .iload_n 1, .aaload]), (15, [.goto 4]), (19, [.areturn])] (by decide +kernel) 46 (Exists.elim h (fun c99 zc99 => And.intro ⟨Nat.le_of_ble_eq_true rfl, rfl, rfl⟩ (s_X8_has (d := d) zc99.1 (And.intro (fun q1366 => (zc99.2.1 q1366)) (fun q1367 => And.intro (zc99.2.2 q1367).1 ((zc99.2.2 q1367).2))))))

def F_X8_marksAt (mi : MI) (w : WS) (i : Nat) (x1 : Int32) : Option (Option Nat) := (F_X8_has mi w i 3 x1).bind fun c99 => if c99 = 0 then some none else ck (¬ (x1 < 0 ∨ 2 ≤ x1.toNatClampNeg)) (some (some (2 * i + x1.toNatClampNeg)))

theorem s_X8_marksAt {gl : Nat} {gx : Nat → Int32} {d : Nat} {P : PL} {Q : PO} {mi : MI} {w : WS} {lv : LV} {i : Nat} {x1 : Int32} {r : (Option Nat)} (hf : F_X8_marksAt mi w i x1 = some r) (h0 : r = none → Q aN (mi, RS w, lv)) (h1 : ∀ j, r = some j → Q (aR 1 j) (mi, RS w, lv)) : Wp gl gx (d + 1) P 123 0 [aR 7 i, aI x1] [] (mi, RS w, lv) Q := r_X8_marksAt_0 (o_bind hf (fun c99 qc99 pc99 => ⟨c99, qc99, ⟨fun q1368 => k_ifp q1368 pc99 (fun q1370 => o_rN q1370 h0), fun q1369 => k_ifn q1369 pc99 (fun q1370 => k_ck q1370 (fun q1372 q1371 => ⟨q1372, o_rS q1371 h1⟩))⟩⟩))

abbrev row_74 : MT := (⟨"StencilHouse$Reader", "wordOfSort", "(I)I"⟩, prog_7_method_5_code, 3, some .int, 1, lk_5)
set_option maxRecDepth 20000 in
theorem mt_74 : mt 74 = some row_74 := rfl
theorem r_X5_wordOfSort_17 {gl : Nat} {gx : Nat → Int32} {d : Nat} {P : PL} {Q : PO} {mi : MI} {w : WS} {lv : LV} {x1 : Int32} {x2 : Int32} (h : (vp_in (x1 + 1) (STA12).length) ∧ ((((STA12.getD ((x1 + 1).toNatClampNeg) 0) ≤ x2) → Q (aI (-1)) (mi, RS w, lv)) ∧ (¬ ((STA12.getD ((x1 + 1).toNatClampNeg) 0) ≤ x2) → (∃ c100 : Option Nat, F_X5_spelling mi w x2 = some c100 ∧ (c100 = none → False) ∧ (∀ jc100, c100 = some jc100 → (∃ c101 : Int32, F_X7_isWord mi w jc100 = some c101 ∧ ((c101 = 0) → Wp gl gx (d + 5) P 74 17 [aR 4 0, aI x1, aI (x2 + 1)] [] (mi, RS w, lv) Q) ∧ (¬ (c101 = 0) → Q (aI x2) (mi, RS w, lv)))))))) : Wp gl gx (d + 5) P 74 17 [aR 4 0, aI x1, aI x2] [] (mi, RS w, lv) Q := 
  wpT row_74 mt_74 [.iload_n 2, .getstatic 124, .iload_n 1, .iconst 1, .iadd, .iaload] (by decide +kernel) [(25, [.if_icmp .ge 25]), (50, [.iconst (.negSucc 0), .ireturn]), (28, [.aload_n 0, .getfield 49, .iload_n 2, .invokestatic 127]), (36, [.invokevirtual 131]), (39, [.ifCond .eq 5]), (44, [.iinc 2 1, .goto (.negSucc 29)]), (42, [.iload_n 2, .ireturn])] (by decide +kernel) 58 (And.intro h.1 (And.intro (fun q1373 => (h.2.1 q1373)) (fun q1374 => Exists.elim (h.2.2 q1374) (fun c100 zc100 => And.intro ⟨Nat.le_of_ble_eq_true rfl, rfl, rfl⟩ (s_X5_spelling (d := d + 4) zc100.1 (fun q1375 => (zc100.2.1 q1375).elim) (fun jc100 q1376 => And.intro rfl (Exists.elim (zc100.2.2 jc100 q1376) (fun c101 zc101 => And.intro ⟨Nat.le_of_ble_eq_true rfl, rfl, rfl⟩ (s_X7_isWord (d := d) zc101.1 (And.intro (fun q1377 => (zc101.2.1 q1377)) (fun q1378 => (zc101.2.2 q1378))))))))))))

theorem r_X5_wordOfSort_0 {gl : Nat} {gx : Nat → Int32} {d : Nat} {P : PL} {Q : PO} {mi : MI} {w : WS} {lv : LV} {x1 : Int32} (h : ((x1 < 0) → Q (aI (-1)) (mi, RS w, lv)) ∧ (¬ (x1 < 0) → ((x1 < 4) → (vp_in x1 (STA12).length) ∧ (Wp gl gx (d + 5) P 74 17 [aR 4 0, aI x1, aI (STA12.getD (x1.toNatClampNeg) 0)] [] (mi, RS w, lv) Q)) ∧ (¬ (x1 < 4) → Q (aI (-1)) (mi, RS w, lv)))) : Wp gl gx (d + 5) P 74 0 [aR 4 0, aI x1, aU] [] (mi, RS w, lv) Q := 
  wpT row_74 mt_74 [.iload_n 1, .ifCond .lt 8] (by decide +kernel) [(9, [.iconst (.negSucc 0), .ireturn]), (4, [.iload_n 1, .iconst 4, .if_icmp .lt 5]), (11, [.getstatic 124, .iload_n 1, .iaload]), (16, [.istore_n 2])] (by decide +kernel) 42 (And.intro (fun q1379 => (h.1 q1379)) (fun q1380 => And.intro (fun q1381 => And.intro ((h.2 q1380).1 q1381).1 (((h.2 q1380).1 q1381).2)) (fun q1382 => ((h.2 q1380).2 q1382))))

def L_X5_wordOfSort_17 (mi : MI) (w : WS) : Nat → Int32 → Int32 → Option Int32
  | 0, _, _ => none
  | n + 1, x1, x2 => ck (¬ ((x1 + 1) < 0 ∨ (STA12).length ≤ (x1 + 1).toNatClampNeg)) (if (STA12.getD ((x1 + 1).toNatClampNeg) 0) ≤ x2 then some (-1 : Int32) else (F_X5_spelling mi w x2).bind fun c100 => onO (c100) (none) fun jc100 => (F_X7_isWord mi w jc100).bind fun c101 => if c101 = 0 then L_X5_wordOfSort_17 mi w n x1 (x2 + 1) else some x2)

theorem l_X5_wordOfSort_17 {gl : Nat} {gx : Nat → Int32} {d : Nat} {P : PL} {Q : PO} {lv : LV} {mi : MI} {w : WS} (n : Nat) : ∀ {x1 : Int32} {x2 : Int32} {r : Int32}, L_X5_wordOfSort_17 mi w n x1 x2 = some r → (Q (aI r) (mi, RS w, lv)) → Wp gl gx (d + 5) P 74 17 [aR 4 0, aI x1, aI x2] [] (mi, RS w, lv) Q := by
  induction n with
  | zero => intro x1 x2 r hf h0; exact o_none hf
  | succ n ih => intro x1 x2 r hf h0; exact r_X5_wordOfSort_17 (k_ck hf (fun q1384 q1383 => ⟨q1384, ⟨fun q1385 => k_ifp q1385 q1383 (fun q1387 => o_rP q1387 h0), fun q1386 => k_ifn q1386 q1383 (fun q1387 => o_bind q1387 (fun c100 qc100 pc100 => ⟨c100, qc100, (fun q1388 => k_oN q1388 pc100 (fun q1390 => o_none q1390)), (fun jc100 q1389 => k_oS q1389 pc100 (fun q1390 => o_bind q1390 (fun c101 qc101 pc101 => ⟨c101, qc101, ⟨fun q1391 => k_ifp q1391 pc101 (fun q1393 => ih q1393 h0), fun q1392 => k_ifn q1392 pc101 (fun q1393 => o_rP q1393 h0)⟩⟩)))⟩))⟩⟩))

def F_X5_wordOfSort (mi : MI) (w : WS) (x1 : Int32) : Option Int32 := if x1 < 0 then some (-1 : Int32) else if x1 < 4 then ck (¬ (x1 < 0 ∨ (STA12).length ≤ x1.toNatClampNeg)) (L_X5_wordOfSort_17 mi w 1000000 x1 (STA12.getD (x1.toNatClampNeg) 0)) else some (-1 : Int32)

theorem s_X5_wordOfSort {gl : Nat} {gx : Nat → Int32} {d : Nat} {P : PL} {Q : PO} {mi : MI} {w : WS} {lv : LV} {x1 : Int32} {r : Int32} (hf : F_X5_wordOfSort mi w x1 = some r) (h0 : Q (aI r) (mi, RS w, lv)) : Wp gl gx (d + 5) P 74 0 [aR 4 0, aI x1, aU] [] (mi, RS w, lv) Q := r_X5_wordOfSort_0 (⟨fun q1394 => k_ifp q1394 hf (fun q1396 => o_rP q1396 h0), fun q1395 => k_ifn q1395 hf (fun q1396 => ⟨fun q1397 => k_ifp q1397 q1396 (fun q1399 => k_ck q1399 (fun q1401 q1400 => ⟨q1401, l_X5_wordOfSort_17 1000000 q1400 h0⟩)), fun q1398 => k_ifn q1398 q1396 (fun q1399 => o_rP q1399 h0)⟩)⟩)

abbrev row_77 : MT := (⟨"StencilHouse$Reader", "takeNumber", "(II)V"⟩, prog_7_method_8_code, 4, none, 1, lk_5)
set_option maxRecDepth 20000 in
theorem mt_77 : mt 77 = some row_77 := rfl
theorem r_X5_takeNumber_85 {gl : Nat} {gx : Nat → Int32} {d : Nat} {P : PL} {Q : PO} {mi : MI} {w : WS} {lv : LV} {x1 : Int32} {x2 : Int32} {x3 : Int32} (h : ((5 ≤ x2) → Q aU (mi, RS w, lv)) ∧ (¬ (5 ≤ x2) → (vp_in x2 5) ∧ ((∀ m104 : MI, m104 = u3 mi 35 0 x2.toNatClampNeg (mi 6 0 5) → Q aU (m104, RS w, lv))))) : Wp gl gx (d + 1) P 77 85 [aR 4 0, aI x1, aI x2, aI x3] [] (mi, RS w, lv) Q := 
  wpT row_77 mt_77 [.iload_n 2, .aload_n 0, .getfield 57, .arraylength, .if_icmp .ge 16] (by decide +kernel) [(107, [.return_]), (94, [.aload_n 0, .getfield 57, .iload_n 2, .aload_n 0, .getfield 49, .getfield 164, .iastore])] (by decide +kernel) 46 (And.intro (fun q1402 => (h.1 q1402)) (fun q1403 => And.intro (h.2 q1403).1 (((h.2 q1403).2 _ rfl))))

theorem r_X5_takeNumber_49 {gl : Nat} {gx : Nat → Int32} {d : Nat} {P : PL} {Q : PO} {mi : MI} {w : WS} {lv : LV} {x1 : Int32} {x2 : Int32} {x3 : Int32} (h : (∃ c103 : MI, F_X5_note mi w 2 (mi 6 0 4) = some c103 ∧ ((5 ≤ x2) → Q aU (c103, RS w, lv)) ∧ (¬ (5 ≤ x2) → (vp_in x2 5) ∧ ((∀ m104 : MI, m104 = u3 c103 35 0 x2.toNatClampNeg (c103 6 0 5) → Q aU (m104, RS w, lv)))))) : Wp gl gx (d + 1) P 77 49 [aR 4 0, aI x1, aI x2, aI x3] [] (mi, RS w, lv) Q := 
  wpT row_77 mt_77 [.aload_n 0, .iconst 2, .aload_n 0, .getfield 49, .getfield 80, .invokevirtual 108] (by decide +kernel) [(61, [.goto 24])] (by decide +kernel) 34 (Exists.elim h (fun c103 zc103 => And.intro ⟨Nat.le_of_ble_eq_true rfl, rfl, rfl⟩ (s_X5_note (d := d) zc103.1 (r_X5_takeNumber_85 (x1 := x1) (x2 := x2) (x3 := x3) (mi := c103) zc103.2))))

theorem r_X5_takeNumber_17 {gl : Nat} {gx : Nat → Int32} {d : Nat} {P : PL} {Q : PO} {mi : MI} {w : WS} {lv : LV} {x1 : Int32} {x2 : Int32} {v3 : AV} {s0 : Int32} {s1 : Int32} (h : (vp_in (s1 + s0) (STA14).length) ∧ ((((mi 6 0 5) < (STA14.getD ((s1 + s0).toNatClampNeg) 0)) → Wp gl gx (d + 1) P 77 49 [aR 4 0, aI x1, aI x2, aI (s1 + s0)] [] (mi, RS w, lv) Q) ∧ (¬ ((mi 6 0 5) < (STA14.getD ((s1 + s0).toNatClampNeg) 0)) → (vp_in (s1 + s0) (STA15).length) ∧ ((((mi 6 0 5) ≤ (STA15.getD ((s1 + s0).toNatClampNeg) 0)) → ((x2 < 5) → ((5 ≤ x2) → Q aU (mi, RS w, lv)) ∧ (¬ (5 ≤ x2) → (vp_in x2 5) ∧ ((∀ m104 : MI, m104 = u3 mi 35 0 x2.toNatClampNeg (mi 6 0 5) → Q aU (m104, RS w, lv))))) ∧ (¬ (x2 < 5) → (∃ c102 : MI, F_X5_note mi w 3 (mi 6 0 4) = some c102 ∧ ((5 ≤ x2) → Q aU (c102, RS w, lv)) ∧ (¬ (5 ≤ x2) → (vp_in x2 5) ∧ ((∀ m104 : MI, m104 = u3 c102 35 0 x2.toNatClampNeg (c102 6 0 5) → Q aU (m104, RS w, lv))))))) ∧ (¬ ((mi 6 0 5) ≤ (STA15.getD ((s1 + s0).toNatClampNeg) 0)) → Wp gl gx (d + 1) P 77 49 [aR 4 0, aI x1, aI x2, aI (s1 + s0)] [] (mi, RS w, lv) Q))))) : Wp gl gx (d + 1) P 77 17 [aR 4 0, aI x1, aI x2, v3] [aI s0, aI s1] (mi, RS w, lv) Q := 
  wpT row_77 mt_77 [.iadd, .istore_n 3, .aload_n 0, .getfield 49, .getfield 164, .getstatic 167, .iload_n 3, .iaload] (by decide +kernel) [(31, [.if_icmp .lt 18]), (34, [.aload_n 0, .getfield 49, .getfield 164, .getstatic 170, .iload_n 3, .iaload]), (46, [.if_icmp .le 18]), (64, [.iload_n 2, .aload_n 0, .getfield 57, .arraylength, .if_icmp .lt 15]), (73, [.aload_n 0, .iconst 3, .aload_n 0, .getfield 49, .getfield 80, .invokevirtual 108])] (by decide +kernel) 74 (And.intro h.1 (And.intro (fun q1404 => (h.2.1 q1404)) (fun q1405 => And.intro (h.2.2 q1405).1 (And.intro (fun q1406 => And.intro (fun q1408 => r_X5_takeNumber_85 (x1 := x1) (x2 := x2) (x3 := (s1 + s0)) (mi := mi) (((h.2.2 q1405).2.1 q1406).1 q1408)) (fun q1409 => Exists.elim (((h.2.2 q1405).2.1 q1406).2 q1409) (fun c102 zc102 => And.intro ⟨Nat.le_of_ble_eq_true rfl, rfl, rfl⟩ (s_X5_note (d := d) zc102.1 (r_X5_takeNumber_85 (x1 := x1) (x2 := x2) (x3 := (s1 + s0)) (mi := c102) zc102.2))))) (fun q1407 => ((h.2.2 q1405).2.2 q1407))))))

theorem r_X5_takeNumber_0 {gl : Nat} {gx : Nat → Int32} {d : Nat} {P : PL} {Q : PO} {mi : MI} {w : WS} {lv : LV} {x1 : Int32} {x2 : Int32} (h : (vp_in x1 (STA13).length) ∧ ((vp_in ((x1 * 3) + (if (STA13.getD (x1.toNatClampNeg) 0) = (-1) then 0 else x2)) (STA14).length) ∧ ((((mi 6 0 5) < (STA14.getD (((x1 * 3) + (if (STA13.getD (x1.toNatClampNeg) 0) = (-1) then 0 else x2)).toNatClampNeg) 0)) → Wp gl gx (d + 1) P 77 49 [aR 4 0, aI x1, aI x2, aI ((x1 * 3) + (if (STA13.getD (x1.toNatClampNeg) 0) = (-1) then 0 else x2))] [] (mi, RS w, lv) Q) ∧ (¬ ((mi 6 0 5) < (STA14.getD (((x1 * 3) + (if (STA13.getD (x1.toNatClampNeg) 0) = (-1) then 0 else x2)).toNatClampNeg) 0)) → (vp_in ((x1 * 3) + (if (STA13.getD (x1.toNatClampNeg) 0) = (-1) then 0 else x2)) (STA15).length) ∧ ((((mi 6 0 5) ≤ (STA15.getD (((x1 * 3) + (if (STA13.getD (x1.toNatClampNeg) 0) = (-1) then 0 else x2)).toNatClampNeg) 0)) → ((x2 < 5) → ((5 ≤ x2) → Q aU (mi, RS w, lv)) ∧ (¬ (5 ≤ x2) → (vp_in x2 5) ∧ ((∀ m104 : MI, m104 = u3 mi 35 0 x2.toNatClampNeg (mi 6 0 5) → Q aU (m104, RS w, lv))))) ∧ (¬ (x2 < 5) → (∃ c102 : MI, F_X5_note mi w 3 (mi 6 0 4) = some c102 ∧ ((5 ≤ x2) → Q aU (c102, RS w, lv)) ∧ (¬ (5 ≤ x2) → (vp_in x2 5) ∧ ((∀ m104 : MI, m104 = u3 c102 35 0 x2.toNatClampNeg (c102 6 0 5) → Q aU (m104, RS w, lv))))))) ∧ (¬ ((mi 6 0 5) ≤ (STA15.getD (((x1 * 3) + (if (STA13.getD (x1.toNatClampNeg) 0) = (-1) then 0 else x2)).toNatClampNeg) 0)) → Wp gl gx (d + 1) P 77 49 [aR 4 0, aI x1, aI x2, aI ((x1 * 3) + (if (STA13.getD (x1.toNatClampNeg) 0) = (-1) then 0 else x2))] [] (mi, RS w, lv) Q)))))) : Wp gl gx (d + 1) P 77 0 [aR 4 0, aI x1, aI x2, aU] [] (mi, RS w, lv) Q := 
  wpT row_77 mt_77 [.iload_n 1, .iconst 3, .imul, .getstatic 115, .iload_n 1, .iaload] (by decide +kernel) [(8, [.iconst (.negSucc 0), .if_icmp .ne 7]), (16, [.iload_n 2]), (12, [.iconst 0, .goto 4])] (by decide +kernel) 42 (And.intro h.1 (And.intro (fun q1410 => r_X5_takeNumber_17 (x1 := x1) (x2 := x2) (v3 := aU) (s0 := x2) (s1 := (x1 * 3)) (mi := mi) (mv9 (fun v => (vp_in ((x1 * 3) + v) (STA14).length) ∧ ((((mi 6 0 5) < (STA14.getD (((x1 * 3) + v).toNatClampNeg) 0)) → Wp gl gx (d + 1) P 77 49 [aR 4 0, aI x1, aI x2, aI ((x1 * 3) + v)] [] (mi, RS w, lv) Q) ∧ (¬ ((mi 6 0 5) < (STA14.getD (((x1 * 3) + v).toNatClampNeg) 0)) → (vp_in ((x1 * 3) + v) (STA15).length) ∧ ((((mi 6 0 5) ≤ (STA15.getD (((x1 * 3) + v).toNatClampNeg) 0)) → ((x2 < 5) → ((5 ≤ x2) → Q aU (mi, RS w, lv)) ∧ (¬ (5 ≤ x2) → (vp_in x2 5) ∧ ((∀ m104 : MI, m104 = u3 mi 35 0 x2.toNatClampNeg (mi 6 0 5) → Q aU (m104, RS w, lv))))) ∧ (¬ (x2 < 5) → (∃ c102 : MI, F_X5_note mi w 3 (mi 6 0 4) = some c102 ∧ ((5 ≤ x2) → Q aU (c102, RS w, lv)) ∧ (¬ (5 ≤ x2) → (vp_in x2 5) ∧ ((∀ m104 : MI, m104 = u3 c102 35 0 x2.toNatClampNeg (c102 6 0 5) → Q aU (m104, RS w, lv))))))) ∧ (¬ ((mi 6 0 5) ≤ (STA15.getD (((x1 * 3) + v).toNatClampNeg) 0)) → Wp gl gx (d + 1) P 77 49 [aR 4 0, aI x1, aI x2, aI ((x1 * 3) + v)] [] (mi, RS w, lv) Q))))) (show (if (STA13.getD (x1.toNatClampNeg) 0) = (-1) then 0 else x2) = x2 from if_neg (show ¬ ((STA13.getD (x1.toNatClampNeg) 0) = (-1)) from q1410)) h.2)) (fun q1411 => r_X5_takeNumber_17 (x1 := x1) (x2 := x2) (v3 := aU) (s0 := 0) (s1 := (x1 * 3)) (mi := mi) (mv9 (fun v => (vp_in ((x1 * 3) + v) (STA14).length) ∧ ((((mi 6 0 5) < (STA14.getD (((x1 * 3) + v).toNatClampNeg) 0)) → Wp gl gx (d + 1) P 77 49 [aR 4 0, aI x1, aI x2, aI ((x1 * 3) + v)] [] (mi, RS w, lv) Q) ∧ (¬ ((mi 6 0 5) < (STA14.getD (((x1 * 3) + v).toNatClampNeg) 0)) → (vp_in ((x1 * 3) + v) (STA15).length) ∧ ((((mi 6 0 5) ≤ (STA15.getD (((x1 * 3) + v).toNatClampNeg) 0)) → ((x2 < 5) → ((5 ≤ x2) → Q aU (mi, RS w, lv)) ∧ (¬ (5 ≤ x2) → (vp_in x2 5) ∧ ((∀ m104 : MI, m104 = u3 mi 35 0 x2.toNatClampNeg (mi 6 0 5) → Q aU (m104, RS w, lv))))) ∧ (¬ (x2 < 5) → (∃ c102 : MI, F_X5_note mi w 3 (mi 6 0 4) = some c102 ∧ ((5 ≤ x2) → Q aU (c102, RS w, lv)) ∧ (¬ (5 ≤ x2) → (vp_in x2 5) ∧ ((∀ m104 : MI, m104 = u3 c102 35 0 x2.toNatClampNeg (c102 6 0 5) → Q aU (m104, RS w, lv))))))) ∧ (¬ ((mi 6 0 5) ≤ (STA15.getD (((x1 * 3) + v).toNatClampNeg) 0)) → Wp gl gx (d + 1) P 77 49 [aR 4 0, aI x1, aI x2, aI ((x1 * 3) + v)] [] (mi, RS w, lv) Q))))) (show (if (STA13.getD (x1.toNatClampNeg) 0) = (-1) then 0 else x2) = 0 from if_pos (show (STA13.getD (x1.toNatClampNeg) 0) = (-1) from q1411)) h.2))))

def F_X5_takeNumber (mi : MI) (w : WS) (x1 : Int32) (x2 : Int32) : Option MI := ck (¬ (x1 < 0 ∨ (STA13).length ≤ x1.toNatClampNeg)) (ck (¬ (((x1 * 3) + (if (STA13.getD (x1.toNatClampNeg) 0) = (-1) then 0 else x2)) < 0 ∨ (STA14).length ≤ ((x1 * 3) + (if (STA13.getD (x1.toNatClampNeg) 0) = (-1) then 0 else x2)).toNatClampNeg)) (if (mi 6 0 5) < (STA14.getD (((x1 * 3) + (if (STA13.getD (x1.toNatClampNeg) 0) = (-1) then 0 else x2)).toNatClampNeg) 0) then (F_X5_note mi w 2 (mi 6 0 4)).bind fun c103 => if 5 ≤ x2 then some c103 else ck (¬ (x2 < 0 ∨ 5 ≤ x2.toNatClampNeg)) (lt (u3 c103 35 0 x2.toNatClampNeg (c103 6 0 5)) fun m104 => some m104) else ck (¬ (((x1 * 3) + (if (STA13.getD (x1.toNatClampNeg) 0) = (-1) then 0 else x2)) < 0 ∨ (STA15).length ≤ ((x1 * 3) + (if (STA13.getD (x1.toNatClampNeg) 0) = (-1) then 0 else x2)).toNatClampNeg)) (if (mi 6 0 5) ≤ (STA15.getD (((x1 * 3) + (if (STA13.getD (x1.toNatClampNeg) 0) = (-1) then 0 else x2)).toNatClampNeg) 0) then if x2 < 5 then if 5 ≤ x2 then some mi else ck (¬ (x2 < 0 ∨ 5 ≤ x2.toNatClampNeg)) (lt (u3 mi 35 0 x2.toNatClampNeg (mi 6 0 5)) fun m104 => some m104) else (F_X5_note mi w 3 (mi 6 0 4)).bind fun c102 => if 5 ≤ x2 then some c102 else ck (¬ (x2 < 0 ∨ 5 ≤ x2.toNatClampNeg)) (lt (u3 c102 35 0 x2.toNatClampNeg (c102 6 0 5)) fun m104 => some m104) else (F_X5_note mi w 2 (mi 6 0 4)).bind fun c103 => if 5 ≤ x2 then some c103 else ck (¬ (x2 < 0 ∨ 5 ≤ x2.toNatClampNeg)) (lt (u3 c103 35 0 x2.toNatClampNeg (c103 6 0 5)) fun m104 => some m104))))

theorem s_X5_takeNumber {gl : Nat} {gx : Nat → Int32} {d : Nat} {P : PL} {Q : PO} {mi : MI} {w : WS} {lv : LV} {x1 : Int32} {x2 : Int32} {r : MI} (hf : F_X5_takeNumber mi w x1 x2 = some r) (h0 : Q aU (r, RS w, lv)) : Wp gl gx (d + 1) P 77 0 [aR 4 0, aI x1, aI x2, aU] [] (mi, RS w, lv) Q := r_X5_takeNumber_0 (k_ck hf (fun q1413 q1412 => ⟨q1413, k_ck q1412 (fun q1415 q1414 => ⟨q1415, ⟨fun q1416 => k_ifp q1416 q1414 (fun q1418 => r_X5_takeNumber_49 (o_bind q1418 (fun c103 qc103 pc103 => ⟨c103, qc103, ⟨fun q1419 => k_ifp q1419 pc103 (fun q1421 => o_rMV q1421 h0), fun q1420 => k_ifn q1420 pc103 (fun q1421 => k_ck q1421 (fun q1423 q1422 => ⟨q1423, fun m104 hm104 => k_lt q1422 hm104 (fun q1424 => o_rMV q1424 h0)⟩))⟩⟩))), fun q1417 => k_ifn q1417 q1414 (fun q1418 => k_ck q1418 (fun q1426 q1425 => ⟨q1426, ⟨fun q1427 => k_ifp q1427 q1425 (fun q1429 => ⟨fun q1430 => k_ifp q1430 q1429 (fun q1432 => ⟨fun q1433 => k_ifp q1433 q1432 (fun q1435 => o_rMV q1435 h0), fun q1434 => k_ifn q1434 q1432 (fun q1435 => k_ck q1435 (fun q1437 q1436 => ⟨q1437, fun m104 hm104 => k_lt q1436 hm104 (fun q1438 => o_rMV q1438 h0)⟩))⟩), fun q1431 => k_ifn q1431 q1429 (fun q1432 => o_bind q1432 (fun c102 qc102 pc102 => ⟨c102, qc102, ⟨fun q1439 => k_ifp q1439 pc102 (fun q1441 => o_rMV q1441 h0), fun q1440 => k_ifn q1440 pc102 (fun q1441 => k_ck q1441 (fun q1443 q1442 => ⟨q1443, fun m104 hm104 => k_lt q1442 hm104 (fun q1444 => o_rMV q1444 h0)⟩))⟩⟩))⟩), fun q1428 => k_ifn q1428 q1425 (fun q1429 => r_X5_takeNumber_49 (o_bind q1429 (fun c103 qc103 pc103 => ⟨c103, qc103, ⟨fun q1445 => k_ifp q1445 pc103 (fun q1447 => o_rMV q1447 h0), fun q1446 => k_ifn q1446 pc103 (fun q1447 => k_ck q1447 (fun q1449 q1448 => ⟨q1449, fun m104 hm104 => k_lt q1448 hm104 (fun q1450 => o_rMV q1450 h0)⟩))⟩⟩)))⟩⟩))⟩⟩)⟩))

abbrev row_79 : MT := (⟨"StencilHouse$Reader", "store", "(II)V"⟩, prog_7_method_10_code, 3, none, 1, lk_5)
set_option maxRecDepth 20000 in
theorem mt_79 : mt 79 = some row_79 := rfl
theorem r_X5_store_0 {gl : Nat} {gx : Nat → Int32} {d : Nat} {P : PL} {Q : PO} {mi : MI} {w : WS} {lv : LV} {x1 : Int32} {x2 : Int32} (h : (x1 < 0 ∨ 12 < x1 → (∃ c105 : MI, F_X0_add mi w 8 (x1 - 4) (mi 35 0 0) (mi 35 0 1) (mi 35 0 2) = some c105 ∧ Q aU (c105, RS w, lv))) ∧ (x1 = 0 → (∀ m106 : MI, m106 = u3 (u3 mi 5 8 0 (mi 35 0 0)) 5 8 1 ((u3 mi 5 8 0 (mi 35 0 0)) 35 0 1) → Q aU (m106, RS w, lv))) ∧ (x1 = 1 → Q aU (u3 mi 5 8 2 (mi 35 0 0), RS w, lv)) ∧ (x1 = 2 → (∃ c107 : MI, F_X5_storeSheet mi w x2 = some c107 ∧ Q aU (c107, RS w, lv))) ∧ (x1 = 3 → (∃ c108 : MI, F_X5_storeWear mi w (mi 35 0 0) (mi 35 0 1) = some c108 ∧ Q aU (c108, RS w, lv))) ∧ (x1 = 4 → (∃ c109 : MI, F_X0_add mi w 8 (x1 - 4) (mi 35 0 0) (mi 35 0 1) (mi 35 0 2) = some c109 ∧ Q aU (c109, RS w, lv))) ∧ (x1 = 5 → (∃ c110 : MI, F_X0_add mi w 8 (x1 - 4) (mi 35 0 0) (mi 35 0 1) (mi 35 0 2) = some c110 ∧ Q aU (c110, RS w, lv))) ∧ (x1 = 6 → (∃ c111 : MI, F_X0_add mi w 8 (x1 - 4) (mi 35 0 0) (mi 35 0 1) (mi 35 0 2) = some c111 ∧ Q aU (c111, RS w, lv))) ∧ (x1 = 7 → (∃ c112 : MI, F_X0_add mi w 8 (x1 - 4) (mi 35 0 0) (mi 35 0 1) (mi 35 0 2) = some c112 ∧ Q aU (c112, RS w, lv))) ∧ (x1 = 8 → (∃ c113 : MI, F_X0_add mi w 8 (x1 - 4) (mi 35 0 0) (mi 35 0 1) (mi 35 0 2) = some c113 ∧ Q aU (c113, RS w, lv))) ∧ (x1 = 9 → (∃ c114 : MI, F_X0_add mi w 8 (x1 - 4) (mi 35 0 0) (mi 35 0 1) (mi 35 0 2) = some c114 ∧ Q aU (c114, RS w, lv))) ∧ (x1 = 10 → (∃ c115 : MI, F_X5_storeRow mi w x2 = some c115 ∧ Q aU (c115, RS w, lv))) ∧ (x1 = 11 → (∃ c116 : MI, F_X2_add mi w 8 (mi 35 0 0) (mi 35 0 1) (mi 35 0 2) = some c116 ∧ Q aU (c116, RS w, lv))) ∧ (x1 = 12 → (∃ c117 : MI, F_X2_add mi w 8 (mi 35 0 0) (mi 35 0 1) (mi 35 0 2) = some c117 ∧ Q aU (c117, RS w, lv)))) : Wp gl gx (d + 1) P 79 0 [aR 4 0, aI x1, aI x2] [] (mi, RS w, lv) Q := 
  wpT row_79 mt_79 [.iload_n 1, .tableswitch 175 0 12 #[67, 96, 112, 120, 175, 175, 175, 175, 175, 175, 139, 147, 147]] (by decide +kernel) [(176, [.aload_n 0, .getfield 21, .iload_n 1, .iconst 4, .isub, .aload_n 0, .getfield 57, .iconst 0, .iaload]), (189, [.aload_n 0, .getfield 57, .iconst 1, .iaload]), (195, [.aload_n 0, .getfield 57, .iconst 2, .iaload]), (201, [.invokevirtual 194]), (204, [.return_]), (68, [.aload_n 0, .getfield 12, .aload_n 0, .getfield 57, .iconst 0, .iaload]), (78, [.putfield 173, .aload_n 0, .getfield 12, .aload_n 0, .getfield 57, .iconst 1, .iaload]), (91, [.putfield 176]), (94, [.goto 110]), (97, [.aload_n 0, .getfield 12, .aload_n 0, .getfield 57, .iconst 0, .iaload]), (107, [.putfield 179, .goto 94]), (113, [.aload_n 0, .iload_n 2, .invokevirtual 181]), (118, [.goto 86]), (121, [.aload_n 0, .aload_n 0, .getfield 57, .iconst 0, .iaload]), (128, [.aload_n 0, .getfield 57, .iconst 1, .iaload]), (134, [.invokevirtual 184]), (137, [.goto 67]), (140, [.aload_n 0, .iload_n 2, .invokevirtual 187]), (145, [.goto 59]), (148, [.aload_n 0, .getfield 35, .aload_n 0, .getfield 57, .iconst 0, .iaload]), (158, [.aload_n 0, .getfield 57, .iconst 1, .iaload]), (164, [.aload_n 0, .getfield 57, .iconst 2, .iaload]), (170, [.invokevirtual 190]), (173, [.goto 31])] (by decide +kernel) 178 (And.intro (fun q1464 => And.intro (vpd (by decide)) (And.intro (vpd (by decide)) (And.intro (vpd (by decide)) (Exists.elim (h.1 q1464) (fun c105 zc105 => And.intro ⟨Nat.le_of_ble_eq_true rfl, rfl, rfl⟩ (s_X0_add (d := d) zc105.1 (zc105.2))))))) (And.intro (fun q1463 => And.intro (vpd (by decide)) (And.intro (vpd (by decide)) (((h.2.1 q1463) _ rfl)))) (And.intro (fun q1462 => And.intro (vpd (by decide)) ((h.2.2.1 q1462))) (And.intro (fun q1461 => Exists.elim (h.2.2.2.1 q1461) (fun c107 zc107 => And.intro ⟨Nat.le_of_ble_eq_true rfl, rfl, rfl⟩ (s_X5_storeSheet (d := d) zc107.1 (zc107.2)))) (And.intro (fun q1460 => And.intro (vpd (by decide)) (And.intro (vpd (by decide)) (Exists.elim (h.2.2.2.2.1 q1460) (fun c108 zc108 => And.intro ⟨Nat.le_of_ble_eq_true rfl, rfl, rfl⟩ (s_X5_storeWear (d := d) zc108.1 (zc108.2)))))) (And.intro (fun q1459 => And.intro (vpd (by decide)) (And.intro (vpd (by decide)) (And.intro (vpd (by decide)) (Exists.elim (h.2.2.2.2.2.1 q1459) (fun c109 zc109 => And.intro ⟨Nat.le_of_ble_eq_true rfl, rfl, rfl⟩ (s_X0_add (d := d) zc109.1 (zc109.2))))))) (And.intro (fun q1458 => And.intro (vpd (by decide)) (And.intro (vpd (by decide)) (And.intro (vpd (by decide)) (Exists.elim (h.2.2.2.2.2.2.1 q1458) (fun c110 zc110 => And.intro ⟨Nat.le_of_ble_eq_true rfl, rfl, rfl⟩ (s_X0_add (d := d) zc110.1 (zc110.2))))))) (And.intro (fun q1457 => And.intro (vpd (by decide)) (And.intro (vpd (by decide)) (And.intro (vpd (by decide)) (Exists.elim (h.2.2.2.2.2.2.2.1 q1457) (fun c111 zc111 => And.intro ⟨Nat.le_of_ble_eq_true rfl, rfl, rfl⟩ (s_X0_add (d := d) zc111.1 (zc111.2))))))) (And.intro (fun q1456 => And.intro (vpd (by decide)) (And.intro (vpd (by decide)) (And.intro (vpd (by decide)) (Exists.elim (h.2.2.2.2.2.2.2.2.1 q1456) (fun c112 zc112 => And.intro ⟨Nat.le_of_ble_eq_true rfl, rfl, rfl⟩ (s_X0_add (d := d) zc112.1 (zc112.2))))))) (And.intro (fun q1455 => And.intro (vpd (by decide)) (And.intro (vpd (by decide)) (And.intro (vpd (by decide)) (Exists.elim (h.2.2.2.2.2.2.2.2.2.1 q1455) (fun c113 zc113 => And.intro ⟨Nat.le_of_ble_eq_true rfl, rfl, rfl⟩ (s_X0_add (d := d) zc113.1 (zc113.2))))))) (And.intro (fun q1454 => And.intro (vpd (by decide)) (And.intro (vpd (by decide)) (And.intro (vpd (by decide)) (Exists.elim (h.2.2.2.2.2.2.2.2.2.2.1 q1454) (fun c114 zc114 => And.intro ⟨Nat.le_of_ble_eq_true rfl, rfl, rfl⟩ (s_X0_add (d := d) zc114.1 (zc114.2))))))) (And.intro (fun q1453 => Exists.elim (h.2.2.2.2.2.2.2.2.2.2.2.1 q1453) (fun c115 zc115 => And.intro ⟨Nat.le_of_ble_eq_true rfl, rfl, rfl⟩ (s_X5_storeRow (d := d) zc115.1 (zc115.2)))) (And.intro (fun q1452 => And.intro (vpd (by decide)) (And.intro (vpd (by decide)) (And.intro (vpd (by decide)) (Exists.elim (h.2.2.2.2.2.2.2.2.2.2.2.2.1 q1452) (fun c116 zc116 => And.intro ⟨Nat.le_of_ble_eq_true rfl, rfl, rfl⟩ (s_X2_add (d := d) zc116.1 (zc116.2))))))) (And.intro (fun q1451 => And.intro (vpd (by decide)) (And.intro (vpd (by decide)) (And.intro (vpd (by decide)) (Exists.elim (h.2.2.2.2.2.2.2.2.2.2.2.2.2 q1451) (fun c117 zc117 => And.intro ⟨Nat.le_of_ble_eq_true rfl, rfl, rfl⟩ (s_X2_add (d := d) zc117.1 (zc117.2))))))) (trivial)))))))))))))))

def F_X5_store (mi : MI) (w : WS) (x1 : Int32) (x2 : Int32) : Option MI := if x1 = 0 then lt (u3 (u3 mi 5 8 0 (mi 35 0 0)) 5 8 1 ((u3 mi 5 8 0 (mi 35 0 0)) 35 0 1)) fun m106 => some m106 else if x1 = 1 then some (u3 mi 5 8 2 (mi 35 0 0)) else if x1 = 2 then (F_X5_storeSheet mi w x2).bind fun c107 => some c107 else if x1 = 3 then (F_X5_storeWear mi w (mi 35 0 0) (mi 35 0 1)).bind fun c108 => some c108 else if x1 = 4 then (F_X0_add mi w 8 (x1 - 4) (mi 35 0 0) (mi 35 0 1) (mi 35 0 2)).bind fun c109 => some c109 else if x1 = 5 then (F_X0_add mi w 8 (x1 - 4) (mi 35 0 0) (mi 35 0 1) (mi 35 0 2)).bind fun c110 => some c110 else if x1 = 6 then (F_X0_add mi w 8 (x1 - 4) (mi 35 0 0) (mi 35 0 1) (mi 35 0 2)).bind fun c111 => some c111 else if x1 = 7 then (F_X0_add mi w 8 (x1 - 4) (mi 35 0 0) (mi 35 0 1) (mi 35 0 2)).bind fun c112 => some c112 else if x1 = 8 then (F_X0_add mi w 8 (x1 - 4) (mi 35 0 0) (mi 35 0 1) (mi 35 0 2)).bind fun c113 => some c113 else if x1 = 9 then (F_X0_add mi w 8 (x1 - 4) (mi 35 0 0) (mi 35 0 1) (mi 35 0 2)).bind fun c114 => some c114 else if x1 = 10 then (F_X5_storeRow mi w x2).bind fun c115 => some c115 else if x1 = 11 then (F_X2_add mi w 8 (mi 35 0 0) (mi 35 0 1) (mi 35 0 2)).bind fun c116 => some c116 else if x1 = 12 then (F_X2_add mi w 8 (mi 35 0 0) (mi 35 0 1) (mi 35 0 2)).bind fun c117 => some c117 else (F_X0_add mi w 8 (x1 - 4) (mi 35 0 0) (mi 35 0 1) (mi 35 0 2)).bind fun c105 => some c105

theorem s_X5_store {gl : Nat} {gx : Nat → Int32} {d : Nat} {P : PL} {Q : PO} {mi : MI} {w : WS} {lv : LV} {x1 : Int32} {x2 : Int32} {r : MI} (hf : F_X5_store mi w x1 x2 = some r) (h0 : Q aU (r, RS w, lv)) : Wp gl gx (d + 1) P 79 0 [aR 4 0, aI x1, aI x2] [] (mi, RS w, lv) Q := r_X5_store_0 (⟨(fun q1465 => k_ifn (sw_o q1465 (by decide) (by decide)) hf (fun q1466 => k_ifn (sw_o q1465 (by decide) (by decide)) q1466 (fun q1467 => k_ifn (sw_o q1465 (by decide) (by decide)) q1467 (fun q1468 => k_ifn (sw_o q1465 (by decide) (by decide)) q1468 (fun q1469 => k_ifn (sw_o q1465 (by decide) (by decide)) q1469 (fun q1470 => k_ifn (sw_o q1465 (by decide) (by decide)) q1470 (fun q1471 => k_ifn (sw_o q1465 (by decide) (by decide)) q1471 (fun q1472 => k_ifn (sw_o q1465 (by decide) (by decide)) q1472 (fun q1473 => k_ifn (sw_o q1465 (by decide) (by decide)) q1473 (fun q1474 => k_ifn (sw_o q1465 (by decide) (by decide)) q1474 (fun q1475 => k_ifn (sw_o q1465 (by decide) (by decide)) q1475 (fun q1476 => k_ifn (sw_o q1465 (by decide) (by decide)) q1476 (fun q1477 => k_ifn (sw_o q1465 (by decide) (by decide)) q1477 (fun q1478 => o_bind q1478 (fun c105 qc105 pc105 => ⟨c105, qc105, o_rMV pc105 h0⟩))))))))))))))), (fun q1479 => k_ifp q1479 hf (fun q1480 => fun m106 hm106 => k_lt q1480 hm106 (fun q1481 => o_rMV q1481 h0))), (fun q1482 => k_ifn (sw_n q1482 (by decide)) hf (fun q1483 => k_ifp q1482 q1483 (fun q1484 => o_rMV q1484 h0))), (fun q1485 => k_ifn (sw_n q1485 (by decide)) hf (fun q1486 => k_ifn (sw_n q1485 (by decide)) q1486 (fun q1487 => k_ifp q1485 q1487 (fun q1488 => o_bind q1488 (fun c107 qc107 pc107 => ⟨c107, qc107, o_rMV pc107 h0⟩))))), (fun q1489 => k_ifn (sw_n q1489 (by decide)) hf (fun q1490 => k_ifn (sw_n q1489 (by decide)) q1490 (fun q1491 => k_ifn (sw_n q1489 (by decide)) q1491 (fun q1492 => k_ifp q1489 q1492 (fun q1493 => o_bind q1493 (fun c108 qc108 pc108 => ⟨c108, qc108, o_rMV pc108 h0⟩)))))), (fun q1494 => k_ifn (sw_n q1494 (by decide)) hf (fun q1495 => k_ifn (sw_n q1494 (by decide)) q1495 (fun q1496 => k_ifn (sw_n q1494 (by decide)) q1496 (fun q1497 => k_ifn (sw_n q1494 (by decide)) q1497 (fun q1498 => k_ifp q1494 q1498 (fun q1499 => o_bind q1499 (fun c109 qc109 pc109 => ⟨c109, qc109, o_rMV pc109 h0⟩))))))), (fun q1500 => k_ifn (sw_n q1500 (by decide)) hf (fun q1501 => k_ifn (sw_n q1500 (by decide)) q1501 (fun q1502 => k_ifn (sw_n q1500 (by decide)) q1502 (fun q1503 => k_ifn (sw_n q1500 (by decide)) q1503 (fun q1504 => k_ifn (sw_n q1500 (by decide)) q1504 (fun q1505 => k_ifp q1500 q1505 (fun q1506 => o_bind q1506 (fun c110 qc110 pc110 => ⟨c110, qc110, o_rMV pc110 h0⟩)))))))), (fun q1507 => k_ifn (sw_n q1507 (by decide)) hf (fun q1508 => k_ifn (sw_n q1507 (by decide)) q1508 (fun q1509 => k_ifn (sw_n q1507 (by decide)) q1509 (fun q1510 => k_ifn (sw_n q1507 (by decide)) q1510 (fun q1511 => k_ifn (sw_n q1507 (by decide)) q1511 (fun q1512 => k_ifn (sw_n q1507 (by decide)) q1512 (fun q1513 => k_ifp q1507 q1513 (fun q1514 => o_bind q1514 (fun c111 qc111 pc111 => ⟨c111, qc111, o_rMV pc111 h0⟩))))))))), (fun q1515 => k_ifn (sw_n q1515 (by decide)) hf (fun q1516 => k_ifn (sw_n q1515 (by decide)) q1516 (fun q1517 => k_ifn (sw_n q1515 (by decide)) q1517 (fun q1518 => k_ifn (sw_n q1515 (by decide)) q1518 (fun q1519 => k_ifn (sw_n q1515 (by decide)) q1519 (fun q1520 => k_ifn (sw_n q1515 (by decide)) q1520 (fun q1521 => k_ifn (sw_n q1515 (by decide)) q1521 (fun q1522 => k_ifp q1515 q1522 (fun q1523 => o_bind q1523 (fun c112 qc112 pc112 => ⟨c112, qc112, o_rMV pc112 h0⟩)))))))))), (fun q1524 => k_ifn (sw_n q1524 (by decide)) hf (fun q1525 => k_ifn (sw_n q1524 (by decide)) q1525 (fun q1526 => k_ifn (sw_n q1524 (by decide)) q1526 (fun q1527 => k_ifn (sw_n q1524 (by decide)) q1527 (fun q1528 => k_ifn (sw_n q1524 (by decide)) q1528 (fun q1529 => k_ifn (sw_n q1524 (by decide)) q1529 (fun q1530 => k_ifn (sw_n q1524 (by decide)) q1530 (fun q1531 => k_ifn (sw_n q1524 (by decide)) q1531 (fun q1532 => k_ifp q1524 q1532 (fun q1533 => o_bind q1533 (fun c113 qc113 pc113 => ⟨c113, qc113, o_rMV pc113 h0⟩))))))))))), (fun q1534 => k_ifn (sw_n q1534 (by decide)) hf (fun q1535 => k_ifn (sw_n q1534 (by decide)) q1535 (fun q1536 => k_ifn (sw_n q1534 (by decide)) q1536 (fun q1537 => k_ifn (sw_n q1534 (by decide)) q1537 (fun q1538 => k_ifn (sw_n q1534 (by decide)) q1538 (fun q1539 => k_ifn (sw_n q1534 (by decide)) q1539 (fun q1540 => k_ifn (sw_n q1534 (by decide)) q1540 (fun q1541 => k_ifn (sw_n q1534 (by decide)) q1541 (fun q1542 => k_ifn (sw_n q1534 (by decide)) q1542 (fun q1543 => k_ifp q1534 q1543 (fun q1544 => o_bind q1544 (fun c114 qc114 pc114 => ⟨c114, qc114, o_rMV pc114 h0⟩)))))))))))), (fun q1545 => k_ifn (sw_n q1545 (by decide)) hf (fun q1546 => k_ifn (sw_n q1545 (by decide)) q1546 (fun q1547 => k_ifn (sw_n q1545 (by decide)) q1547 (fun q1548 => k_ifn (sw_n q1545 (by decide)) q1548 (fun q1549 => k_ifn (sw_n q1545 (by decide)) q1549 (fun q1550 => k_ifn (sw_n q1545 (by decide)) q1550 (fun q1551 => k_ifn (sw_n q1545 (by decide)) q1551 (fun q1552 => k_ifn (sw_n q1545 (by decide)) q1552 (fun q1553 => k_ifn (sw_n q1545 (by decide)) q1553 (fun q1554 => k_ifn (sw_n q1545 (by decide)) q1554 (fun q1555 => k_ifp q1545 q1555 (fun q1556 => o_bind q1556 (fun c115 qc115 pc115 => ⟨c115, qc115, o_rMV pc115 h0⟩))))))))))))), (fun q1557 => k_ifn (sw_n q1557 (by decide)) hf (fun q1558 => k_ifn (sw_n q1557 (by decide)) q1558 (fun q1559 => k_ifn (sw_n q1557 (by decide)) q1559 (fun q1560 => k_ifn (sw_n q1557 (by decide)) q1560 (fun q1561 => k_ifn (sw_n q1557 (by decide)) q1561 (fun q1562 => k_ifn (sw_n q1557 (by decide)) q1562 (fun q1563 => k_ifn (sw_n q1557 (by decide)) q1563 (fun q1564 => k_ifn (sw_n q1557 (by decide)) q1564 (fun q1565 => k_ifn (sw_n q1557 (by decide)) q1565 (fun q1566 => k_ifn (sw_n q1557 (by decide)) q1566 (fun q1567 => k_ifn (sw_n q1557 (by decide)) q1567 (fun q1568 => k_ifp q1557 q1568 (fun q1569 => o_bind q1569 (fun c116 qc116 pc116 => ⟨c116, qc116, o_rMV pc116 h0⟩)))))))))))))), (fun q1570 => k_ifn (sw_n q1570 (by decide)) hf (fun q1571 => k_ifn (sw_n q1570 (by decide)) q1571 (fun q1572 => k_ifn (sw_n q1570 (by decide)) q1572 (fun q1573 => k_ifn (sw_n q1570 (by decide)) q1573 (fun q1574 => k_ifn (sw_n q1570 (by decide)) q1574 (fun q1575 => k_ifn (sw_n q1570 (by decide)) q1575 (fun q1576 => k_ifn (sw_n q1570 (by decide)) q1576 (fun q1577 => k_ifn (sw_n q1570 (by decide)) q1577 (fun q1578 => k_ifn (sw_n q1570 (by decide)) q1578 (fun q1579 => k_ifn (sw_n q1570 (by decide)) q1579 (fun q1580 => k_ifn (sw_n q1570 (by decide)) q1580 (fun q1581 => k_ifn (sw_n q1570 (by decide)) q1581 (fun q1582 => k_ifp q1570 q1582 (fun q1583 => o_bind q1583 (fun c117 qc117 pc117 => ⟨c117, qc117, o_rMV pc117 h0⟩)))))))))))))))⟩)

abbrev row_83 : MT := (⟨"StencilHouse$Reader", "checkShop", "(I)V"⟩, prog_7_method_14_code, 4, none, 1, lk_5)
set_option maxRecDepth 20000 in
theorem mt_83 : mt 83 = some row_83 := rfl
theorem r_X5_checkShop_36 {gl : Nat} {gx : Nat → Int32} {d : Nat} {P : PL} {Q : PO} {mi : MI} {w : WS} {lv : LV} {x1 : Int32} {x2 : Int32} {x3 : Int32} (h : ((5 ≤ x3) → Wp gl gx (d + 2) P 83 23 [aR 4 0, aI x1, aI (x2 + 1), aI x3] [] (mi, RS w, lv) Q) ∧ (¬ (5 ≤ x3) → (∃ c119 : MI, F_X5_cutRow mi w x2 x3 x1 = some c119 ∧ Wp gl gx (d + 2) P 83 36 [aR 4 0, aI x1, aI x2, aI (x3 + 1)] [] (c119, RS w, lv) Q))) : Wp gl gx (d + 2) P 83 36 [aR 4 0, aI x1, aI x2, aI x3] [] (mi, RS w, lv) Q := 
  wpT row_83 mt_83 [.iload_n 3, .iconst 5, .if_icmp .ge 16] (by decide +kernel) [(54, [.iinc 2 1, .goto (.negSucc 33)]), (41, [.aload_n 0, .iload_n 2, .iload_n 3, .iload_n 1, .invokevirtual 202]), (48, [.iinc 3 1, .goto (.negSucc 14)])] (by decide +kernel) 44 (And.intro (fun q1584 => (h.1 q1584)) (fun q1585 => Exists.elim (h.2 q1585) (fun c119 zc119 => And.intro ⟨Nat.le_of_ble_eq_true rfl, rfl, rfl⟩ (s_X5_cutRow (d := d) zc119.1 (zc119.2)))))

theorem r_X5_checkShop_23 {gl : Nat} {gx : Nat → Int32} {d : Nat} {P : PL} {Q : PO} {mi : MI} {w : WS} {lv : LV} {x1 : Int32} {x2 : Int32} {v3 : AV} (h : (((mi 5 8 3) ≤ x2) → Q aU (mi, RS w, lv)) ∧ (¬ ((mi 5 8 3) ≤ x2) → Wp gl gx (d + 2) P 83 36 [aR 4 0, aI x1, aI x2, aI 0] [] (mi, RS w, lv) Q)) : Wp gl gx (d + 2) P 83 23 [aR 4 0, aI x1, aI x2, v3] [] (mi, RS w, lv) Q := 
  wpT row_83 mt_83 [.iload_n 2, .aload_n 0, .getfield 12, .getfield 161, .if_icmp .ge 29] (by decide +kernel) [(60, [.return_]), (34, [.iconst 0, .istore_n 3])] (by decide +kernel) 36 (And.intro (fun q1586 => (h.1 q1586)) (fun q1587 => (h.2 q1587)))

theorem r_X5_checkShop_21 {gl : Nat} {gx : Nat → Int32} {d : Nat} {P : PL} {Q : PO} {mi : MI} {w : WS} {lv : LV} {x1 : Int32} {v2 : AV} {v3 : AV} (h : Wp gl gx (d + 2) P 83 23 [aR 4 0, aI x1, aI 0, v3] [] (mi, RS w, lv) Q) : Wp gl gx (d + 2) P 83 21 [aR 4 0, aI x1, v2, v3] [] (mi, RS w, lv) Q := 
  wpT row_83 mt_83 [.iconst 0, .istore_n 2] (by decide +kernel) [] (by decide +kernel) 24 (h)

theorem r_X5_checkShop_0 {gl : Nat} {gx : Nat → Int32} {d : Nat} {P : PL} {Q : PO} {mi : MI} {w : WS} {lv : LV} {x1 : Int32} (h : ((((mi 4 0 9) >>> ((mi 5 8 3) &&& 31)) = 0) → Wp gl gx (d + 2) P 83 23 [aR 4 0, aI x1, aI 0, aU] [] (mi, RS w, lv) Q) ∧ (¬ (((mi 4 0 9) >>> ((mi 5 8 3) &&& 31)) = 0) → (∃ c118 : MI, F_X5_note mi w 4 x1 = some c118 ∧ Wp gl gx (d + 2) P 83 23 [aR 4 0, aI x1, aI 0, aU] [] (c118, RS w, lv) Q))) : Wp gl gx (d + 2) P 83 0 [aR 4 0, aI x1, aU, aU] [] (mi, RS w, lv) Q := 
  wpT row_83 mt_83 [.aload_n 0, .getfield 60, .aload_n 0, .getfield 12, .getfield 161, .ishr, .ifCond .eq 9] (by decide +kernel) [(15, [.aload_n 0, .iconst 4, .iload_n 1, .invokevirtual 108])] (by decide +kernel) 42 (And.intro (fun q1588 => r_X5_checkShop_21 (x1 := x1) (v2 := aU) (v3 := aU) (mi := mi) (h.1 q1588)) (fun q1589 => Exists.elim (h.2 q1589) (fun c118 zc118 => And.intro ⟨Nat.le_of_ble_eq_true rfl, rfl, rfl⟩ (s_X5_note (d := d + 1) zc118.1 (r_X5_checkShop_21 (x1 := x1) (v2 := aU) (v3 := aU) (mi := c118) zc118.2)))))

def L_X5_checkShop_36 (w : WS) (k23 : MI → Int32 → Int32 → Option MI) : Nat → MI → Int32 → Int32 → Int32 → Option MI
  | 0, _, _, _, _ => none
  | n + 1, mi, x1, x2, x3 => if 5 ≤ x3 then k23 mi x1 (x2 + 1) else (F_X5_cutRow mi w x2 x3 x1).bind fun c119 => L_X5_checkShop_36 w k23 n c119 x1 x2 (x3 + 1)

theorem l_X5_checkShop_36 {gl : Nat} {gx : Nat → Int32} {d : Nat} {P : PL} {Q : PO} {lv : LV} {w : WS} {k23 : MI → Int32 → Int32 → Option MI} (hk23 : ∀ {mi : MI} {x1 : Int32} {x2 : Int32} {v3 : AV} {r : MI}, k23 mi x1 x2 = some r → (Q aU (r, RS w, lv)) → Wp gl gx (d + 2) P 83 23 [aR 4 0, aI x1, aI x2, v3] [] (mi, RS w, lv) Q) (n : Nat) : ∀ {mi : MI} {x1 : Int32} {x2 : Int32} {x3 : Int32} {r : MI}, L_X5_checkShop_36 w k23 n mi x1 x2 x3 = some r → (Q aU (r, RS w, lv)) → Wp gl gx (d + 2) P 83 36 [aR 4 0, aI x1, aI x2, aI x3] [] (mi, RS w, lv) Q := by
  induction n with
  | zero => intro mi x1 x2 x3 r hf h0; exact o_none hf
  | succ n ih => intro mi x1 x2 x3 r hf h0; exact r_X5_checkShop_36 (⟨fun q1590 => k_ifp q1590 hf (fun q1592 => hk23 q1592 h0), fun q1591 => k_ifn q1591 hf (fun q1592 => o_bind q1592 (fun c119 qc119 pc119 => ⟨c119, qc119, ih pc119 h0⟩))⟩)

def L_X5_checkShop_23 (w : WS) : Nat → MI → Int32 → Int32 → Option MI
  | 0, _, _, _ => none
  | n + 1, mi, x1, x2 => if (mi 5 8 3) ≤ x2 then some mi else L_X5_checkShop_36 w (fun mi x1 x2 => L_X5_checkShop_23 w n mi x1 x2) 1000000 mi x1 x2 0

theorem l_X5_checkShop_23 {gl : Nat} {gx : Nat → Int32} {d : Nat} {P : PL} {Q : PO} {lv : LV} {w : WS} (n : Nat) : ∀ {mi : MI} {x1 : Int32} {x2 : Int32} {v3 : AV} {r : MI}, L_X5_checkShop_23 w n mi x1 x2 = some r → (Q aU (r, RS w, lv)) → Wp gl gx (d + 2) P 83 23 [aR 4 0, aI x1, aI x2, v3] [] (mi, RS w, lv) Q := by
  induction n with
  | zero => intro mi x1 x2 v3 r hf h0; exact o_none hf
  | succ n ih => intro mi x1 x2 v3 r hf h0; exact r_X5_checkShop_23 (⟨fun q1593 => k_ifp q1593 hf (fun q1595 => o_rMV q1595 h0), fun q1594 => k_ifn q1594 hf (fun q1595 => l_X5_checkShop_36 (fun hf h0 => ih hf h0) 1000000 q1595 h0)⟩)

def F_X5_checkShop (mi : MI) (w : WS) (x1 : Int32) : Option MI := if ((mi 4 0 9) >>> ((mi 5 8 3) &&& 31)) = 0 then L_X5_checkShop_23 w 1000000 mi x1 0 else (F_X5_note mi w 4 x1).bind fun c118 => L_X5_checkShop_23 w 1000000 c118 x1 0

theorem s_X5_checkShop {gl : Nat} {gx : Nat → Int32} {d : Nat} {P : PL} {Q : PO} {mi : MI} {w : WS} {lv : LV} {x1 : Int32} {r : MI} (hf : F_X5_checkShop mi w x1 = some r) (h0 : Q aU (r, RS w, lv)) : Wp gl gx (d + 2) P 83 0 [aR 4 0, aI x1, aU, aU] [] (mi, RS w, lv) Q := r_X5_checkShop_0 (⟨fun q1596 => k_ifp q1596 hf (fun q1598 => l_X5_checkShop_23 1000000 q1598 h0), fun q1597 => k_ifn q1597 hf (fun q1598 => o_bind q1598 (fun c118 qc118 pc118 => ⟨c118, qc118, l_X5_checkShop_23 1000000 pc118 h0⟩))⟩)

abbrev row_73 : MT := (⟨"StencilHouse$Reader", "readLine", "(I)Z"⟩, prog_7_method_4_code, 6, some .boolean, 1, lk_5)
set_option maxRecDepth 20000 in
theorem mt_73 : mt 73 = some row_73 := rfl
theorem r_X5_readLine_163 {gl : Nat} {gx : Nat → Int32} {d : Nat} {P : PL} {Q : PO} {mi : MI} {w : WS} {lv : LV} {x1 : Int32} {x2 : Int32} {x3 : Int32} {x4 : Int32} {x5 : Int32} (h : (∃ c128 : MI, F_X7_next mi w  = some c128 ∧ Q (aI 1) (c128, RS w, lv))) : Wp gl gx (d + 6) P 73 163 [aR 4 0, aI x1, aI x2, aI x3, aI x4, aI x5] [] (mi, RS w, lv) Q := 
  wpT row_73 mt_73 [.aload_n 0, .getfield 49, .invokevirtual 112] (by decide +kernel) [(170, [.iconst 1, .ireturn])] (by decide +kernel) 30 (Exists.elim h (fun c128 zc128 => And.intro ⟨Nat.le_of_ble_eq_true rfl, rfl, rfl⟩ (s_X7_next (d := d + 3) zc128.1 (And.intro rfl zc128.2))))

theorem r_X5_readLine_149 {gl : Nat} {gx : Nat → Int32} {d : Nat} {P : PL} {Q : PO} {mi : MI} {w : WS} {lv : LV} {x1 : Int32} {x2 : Int32} {x3 : Int32} {x4 : Int32} {x5 : Int32} (h : (¬ ((mi 4 0 4) = 0) → (∃ c128 : MI, F_X7_next mi w  = some c128 ∧ Q (aI 1) (c128, RS w, lv))) ∧ (((mi 4 0 4) = 0) → (∃ c127 : MI, F_X5_store mi w x2 x5 = some c127 ∧ (∃ c128 : MI, F_X7_next c127 w  = some c128 ∧ Q (aI 1) (c128, RS w, lv))))) : Wp gl gx (d + 6) P 73 149 [aR 4 0, aI x1, aI x2, aI x3, aI x4, aI x5] [] (mi, RS w, lv) Q := 
  wpT row_73 mt_73 [.aload_n 0, .getfield 39, .ifCond .ne 10] (by decide +kernel) [(156, [.aload_n 0, .iload_n 2, .iload 5, .invokevirtual 121])] (by decide +kernel) 34 (And.intro (fun q1599 => r_X5_readLine_163 (x1 := x1) (x2 := x2) (x3 := x3) (x4 := x4) (x5 := x5) (mi := mi) (h.1 q1599)) (fun q1600 => Exists.elim (h.2 q1600) (fun c127 zc127 => And.intro ⟨Nat.le_of_ble_eq_true rfl, rfl, rfl⟩ (s_X5_store (d := d + 4) zc127.1 (r_X5_readLine_163 (x1 := x1) (x2 := x2) (x3 := x3) (x4 := x4) (x5 := x5) (mi := c127) zc127.2)))))

theorem r_X5_readLine_125 {gl : Nat} {gx : Nat → Int32} {d : Nat} {P : PL} {Q : PO} {mi : MI} {w : WS} {lv : LV} {x1 : Int32} {x2 : Int32} {x3 : Int32} {x4 : Int32} {x5 : Int32} (h : (¬ ((mi 6 0 3) = 2) → Q (aI 0) (mi, RS w, lv)) ∧ (((mi 6 0 3) = 2) → ((x3 = (-1)) → Wp gl gx (d + 6) P 73 149 [aR 4 0, aI x1, aI x2, aI x3, aI x4, aI x5] [] (mi, RS w, lv) Q) ∧ (¬ (x3 = (-1)) → ((x3 ≤ x5) → Wp gl gx (d + 6) P 73 149 [aR 4 0, aI x1, aI x2, aI x3, aI x4, aI x5] [] (mi, RS w, lv) Q) ∧ (¬ (x3 ≤ x5) → Q (aI 0) (mi, RS w, lv))))) : Wp gl gx (d + 6) P 73 125 [aR 4 0, aI x1, aI x2, aI x3, aI x4, aI x5] [] (mi, RS w, lv) Q := 
  wpT row_73 mt_73 [.aload_n 0, .getfield 49, .getfield 73, .iconst 2, .if_icmp .ne 14] (by decide +kernel) [(147, [.iconst 0, .ireturn]), (136, [.iload_n 3, .iconst (.negSucc 0), .if_icmp .eq 11]), (141, [.iload 5, .iload_n 3, .if_icmp .ge 5])] (by decide +kernel) 46 (And.intro (fun q1601 => And.intro rfl (h.1 q1601)) (fun q1602 => And.intro (fun q1603 => ((h.2 q1602).1 q1603)) (fun q1604 => And.intro (fun q1605 => (((h.2 q1602).2 q1604).1 q1605)) (fun q1606 => And.intro rfl (((h.2 q1602).2 q1604).2 q1606)))))

theorem r_X5_readLine_87 {gl : Nat} {gx : Nat → Int32} {d : Nat} {P : PL} {Q : PO} {mi : MI} {w : WS} {lv : LV} {x1 : Int32} {x2 : Int32} {x3 : Int32} {x4 : Int32} {x5 : Int32} (h : ((x4 ≤ x5) → Wp gl gx (d + 6) P 73 125 [aR 4 0, aI x1, aI x2, aI x3, aI x4, aI x5] [] (mi, RS w, lv) Q) ∧ (¬ (x4 ≤ x5) → (¬ ((mi 6 0 3) = 1) → Wp gl gx (d + 6) P 73 125 [aR 4 0, aI x1, aI x2, aI x3, aI x4, aI x5] [] (mi, RS w, lv) Q) ∧ (((mi 6 0 3) = 1) → (∃ c125 : MI, F_X5_takeNumber mi w x2 x5 = some c125 ∧ (∃ c126 : MI, F_X7_next c125 w  = some c126 ∧ Wp gl gx (d + 6) P 73 87 [aR 4 0, aI x1, aI x2, aI x3, aI x4, aI (x5 + 1)] [] (c126, RS w, lv) Q))))) : Wp gl gx (d + 6) P 73 87 [aR 4 0, aI x1, aI x2, aI x3, aI x4, aI x5] [] (mi, RS w, lv) Q := 
  wpT row_73 mt_73 [.iload 5, .iload 4, .if_icmp .ge 34] (by decide +kernel) [(94, [.aload_n 0, .getfield 49, .getfield 73, .iconst 1, .if_icmp .ne 23]), (105, [.aload_n 0, .iload_n 2, .iload 5, .invokevirtual 118]), (112, [.iinc 5 1, .aload_n 0, .getfield 49, .invokevirtual 112]), (122, [.goto (.negSucc 34)])] (by decide +kernel) 54 (And.intro (fun q1607 => (h.1 q1607)) (fun q1608 => And.intro (fun q1609 => ((h.2 q1608).1 q1609)) (fun q1610 => Exists.elim ((h.2 q1608).2 q1610) (fun c125 zc125 => And.intro ⟨Nat.le_of_ble_eq_true rfl, rfl, rfl⟩ (s_X5_takeNumber (d := d + 4) zc125.1 (Exists.elim zc125.2 (fun c126 zc126 => And.intro ⟨Nat.le_of_ble_eq_true rfl, rfl, rfl⟩ (s_X7_next (d := d + 3) zc126.1 (zc126.2)))))))))

theorem r_X5_readLine_82 {gl : Nat} {gx : Nat → Int32} {d : Nat} {P : PL} {Q : PO} {mi : MI} {w : WS} {lv : LV} {x1 : Int32} {x2 : Int32} {x3 : Int32} {v4 : AV} {v5 : AV} {s0 : Int32} (h : Wp gl gx (d + 6) P 73 87 [aR 4 0, aI x1, aI x2, aI x3, aI s0, aI 0] [] (mi, RS w, lv) Q) : Wp gl gx (d + 6) P 73 82 [aR 4 0, aI x1, aI x2, aI x3, v4, v5] [aI s0] (mi, RS w, lv) Q := 
  wpT row_73 mt_73 [.istore 4, .iconst 0, .istore 5] (by decide +kernel) [] (by decide +kernel) 26 (h)

theorem r_X5_readLine_35 {gl : Nat} {gx : Nat → Int32} {d : Nat} {P : PL} {Q : PO} {mi : MI} {w : WS} {lv : LV} {x1 : Int32} {x2 : Int32} {x3 : Int32} {v4 : AV} {v5 : AV} (h : ((5 ≤ x3) → (∃ c123 : MI, F_X7_next mi w  = some c123 ∧ (vp_in x2 (STA13).length) ∧ (Wp gl gx (d + 6) P 73 87 [aR 4 0, aI x1, aI x2, aI (STA13.getD (x2.toNatClampNeg) 0), aI (if (STA13.getD (x2.toNatClampNeg) 0) = (-1) then 600 else STA13.getD (x2.toNatClampNeg) 0), aI 0] [] (c123, RS w, lv) Q))) ∧ (¬ (5 ≤ x3) → (vp_in x3 5) ∧ ((∀ m124 : MI, m124 = u3 mi 35 0 x3.toNatClampNeg (-1) → Wp gl gx (d + 6) P 73 35 [aR 4 0, aI x1, aI x2, aI (x3 + 1), v4, v5] [] (m124, RS w, lv) Q)))) : Wp gl gx (d + 6) P 73 35 [aR 4 0, aI x1, aI x2, aI x3, v4, v5] [] (mi, RS w, lv) Q := 
  wpT row_73 mt_73 [.iload_n 3, .aload_n 0, .getfield 57, .arraylength, .if_icmp .ge 16] (by decide +kernel) [(57, [.aload_n 0, .getfield 49, .invokevirtual 112]), (64, [.getstatic 115, .iload_n 2, .iaload]), (69, [.istore_n 3, .iload_n 3, .iconst (.negSucc 0), .if_icmp .ne 9]), (81, [.iload_n 3]), (75, [.sipush 600, .goto 4]), (44, [.aload_n 0, .getfield 57, .iload_n 3, .iconst (.negSucc 0), .iastore]), (51, [.iinc 3 1, .goto (.negSucc 18)])] (by decide +kernel) 70 (And.intro (fun q1611 => Exists.elim (h.1 q1611) (fun c123 zc123 => And.intro ⟨Nat.le_of_ble_eq_true rfl, rfl, rfl⟩ (s_X7_next (d := d + 3) zc123.1 (And.intro zc123.2.1 (And.intro (fun q1613 => r_X5_readLine_82 (x1 := x1) (x2 := x2) (x3 := (STA13.getD (x2.toNatClampNeg) 0)) (v4 := v4) (v5 := v5) (s0 := (STA13.getD (x2.toNatClampNeg) 0)) (mi := c123) (mv9 (fun v => Wp gl gx (d + 6) P 73 87 [aR 4 0, aI x1, aI x2, aI (STA13.getD (x2.toNatClampNeg) 0), aI v, aI 0] [] (c123, RS w, lv) Q) (show (if (STA13.getD (x2.toNatClampNeg) 0) = (-1) then 600 else STA13.getD (x2.toNatClampNeg) 0) = (STA13.getD (x2.toNatClampNeg) 0) from if_neg (show ¬ ((STA13.getD (x2.toNatClampNeg) 0) = (-1)) from q1613)) zc123.2.2)) (fun q1614 => r_X5_readLine_82 (x1 := x1) (x2 := x2) (x3 := (STA13.getD (x2.toNatClampNeg) 0)) (v4 := v4) (v5 := v5) (s0 := 600) (mi := c123) (mv9 (fun v => Wp gl gx (d + 6) P 73 87 [aR 4 0, aI x1, aI x2, aI (STA13.getD (x2.toNatClampNeg) 0), aI v, aI 0] [] (c123, RS w, lv) Q) (show (if (STA13.getD (x2.toNatClampNeg) 0) = (-1) then 600 else STA13.getD (x2.toNatClampNeg) 0) = 600 from if_pos (show (STA13.getD (x2.toNatClampNeg) 0) = (-1) from q1614)) zc123.2.2))))))) (fun q1612 => And.intro (h.2 q1612).1 (((h.2 q1612).2 _ rfl))))

theorem r_X5_readLine_33 {gl : Nat} {gx : Nat → Int32} {d : Nat} {P : PL} {Q : PO} {mi : MI} {w : WS} {lv : LV} {x1 : Int32} {x2 : Int32} {v3 : AV} {v4 : AV} {v5 : AV} (h : Wp gl gx (d + 6) P 73 35 [aR 4 0, aI x1, aI x2, aI 0, v4, v5] [] (mi, RS w, lv) Q) : Wp gl gx (d + 6) P 73 33 [aR 4 0, aI x1, aI x2, v3, v4, v5] [] (mi, RS w, lv) Q := 
  wpT row_73 mt_73 [.iconst 0, .istore_n 3] (by decide +kernel) [] (by decide +kernel) 24 (h)

theorem r_X5_readLine_0 {gl : Nat} {gx : Nat → Int32} {d : Nat} {P : PL} {Q : PO} {mi : MI} {w : WS} {lv : LV} {x1 : Int32} (h : (∃ c120 : Int32, F_X5_wordOfSort mi w x1 = some c120 ∧ (¬ (c120 = (-1)) → (∃ c121 : Int32, F_X5_hasRoomFor mi w c120 = some c121 ∧ (¬ (c121 = 0) → Wp gl gx (d + 6) P 73 35 [aR 4 0, aI x1, aI c120, aI 0, aU, aU] [] (mi, RS w, lv) Q) ∧ ((c121 = 0) → (∃ c122 : MI, F_X5_note mi w 3 (mi 6 0 4) = some c122 ∧ Wp gl gx (d + 6) P 73 35 [aR 4 0, aI x1, aI c120, aI 0, aU, aU] [] (c122, RS w, lv) Q)))) ∧ ((c120 = (-1)) → Q (aI 0) (mi, RS w, lv)))) : Wp gl gx (d + 6) P 73 0 [aR 4 0, aI x1, aU, aU, aU, aU] [] (mi, RS w, lv) Q := 
  wpT row_73 mt_73 [.aload_n 0, .iload_n 1, .invokevirtual 101] (by decide +kernel) [(5, [.istore_n 2, .iload_n 2, .iconst (.negSucc 0), .if_icmp .ne 5]), (13, [.aload_n 0, .iload_n 2, .invokevirtual 105]), (18, [.ifCond .ne 15]), (21, [.aload_n 0, .iconst 3, .aload_n 0, .getfield 49, .getfield 80, .invokevirtual 108]), (11, [.iconst 0, .ireturn])] (by decide +kernel) 58 (Exists.elim h (fun c120 zc120 => And.intro ⟨Nat.le_of_ble_eq_true rfl, rfl, rfl⟩ (s_X5_wordOfSort (d := d) zc120.1 (And.intro (fun q1615 => Exists.elim (zc120.2.1 q1615) (fun c121 zc121 => And.intro ⟨Nat.le_of_ble_eq_true rfl, rfl, rfl⟩ (s_X5_hasRoomFor (d := d + 5) zc121.1 (And.intro (fun q1617 => r_X5_readLine_33 (x1 := x1) (x2 := c120) (v3 := aU) (v4 := aU) (v5 := aU) (mi := mi) (zc121.2.1 q1617)) (fun q1618 => Exists.elim (zc121.2.2 q1618) (fun c122 zc122 => And.intro ⟨Nat.le_of_ble_eq_true rfl, rfl, rfl⟩ (s_X5_note (d := d + 5) zc122.1 (r_X5_readLine_33 (x1 := x1) (x2 := c120) (v3 := aU) (v4 := aU) (v5 := aU) (mi := c122) zc122.2)))))))) (fun q1616 => And.intro rfl (zc120.2.2 q1616))))))

def L_X5_readLine_87 (w : WS) : Nat → MI → Int32 → Int32 → Int32 → Int32 → Int32 → Option (Int32 × MI)
  | 0, _, _, _, _, _, _ => none
  | n + 1, mi, x1, x2, x3, x4, x5 => if x4 ≤ x5 then if (mi 6 0 3) = 2 then if x3 = (-1) then if (mi 4 0 4) = 0 then (F_X5_store mi w x2 x5).bind fun c127 => (F_X7_next c127 w ).bind fun c128 => some ((1 : Int32), c128) else (F_X7_next mi w ).bind fun c128 => some ((1 : Int32), c128) else if x3 ≤ x5 then if (mi 4 0 4) = 0 then (F_X5_store mi w x2 x5).bind fun c127 => (F_X7_next c127 w ).bind fun c128 => some ((1 : Int32), c128) else (F_X7_next mi w ).bind fun c128 => some ((1 : Int32), c128) else some ((0 : Int32), mi) else some ((0 : Int32), mi) else if (mi 6 0 3) = 1 then (F_X5_takeNumber mi w x2 x5).bind fun c125 => (F_X7_next c125 w ).bind fun c126 => L_X5_readLine_87 w n c126 x1 x2 x3 x4 (x5 + 1) else if (mi 6 0 3) = 2 then if x3 = (-1) then if (mi 4 0 4) = 0 then (F_X5_store mi w x2 x5).bind fun c127 => (F_X7_next c127 w ).bind fun c128 => some ((1 : Int32), c128) else (F_X7_next mi w ).bind fun c128 => some ((1 : Int32), c128) else if x3 ≤ x5 then if (mi 4 0 4) = 0 then (F_X5_store mi w x2 x5).bind fun c127 => (F_X7_next c127 w ).bind fun c128 => some ((1 : Int32), c128) else (F_X7_next mi w ).bind fun c128 => some ((1 : Int32), c128) else some ((0 : Int32), mi) else some ((0 : Int32), mi)

theorem l_X5_readLine_87 {gl : Nat} {gx : Nat → Int32} {d : Nat} {P : PL} {Q : PO} {lv : LV} {w : WS} (n : Nat) : ∀ {mi : MI} {x1 : Int32} {x2 : Int32} {x3 : Int32} {x4 : Int32} {x5 : Int32} {r : (Int32 × MI)}, L_X5_readLine_87 w n mi x1 x2 x3 x4 x5 = some r → (Q (aI r.1) (r.2, RS w, lv)) → Wp gl gx (d + 6) P 73 87 [aR 4 0, aI x1, aI x2, aI x3, aI x4, aI x5] [] (mi, RS w, lv) Q := by
  induction n with
  | zero => intro mi x1 x2 x3 x4 x5 r hf h0; exact o_none hf
  | succ n ih => intro mi x1 x2 x3 x4 x5 r hf h0; exact r_X5_readLine_87 (⟨fun q1619 => k_ifp q1619 hf (fun q1621 => r_X5_readLine_125 (⟨fun q1622 => k_ifn q1622 q1621 (fun q1624 => o_rM q1624 h0), fun q1623 => k_ifp q1623 q1621 (fun q1624 => ⟨fun q1625 => k_ifp q1625 q1624 (fun q1627 => r_X5_readLine_149 (⟨fun q1628 => k_ifn q1628 q1627 (fun q1630 => o_bind q1630 (fun c128 qc128 pc128 => ⟨c128, qc128, o_rM pc128 h0⟩)), fun q1629 => k_ifp q1629 q1627 (fun q1630 => o_bind q1630 (fun c127 qc127 pc127 => ⟨c127, qc127, o_bind pc127 (fun c128 qc128 pc128 => ⟨c128, qc128, o_rM pc128 h0⟩)⟩))⟩)), fun q1626 => k_ifn q1626 q1624 (fun q1627 => ⟨fun q1631 => k_ifp q1631 q1627 (fun q1633 => r_X5_readLine_149 (⟨fun q1634 => k_ifn q1634 q1633 (fun q1636 => o_bind q1636 (fun c128 qc128 pc128 => ⟨c128, qc128, o_rM pc128 h0⟩)), fun q1635 => k_ifp q1635 q1633 (fun q1636 => o_bind q1636 (fun c127 qc127 pc127 => ⟨c127, qc127, o_bind pc127 (fun c128 qc128 pc128 => ⟨c128, qc128, o_rM pc128 h0⟩)⟩))⟩)), fun q1632 => k_ifn q1632 q1627 (fun q1633 => o_rM q1633 h0)⟩)⟩)⟩)), fun q1620 => k_ifn q1620 hf (fun q1621 => ⟨fun q1637 => k_ifn q1637 q1621 (fun q1639 => r_X5_readLine_125 (⟨fun q1640 => k_ifn q1640 q1639 (fun q1642 => o_rM q1642 h0), fun q1641 => k_ifp q1641 q1639 (fun q1642 => ⟨fun q1643 => k_ifp q1643 q1642 (fun q1645 => r_X5_readLine_149 (⟨fun q1646 => k_ifn q1646 q1645 (fun q1648 => o_bind q1648 (fun c128 qc128 pc128 => ⟨c128, qc128, o_rM pc128 h0⟩)), fun q1647 => k_ifp q1647 q1645 (fun q1648 => o_bind q1648 (fun c127 qc127 pc127 => ⟨c127, qc127, o_bind pc127 (fun c128 qc128 pc128 => ⟨c128, qc128, o_rM pc128 h0⟩)⟩))⟩)), fun q1644 => k_ifn q1644 q1642 (fun q1645 => ⟨fun q1649 => k_ifp q1649 q1645 (fun q1651 => r_X5_readLine_149 (⟨fun q1652 => k_ifn q1652 q1651 (fun q1654 => o_bind q1654 (fun c128 qc128 pc128 => ⟨c128, qc128, o_rM pc128 h0⟩)), fun q1653 => k_ifp q1653 q1651 (fun q1654 => o_bind q1654 (fun c127 qc127 pc127 => ⟨c127, qc127, o_bind pc127 (fun c128 qc128 pc128 => ⟨c128, qc128, o_rM pc128 h0⟩)⟩))⟩)), fun q1650 => k_ifn q1650 q1645 (fun q1651 => o_rM q1651 h0)⟩)⟩)⟩)), fun q1638 => k_ifp q1638 q1621 (fun q1639 => o_bind q1639 (fun c125 qc125 pc125 => ⟨c125, qc125, o_bind pc125 (fun c126 qc126 pc126 => ⟨c126, qc126, ih pc126 h0⟩)⟩))⟩)⟩)

def L_X5_readLine_35 (w : WS) : Nat → MI → Int32 → Int32 → Int32 → Option (Int32 × MI)
  | 0, _, _, _, _ => none
  | n + 1, mi, x1, x2, x3 => if 5 ≤ x3 then (F_X7_next mi w ).bind fun c123 => ck (¬ (x2 < 0 ∨ (STA13).length ≤ x2.toNatClampNeg)) (L_X5_readLine_87 w 1000000 c123 x1 x2 (STA13.getD (x2.toNatClampNeg) 0) (if (STA13.getD (x2.toNatClampNeg) 0) = (-1) then 600 else STA13.getD (x2.toNatClampNeg) 0) 0) else ck (¬ (x3 < 0 ∨ 5 ≤ x3.toNatClampNeg)) (lt (u3 mi 35 0 x3.toNatClampNeg (-1)) fun m124 => L_X5_readLine_35 w n m124 x1 x2 (x3 + 1))

theorem l_X5_readLine_35 {gl : Nat} {gx : Nat → Int32} {d : Nat} {P : PL} {Q : PO} {lv : LV} {w : WS} (n : Nat) : ∀ {mi : MI} {x1 : Int32} {x2 : Int32} {x3 : Int32} {v4 : AV} {v5 : AV} {r : (Int32 × MI)}, L_X5_readLine_35 w n mi x1 x2 x3 = some r → (Q (aI r.1) (r.2, RS w, lv)) → Wp gl gx (d + 6) P 73 35 [aR 4 0, aI x1, aI x2, aI x3, v4, v5] [] (mi, RS w, lv) Q := by
  induction n with
  | zero => intro mi x1 x2 x3 v4 v5 r hf h0; exact o_none hf
  | succ n ih => intro mi x1 x2 x3 v4 v5 r hf h0; exact r_X5_readLine_35 (⟨fun q1655 => k_ifp q1655 hf (fun q1657 => o_bind q1657 (fun c123 qc123 pc123 => ⟨c123, qc123, k_ck pc123 (fun q1659 q1658 => ⟨q1659, l_X5_readLine_87 1000000 q1658 h0⟩)⟩)), fun q1656 => k_ifn q1656 hf (fun q1657 => k_ck q1657 (fun q1661 q1660 => ⟨q1661, fun m124 hm124 => k_lt q1660 hm124 (fun q1662 => ih q1662 h0)⟩))⟩)

def F_X5_readLine (mi : MI) (w : WS) (x1 : Int32) : Option (Int32 × MI) := (F_X5_wordOfSort mi w x1).bind fun c120 => if c120 = (-1) then some ((0 : Int32), mi) else (F_X5_hasRoomFor mi w c120).bind fun c121 => if c121 = 0 then (F_X5_note mi w 3 (mi 6 0 4)).bind fun c122 => L_X5_readLine_35 w 1000000 c122 x1 c120 0 else L_X5_readLine_35 w 1000000 mi x1 c120 0

theorem s_X5_readLine {gl : Nat} {gx : Nat → Int32} {d : Nat} {P : PL} {Q : PO} {mi : MI} {w : WS} {lv : LV} {x1 : Int32} {r : (Int32 × MI)} (hf : F_X5_readLine mi w x1 = some r) (h0 : Q (aI r.1) (r.2, RS w, lv)) : Wp gl gx (d + 6) P 73 0 [aR 4 0, aI x1, aU, aU, aU, aU] [] (mi, RS w, lv) Q := r_X5_readLine_0 (o_bind hf (fun c120 qc120 pc120 => ⟨c120, qc120, ⟨fun q1663 => k_ifn q1663 pc120 (fun q1665 => o_bind q1665 (fun c121 qc121 pc121 => ⟨c121, qc121, ⟨fun q1666 => k_ifn q1666 pc121 (fun q1668 => l_X5_readLine_35 1000000 q1668 h0), fun q1667 => k_ifp q1667 pc121 (fun q1668 => o_bind q1668 (fun c122 qc122 pc122 => ⟨c122, qc122, l_X5_readLine_35 1000000 pc122 h0⟩))⟩⟩)), fun q1664 => k_ifp q1664 pc120 (fun q1665 => o_rM q1665 h0)⟩⟩))

abbrev row_71 : MT := (⟨"StencilHouse$Reader", "read", "([III)V"⟩, prog_7_method_2_code, 5, none, 1, lk_5)
set_option maxRecDepth 20000 in
theorem mt_71 : mt 71 = some row_71 := rfl
theorem r_X5_read_66 {gl : Nat} {gx : Nat → Int32} {d : Nat} {P : PL} {Q : PO} {mi : MI} {w : WS} {lv : LV} {x2 : Int32} {x3 : Int32} {x4 : Int32} (h : (¬ ((mi 4 0 4) = 0) → Q aU (mi, RS w, lv)) ∧ (((mi 4 0 4) = 0) → (¬ (x3 = 0) → Q aU (mi, RS w, lv)) ∧ ((x3 = 0) → (∃ c133 : MI, F_X6_measure mi w 8 = some c133 ∧ (∃ c134 : MI, F_X5_checkShop c133 w (c133 6 0 4) = some c134 ∧ (∃ c135 : MI, F_X6_openSheets c134 w 8 = some c135 ∧ Q aU (c135, RS w, lv))))))) : Wp gl gx (d + 7) P 71 66 [aR 4 0, aR 20 0, aI x2, aI x3, aI x4] [] (mi, RS w, lv) Q := 
  wpT row_71 mt_71 [.aload_n 0, .getfield 39, .ifCond .ne 32] (by decide +kernel) [(102, [.return_]), (73, [.iload_n 3, .ifCond .ne 28]), (77, [.aload_n 0, .getfield 12, .invokevirtual 83]), (84, [.aload_n 0, .aload_n 0, .getfield 49, .getfield 80, .invokevirtual 86]), (95, [.aload_n 0, .getfield 12, .invokevirtual 90])] (by decide +kernel) 54 (And.intro (fun q1669 => (h.1 q1669)) (fun q1670 => And.intro (fun q1671 => ((h.2 q1670).1 q1671)) (fun q1672 => Exists.elim ((h.2 q1670).2 q1672) (fun c133 zc133 => And.intro ⟨Nat.le_of_ble_eq_true rfl, rfl, rfl⟩ (s_X6_measure (d := d + 6) zc133.1 (Exists.elim zc133.2 (fun c134 zc134 => And.intro ⟨Nat.le_of_ble_eq_true rfl, rfl, rfl⟩ (s_X5_checkShop (d := d + 4) zc134.1 (Exists.elim zc134.2 (fun c135 zc135 => And.intro ⟨Nat.le_of_ble_eq_true rfl, rfl, rfl⟩ (s_X6_openSheets (d := d + 1) zc135.1 (zc135.2))))))))))))

theorem r_X5_read_16 {gl : Nat} {gx : Nat → Int32} {d : Nat} {P : PL} {Q : PO} {mi : MI} {w : WS} {lv : LV} {x2 : Int32} {x3 : Int32} {x4 : Int32} (h : ((600 < x4) → Wp gl gx (d + 7) P 71 66 [aR 4 0, aR 20 0, aI x2, aI x3, aI x4] [] (mi, RS w, lv) Q) ∧ (¬ (600 < x4) → (((mi 6 0 3) = 3) → Wp gl gx (d + 7) P 71 66 [aR 4 0, aR 20 0, aI x2, aI x3, aI x4] [] (mi, RS w, lv) Q) ∧ (¬ ((mi 6 0 3) = 3) → (∃ c131 : Int32 × MI, F_X5_readLine mi w x3 = some c131 ∧ (¬ (c131.1 = 0) → Wp gl gx (d + 7) P 71 16 [aR 4 0, aR 20 0, aI x2, aI x3, aI (x4 + 1)] [] (c131.2, RS w, lv) Q) ∧ ((c131.1 = 0) → (∀ m132 : MI, m132 = u3 (u3 c131.2 4 0 4 1) 4 0 5 ((u3 c131.2 4 0 4 1) 6 0 4) → Q aU (m132, RS w, lv))))))) : Wp gl gx (d + 7) P 71 16 [aR 4 0, aR 20 0, aI x2, aI x3, aI x4] [] (mi, RS w, lv) Q := 
  wpT row_71 mt_71 [.iload 4, .sipush 600, .if_icmp .gt 45] (by decide +kernel) [(24, [.aload_n 0, .getfield 49, .getfield 73, .iconst 3, .if_icmp .eq 34]), (35, [.aload_n 0, .iload_n 3, .invokevirtual 76]), (40, [.ifCond .ne 20]), (60, [.iinc 4 1, .goto (.negSucc 46)]), (43, [.aload_n 0, .iconst 1, .putfield 39, .aload_n 0, .aload_n 0, .getfield 49, .getfield 80, .putfield 43]), (59, [.return_])] (by decide +kernel) 66 (And.intro (fun q1673 => (h.1 q1673)) (fun q1674 => And.intro (fun q1675 => ((h.2 q1674).1 q1675)) (fun q1676 => Exists.elim ((h.2 q1674).2 q1676) (fun c131 zc131 => And.intro ⟨Nat.le_of_ble_eq_true rfl, rfl, rfl⟩ (s_X5_readLine (d := d) zc131.1 (And.intro (fun q1677 => (zc131.2.1 q1677)) (fun q1678 => ((zc131.2.2 q1678) _ rfl))))))))

theorem r_X5_read_0 {gl : Nat} {gx : Nat → Int32} {d : Nat} {P : PL} {Q : PO} {mi : MI} {w : WS} {lv : LV} {x2 : Int32} {x3 : Int32} (h : (∃ c129 : MI, F_X5_clear mi w  = some c129 ∧ (∃ c130 : MI × WS, F_X7_begin c129 w x2 = some c130 ∧ Wp gl gx (d + 7) P 71 16 [aR 4 0, aR 20 0, aI x2, aI x3, aI 0] [] (c130.1, RS c130.2, lv) Q))) : Wp gl gx (d + 7) P 71 0 [aR 4 0, aR 20 0, aI x2, aI x3, aU] [] (mi, RS w, lv) Q := 
  wpT row_71 mt_71 [.aload_n 0, .invokevirtual 66] (by decide +kernel) [(4, [.aload_n 0, .getfield 49, .aload_n 1, .iload_n 2, .invokevirtual 69]), (13, [.iconst 0, .istore 4])] (by decide +kernel) 38 (Exists.elim h (fun c129 zc129 => And.intro ⟨Nat.le_of_ble_eq_true rfl, rfl, rfl⟩ (s_X5_clear (d := d + 5) zc129.1 (Exists.elim zc129.2 (fun c130 zc130 => And.intro ⟨Nat.le_of_ble_eq_true rfl, rfl, rfl⟩ (s_X7_begin (d := d + 3) zc130.1 (zc130.2)))))))

def L_X5_read_16 : Nat → MI → WS → Int32 → Int32 → Int32 → Option (MI × WS)
  | 0, _, _, _, _, _ => none
  | n + 1, mi, w, x2, x3, x4 => if 600 < x4 then if (mi 4 0 4) = 0 then if x3 = 0 then (F_X6_measure mi w 8).bind fun c133 => (F_X5_checkShop c133 w (c133 6 0 4)).bind fun c134 => (F_X6_openSheets c134 w 8).bind fun c135 => some (c135, w) else some (mi, w) else some (mi, w) else if (mi 6 0 3) = 3 then if (mi 4 0 4) = 0 then if x3 = 0 then (F_X6_measure mi w 8).bind fun c133 => (F_X5_checkShop c133 w (c133 6 0 4)).bind fun c134 => (F_X6_openSheets c134 w 8).bind fun c135 => some (c135, w) else some (mi, w) else some (mi, w) else (F_X5_readLine mi w x3).bind fun c131 => if c131.1 = 0 then lt (u3 (u3 c131.2 4 0 4 1) 4 0 5 ((u3 c131.2 4 0 4 1) 6 0 4)) fun m132 => some (m132, w) else L_X5_read_16 n c131.2 w x2 x3 (x4 + 1)

theorem l_X5_read_16 {gl : Nat} {gx : Nat → Int32} {d : Nat} {P : PL} {Q : PO} {lv : LV} (n : Nat) : ∀ {mi : MI} {w : WS} {x2 : Int32} {x3 : Int32} {x4 : Int32} {r : (MI × WS)}, L_X5_read_16 n mi w x2 x3 x4 = some r → (Q aU (r.1, RS r.2, lv)) → Wp gl gx (d + 7) P 71 16 [aR 4 0, aR 20 0, aI x2, aI x3, aI x4] [] (mi, RS w, lv) Q := by
  induction n with
  | zero => intro mi w x2 x3 x4 r hf h0; exact o_none hf
  | succ n ih => intro mi w x2 x3 x4 r hf h0; exact r_X5_read_16 (⟨fun q1679 => k_ifp q1679 hf (fun q1681 => r_X5_read_66 (⟨fun q1682 => k_ifn q1682 q1681 (fun q1684 => o_rV q1684 h0), fun q1683 => k_ifp q1683 q1681 (fun q1684 => ⟨fun q1685 => k_ifn q1685 q1684 (fun q1687 => o_rV q1687 h0), fun q1686 => k_ifp q1686 q1684 (fun q1687 => o_bind q1687 (fun c133 qc133 pc133 => ⟨c133, qc133, o_bind pc133 (fun c134 qc134 pc134 => ⟨c134, qc134, o_bind pc134 (fun c135 qc135 pc135 => ⟨c135, qc135, o_rV pc135 h0⟩)⟩)⟩))⟩)⟩)), fun q1680 => k_ifn q1680 hf (fun q1681 => ⟨fun q1688 => k_ifp q1688 q1681 (fun q1690 => r_X5_read_66 (⟨fun q1691 => k_ifn q1691 q1690 (fun q1693 => o_rV q1693 h0), fun q1692 => k_ifp q1692 q1690 (fun q1693 => ⟨fun q1694 => k_ifn q1694 q1693 (fun q1696 => o_rV q1696 h0), fun q1695 => k_ifp q1695 q1693 (fun q1696 => o_bind q1696 (fun c133 qc133 pc133 => ⟨c133, qc133, o_bind pc133 (fun c134 qc134 pc134 => ⟨c134, qc134, o_bind pc134 (fun c135 qc135 pc135 => ⟨c135, qc135, o_rV pc135 h0⟩)⟩)⟩))⟩)⟩)), fun q1689 => k_ifn q1689 q1681 (fun q1690 => o_bind q1690 (fun c131 qc131 pc131 => ⟨c131, qc131, ⟨fun q1697 => k_ifn q1697 pc131 (fun q1699 => ih q1699 h0), fun q1698 => k_ifp q1698 pc131 (fun q1699 => fun m132 hm132 => k_lt q1699 hm132 (fun q1700 => o_rV q1700 h0))⟩⟩))⟩)⟩)

def F_X5_read (mi : MI) (w : WS) (x2 : Int32) (x3 : Int32) : Option (MI × WS) := (F_X5_clear mi w ).bind fun c129 => (F_X7_begin c129 w x2).bind fun c130 => L_X5_read_16 1000000 c130.1 c130.2 x2 x3 0

theorem s_X5_read {gl : Nat} {gx : Nat → Int32} {d : Nat} {P : PL} {Q : PO} {mi : MI} {w : WS} {lv : LV} {x2 : Int32} {x3 : Int32} {r : (MI × WS)} (hf : F_X5_read mi w x2 x3 = some r) (h0 : Q aU (r.1, RS r.2, lv)) : Wp gl gx (d + 7) P 71 0 [aR 4 0, aR 20 0, aI x2, aI x3, aU] [] (mi, RS w, lv) Q := r_X5_read_0 (o_bind hf (fun c129 qc129 pc129 => ⟨c129, qc129, o_bind pc129 (fun c130 qc130 pc130 => ⟨c130, qc130, l_X5_read_16 1000000 pc130 h0⟩)⟩))
end

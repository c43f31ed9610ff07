section
-- ===== PART A: goes FIRST, ahead of the names: the tables' words, and 'selects' of the private methods out of them =====
/-- a private method of a class that the tables say can be made, by its rows of tables_1 -/
def lw_okq (q : MethodName × Nat) : Prop := (q.1.cls ≠ "java/lang/invoke/MethodHandle" ∧ q.1.cls ≠ "java/lang/invoke/VarHandle") ∧ Cond.instantiable q.1.cls q.2 ∈ tables_1 ∧ Cond.privateMethod q.1 ∈ tables_1 ∧ Cond.instanceMethod q.1 ∈ tables_1
theorem lw_p0 : lw_okq (⟨"PushTray$Lays", "spell", "(I)V"⟩, 5) := ⟨⟨by decide +kernel, by decide +kernel⟩, List.mem_of_getElem? (i := 20) (by decide +kernel), List.mem_of_getElem? (i := 26) (by decide +kernel), List.mem_of_getElem? (i := 27) (by decide +kernel)⟩
theorem lw_p1 : lw_okq (⟨"PushTray$Lays", "link", "(I)V"⟩, 5) := ⟨⟨by decide +kernel, by decide +kernel⟩, List.mem_of_getElem? (i := 20) (by decide +kernel), List.mem_of_getElem? (i := 35) (by decide +kernel), List.mem_of_getElem? (i := 36) (by decide +kernel)⟩
theorem lw_p2 : lw_okq (⟨"PushTray", "firstWrongPlace", "()I"⟩, 12) := ⟨⟨by decide +kernel, by decide +kernel⟩, List.mem_of_getElem? (i := 12) (by decide +kernel), List.mem_of_getElem? (i := 229) (by decide +kernel), List.mem_of_getElem? (i := 230) (by decide +kernel)⟩
theorem lw_p3 : lw_okq (⟨"PushTray", "fits", "(I)Z"⟩, 12) := ⟨⟨by decide +kernel, by decide +kernel⟩, List.mem_of_getElem? (i := 12) (by decide +kernel), List.mem_of_getElem? (i := 233) (by decide +kernel), List.mem_of_getElem? (i := 234) (by decide +kernel)⟩
theorem lw_p4 : lw_okq (⟨"PushTray", "isNewSign", "(II)Z"⟩, 12) := ⟨⟨by decide +kernel, by decide +kernel⟩, List.mem_of_getElem? (i := 12) (by decide +kernel), List.mem_of_getElem? (i := 237) (by decide +kernel), List.mem_of_getElem? (i := 238) (by decide +kernel)⟩
theorem lw_p5 : lw_okq (⟨"PushTray", "codeAt", "(I)I"⟩, 12) := ⟨⟨by decide +kernel, by decide +kernel⟩, List.mem_of_getElem? (i := 12) (by decide +kernel), List.mem_of_getElem? (i := 241) (by decide +kernel), List.mem_of_getElem? (i := 242) (by decide +kernel)⟩
theorem lw_p6 : lw_okq (⟨"PushTray", "readLay", "(I)I"⟩, 12) := ⟨⟨by decide +kernel, by decide +kernel⟩, List.mem_of_getElem? (i := 12) (by decide +kernel), List.mem_of_getElem? (i := 257) (by decide +kernel), List.mem_of_getElem? (i := 258) (by decide +kernel)⟩
theorem lw_p7 : lw_okq (⟨"PushTray", "readKinds", "()I"⟩, 12) := ⟨⟨by decide +kernel, by decide +kernel⟩, List.mem_of_getElem? (i := 12) (by decide +kernel), List.mem_of_getElem? (i := 262) (by decide +kernel), List.mem_of_getElem? (i := 263) (by decide +kernel)⟩
theorem lw_p8 : lw_okq (⟨"PushTray", "isTile", "(I)Z"⟩, 12) := ⟨⟨by decide +kernel, by decide +kernel⟩, List.mem_of_getElem? (i := 12) (by decide +kernel), List.mem_of_getElem? (i := 285) (by decide +kernel), List.mem_of_getElem? (i := 286) (by decide +kernel)⟩
theorem lw_p9 : lw_okq (⟨"PushTray", "hasTray", "()Z"⟩, 12) := ⟨⟨by decide +kernel, by decide +kernel⟩, List.mem_of_getElem? (i := 12) (by decide +kernel), List.mem_of_getElem? (i := 289) (by decide +kernel), List.mem_of_getElem? (i := 290) (by decide +kernel)⟩
theorem lw_p10 : lw_okq (⟨"PushTray$Spread", "note", "(II)V"⟩, 7) := ⟨⟨by decide +kernel, by decide +kernel⟩, List.mem_of_getElem? (i := 90) (by decide +kernel), List.mem_of_getElem? (i := 330) (by decide +kernel), List.mem_of_getElem? (i := 331) (by decide +kernel)⟩
theorem lw_p11 : lw_okq (⟨"PushTray$Spread", "noteNeighbours", "(II)V"⟩, 7) := ⟨⟨by decide +kernel, by decide +kernel⟩, List.mem_of_getElem? (i := 90) (by decide +kernel), List.mem_of_getElem? (i := 336) (by decide +kernel), List.mem_of_getElem? (i := 337) (by decide +kernel)⟩
theorem lw_p12 : lw_okq (⟨"PushTray", "isCell", "(I)Z"⟩, 12) := ⟨⟨by decide +kernel, by decide +kernel⟩, List.mem_of_getElem? (i := 12) (by decide +kernel), List.mem_of_getElem? (i := 365) (by decide +kernel), List.mem_of_getElem? (i := 366) (by decide +kernel)⟩
theorem lw_p13 : lw_okq (⟨"PushTray", "cheapestTile", "(I)I"⟩, 12) := ⟨⟨by decide +kernel, by decide +kernel⟩, List.mem_of_getElem? (i := 12) (by decide +kernel), List.mem_of_getElem? (i := 400) (by decide +kernel), List.mem_of_getElem? (i := 401) (by decide +kernel)⟩
theorem lw_p14 : lw_okq (⟨"PushTray", "pushesToGoal", "()I"⟩, 12) := ⟨⟨by decide +kernel, by decide +kernel⟩, List.mem_of_getElem? (i := 12) (by decide +kernel), List.mem_of_getElem? (i := 404) (by decide +kernel), List.mem_of_getElem? (i := 405) (by decide +kernel)⟩
theorem lw_p15 : lw_okq (⟨"PushTray", "circles", "()I"⟩, 12) := ⟨⟨by decide +kernel, by decide +kernel⟩, List.mem_of_getElem? (i := 12) (by decide +kernel), List.mem_of_getElem? (i := 428) (by decide +kernel), List.mem_of_getElem? (i := 429) (by decide +kernel)⟩
def lw_privs_1 : List (MethodName × Nat) := [(⟨"PushTray$Lays", "spell", "(I)V"⟩, 5), (⟨"PushTray$Lays", "link", "(I)V"⟩, 5), (⟨"PushTray", "firstWrongPlace", "()I"⟩, 12), (⟨"PushTray", "fits", "(I)Z"⟩, 12), (⟨"PushTray", "isNewSign", "(II)Z"⟩, 12), (⟨"PushTray", "codeAt", "(I)I"⟩, 12), (⟨"PushTray", "readLay", "(I)I"⟩, 12), (⟨"PushTray", "readKinds", "()I"⟩, 12), (⟨"PushTray", "isTile", "(I)Z"⟩, 12), (⟨"PushTray", "hasTray", "()Z"⟩, 12), (⟨"PushTray$Spread", "note", "(II)V"⟩, 7), (⟨"PushTray$Spread", "noteNeighbours", "(II)V"⟩, 7), (⟨"PushTray", "isCell", "(I)Z"⟩, 12), (⟨"PushTray", "cheapestTile", "(I)I"⟩, 12), (⟨"PushTray", "pushesToGoal", "()I"⟩, 12), (⟨"PushTray", "circles", "()I"⟩, 12)]
theorem lw_r1 : ∀ q ∈ lw_privs_1, lw_okq q := List.forall_mem_cons.mpr ⟨lw_p0, List.forall_mem_cons.mpr ⟨lw_p1, List.forall_mem_cons.mpr ⟨lw_p2, List.forall_mem_cons.mpr ⟨lw_p3, List.forall_mem_cons.mpr ⟨lw_p4, List.forall_mem_cons.mpr ⟨lw_p5, List.forall_mem_cons.mpr ⟨lw_p6, List.forall_mem_cons.mpr ⟨lw_p7, List.forall_mem_cons.mpr ⟨lw_p8, List.forall_mem_cons.mpr ⟨lw_p9, List.forall_mem_cons.mpr ⟨lw_p10, List.forall_mem_cons.mpr ⟨lw_p11, List.forall_mem_cons.mpr ⟨lw_p12, List.forall_mem_cons.mpr ⟨lw_p13, List.forall_mem_cons.mpr ⟨lw_p14, List.forall_mem_cons.mpr ⟨lw_p15, fun _ h => absurd h List.not_mem_nil⟩⟩⟩⟩⟩⟩⟩⟩⟩⟩⟩⟩⟩⟩⟩⟩
theorem lw_p16 : lw_okq (⟨"PushTray$Chances", "share", "(III)V"⟩, 6) := ⟨⟨by decide +kernel, by decide +kernel⟩, List.mem_of_getElem? (i := 118) (by decide +kernel), List.mem_of_getElem? (i := 452) (by decide +kernel), List.mem_of_getElem? (i := 453) (by decide +kernel)⟩
theorem lw_p17 : lw_okq (⟨"PushTray$Chances", "give", "(II)V"⟩, 6) := ⟨⟨by decide +kernel, by decide +kernel⟩, List.mem_of_getElem? (i := 118) (by decide +kernel), List.mem_of_getElem? (i := 456) (by decide +kernel), List.mem_of_getElem? (i := 457) (by decide +kernel)⟩
theorem lw_p18 : lw_okq (⟨"PushTray", "cellsAlike", "(II)I"⟩, 12) := ⟨⟨by decide +kernel, by decide +kernel⟩, List.mem_of_getElem? (i := 12) (by decide +kernel), List.mem_of_getElem? (i := 500) (by decide +kernel), List.mem_of_getElem? (i := 501) (by decide +kernel)⟩
theorem lw_p19 : lw_okq (⟨"PushTray", "mixTiles", "(J)J"⟩, 12) := ⟨⟨by decide +kernel, by decide +kernel⟩, List.mem_of_getElem? (i := 12) (by decide +kernel), List.mem_of_getElem? (i := 529) (by decide +kernel), List.mem_of_getElem? (i := 530) (by decide +kernel)⟩
theorem lw_p20 : lw_okq (⟨"PushTray", "mixCells", "(J)J"⟩, 12) := ⟨⟨by decide +kernel, by decide +kernel⟩, List.mem_of_getElem? (i := 12) (by decide +kernel), List.mem_of_getElem? (i := 540) (by decide +kernel), List.mem_of_getElem? (i := 541) (by decide +kernel)⟩
theorem lw_p21 : lw_okq (⟨"PushTray", "mixCosts", "(J)J"⟩, 12) := ⟨⟨by decide +kernel, by decide +kernel⟩, List.mem_of_getElem? (i := 12) (by decide +kernel), List.mem_of_getElem? (i := 545) (by decide +kernel), List.mem_of_getElem? (i := 546) (by decide +kernel)⟩
theorem lw_p22 : lw_okq (⟨"PushTrayModel", "read", "()I"⟩, 30) := ⟨⟨by decide +kernel, by decide +kernel⟩, List.mem_of_getElem? (i := 553) (by decide +kernel), List.mem_of_getElem? (i := 666) (by decide +kernel), List.mem_of_getElem? (i := 667) (by decide +kernel)⟩
theorem lw_p23 : lw_okq (⟨"PushTrayModel", "readCells", "(I)I"⟩, 30) := ⟨⟨by decide +kernel, by decide +kernel⟩, List.mem_of_getElem? (i := 553) (by decide +kernel), List.mem_of_getElem? (i := 670) (by decide +kernel), List.mem_of_getElem? (i := 671) (by decide +kernel)⟩
theorem lw_p24 : lw_okq (⟨"PushTrayModel", "signAt", "(I)I"⟩, 30) := ⟨⟨by decide +kernel, by decide +kernel⟩, List.mem_of_getElem? (i := 553) (by decide +kernel), List.mem_of_getElem? (i := 674) (by decide +kernel), List.mem_of_getElem? (i := 675) (by decide +kernel)⟩
theorem lw_p25 : lw_okq (⟨"PushTrayModel", "at", "(I)I"⟩, 30) := ⟨⟨by decide +kernel, by decide +kernel⟩, List.mem_of_getElem? (i := 553) (by decide +kernel), List.mem_of_getElem? (i := 678) (by decide +kernel), List.mem_of_getElem? (i := 679) (by decide +kernel)⟩
theorem lw_p26 : lw_okq (⟨"PushTrayModel", "cellsAt", "(I)I"⟩, 30) := ⟨⟨by decide +kernel, by decide +kernel⟩, List.mem_of_getElem? (i := 553) (by decide +kernel), List.mem_of_getElem? (i := 692) (by decide +kernel), List.mem_of_getElem? (i := 693) (by decide +kernel)⟩
theorem lw_p27 : lw_okq (⟨"PushTrayModel", "isTile", "(I)Z"⟩, 30) := ⟨⟨by decide +kernel, by decide +kernel⟩, List.mem_of_getElem? (i := 553) (by decide +kernel), List.mem_of_getElem? (i := 706) (by decide +kernel), List.mem_of_getElem? (i := 707) (by decide +kernel)⟩
theorem lw_p28 : lw_okq (⟨"PushTrayModel", "tileNow", "(II)I"⟩, 30) := ⟨⟨by decide +kernel, by decide +kernel⟩, List.mem_of_getElem? (i := 553) (by decide +kernel), List.mem_of_getElem? (i := 710) (by decide +kernel), List.mem_of_getElem? (i := 711) (by decide +kernel)⟩
theorem lw_p29 : lw_okq (⟨"PushTrayModel", "costIn", "(II)I"⟩, 30) := ⟨⟨by decide +kernel, by decide +kernel⟩, List.mem_of_getElem? (i := 553) (by decide +kernel), List.mem_of_getElem? (i := 714) (by decide +kernel), List.mem_of_getElem? (i := 715) (by decide +kernel)⟩
theorem lw_p30 : lw_okq (⟨"PushTrayModel", "sortsOf", "(I)I"⟩, 30) := ⟨⟨by decide +kernel, by decide +kernel⟩, List.mem_of_getElem? (i := 553) (by decide +kernel), List.mem_of_getElem? (i := 727) (by decide +kernel), List.mem_of_getElem? (i := 728) (by decide +kernel)⟩
theorem lw_p31 : lw_okq (⟨"PushTrayModel", "wayFor", "(I)I"⟩, 30) := ⟨⟨by decide +kernel, by decide +kernel⟩, List.mem_of_getElem? (i := 553) (by decide +kernel), List.mem_of_getElem? (i := 731) (by decide +kernel), List.mem_of_getElem? (i := 732) (by decide +kernel)⟩
def lw_privs_2 : List (MethodName × Nat) := [(⟨"PushTray$Chances", "share", "(III)V"⟩, 6), (⟨"PushTray$Chances", "give", "(II)V"⟩, 6), (⟨"PushTray", "cellsAlike", "(II)I"⟩, 12), (⟨"PushTray", "mixTiles", "(J)J"⟩, 12), (⟨"PushTray", "mixCells", "(J)J"⟩, 12), (⟨"PushTray", "mixCosts", "(J)J"⟩, 12), (⟨"PushTrayModel", "read", "()I"⟩, 30), (⟨"PushTrayModel", "readCells", "(I)I"⟩, 30), (⟨"PushTrayModel", "signAt", "(I)I"⟩, 30), (⟨"PushTrayModel", "at", "(I)I"⟩, 30), (⟨"PushTrayModel", "cellsAt", "(I)I"⟩, 30), (⟨"PushTrayModel", "isTile", "(I)Z"⟩, 30), (⟨"PushTrayModel", "tileNow", "(II)I"⟩, 30), (⟨"PushTrayModel", "costIn", "(II)I"⟩, 30), (⟨"PushTrayModel", "sortsOf", "(I)I"⟩, 30), (⟨"PushTrayModel", "wayFor", "(I)I"⟩, 30)]
theorem lw_r2 : ∀ q ∈ lw_privs_2, lw_okq q := List.forall_mem_cons.mpr ⟨lw_p16, List.forall_mem_cons.mpr ⟨lw_p17, List.forall_mem_cons.mpr ⟨lw_p18, List.forall_mem_cons.mpr ⟨lw_p19, List.forall_mem_cons.mpr ⟨lw_p20, List.forall_mem_cons.mpr ⟨lw_p21, List.forall_mem_cons.mpr ⟨lw_p22, List.forall_mem_cons.mpr ⟨lw_p23, List.forall_mem_cons.mpr ⟨lw_p24, List.forall_mem_cons.mpr ⟨lw_p25, List.forall_mem_cons.mpr ⟨lw_p26, List.forall_mem_cons.mpr ⟨lw_p27, List.forall_mem_cons.mpr ⟨lw_p28, List.forall_mem_cons.mpr ⟨lw_p29, List.forall_mem_cons.mpr ⟨lw_p30, List.forall_mem_cons.mpr ⟨lw_p31, fun _ h => absurd h List.not_mem_nil⟩⟩⟩⟩⟩⟩⟩⟩⟩⟩⟩⟩⟩⟩⟩⟩
theorem lw_p32 : lw_okq (⟨"PushTrayModel", "homeNow", "(II)I"⟩, 30) := ⟨⟨by decide +kernel, by decide +kernel⟩, List.mem_of_getElem? (i := 553) (by decide +kernel), List.mem_of_getElem? (i := 738) (by decide +kernel), List.mem_of_getElem? (i := 739) (by decide +kernel)⟩
theorem lw_p33 : lw_okq (⟨"PushTrayModel", "layCosts", "(I)I"⟩, 30) := ⟨⟨by decide +kernel, by decide +kernel⟩, List.mem_of_getElem? (i := 553) (by decide +kernel), List.mem_of_getElem? (i := 742) (by decide +kernel), List.mem_of_getElem? (i := 743) (by decide +kernel)⟩
theorem lw_p34 : lw_okq (⟨"PushTrayModel", "comeFrom", "(II)V"⟩, 30) := ⟨⟨by decide +kernel, by decide +kernel⟩, List.mem_of_getElem? (i := 553) (by decide +kernel), List.mem_of_getElem? (i := 753) (by decide +kernel), List.mem_of_getElem? (i := 754) (by decide +kernel)⟩
theorem lw_p35 : lw_okq (⟨"PushTrayModel", "mayBePushed", "(I)I"⟩, 30) := ⟨⟨by decide +kernel, by decide +kernel⟩, List.mem_of_getElem? (i := 553) (by decide +kernel), List.mem_of_getElem? (i := 757) (by decide +kernel), List.mem_of_getElem? (i := 758) (by decide +kernel)⟩
theorem lw_p36 : lw_okq (⟨"PushTrayModel", "isCell", "(I)Z"⟩, 30) := ⟨⟨by decide +kernel, by decide +kernel⟩, List.mem_of_getElem? (i := 553) (by decide +kernel), List.mem_of_getElem? (i := 775) (by decide +kernel), List.mem_of_getElem? (i := 776) (by decide +kernel)⟩
theorem lw_p37 : lw_okq (⟨"PushTrayModel", "cellNow", "(II)I"⟩, 30) := ⟨⟨by decide +kernel, by decide +kernel⟩, List.mem_of_getElem? (i := 553) (by decide +kernel), List.mem_of_getElem? (i := 779) (by decide +kernel), List.mem_of_getElem? (i := 780) (by decide +kernel)⟩
theorem lw_p38 : lw_okq (⟨"PushTrayModel", "leastNow", "(I)I"⟩, 30) := ⟨⟨by decide +kernel, by decide +kernel⟩, List.mem_of_getElem? (i := 553) (by decide +kernel), List.mem_of_getElem? (i := 803) (by decide +kernel), List.mem_of_getElem? (i := 804) (by decide +kernel)⟩
theorem lw_p39 : lw_okq (⟨"PushTrayModel", "costOf", "(I)I"⟩, 30) := ⟨⟨by decide +kernel, by decide +kernel⟩, List.mem_of_getElem? (i := 553) (by decide +kernel), List.mem_of_getElem? (i := 807) (by decide +kernel), List.mem_of_getElem? (i := 808) (by decide +kernel)⟩
theorem lw_p40 : lw_okq (⟨"PushTrayModel", "firstOf", "(I)I"⟩, 30) := ⟨⟨by decide +kernel, by decide +kernel⟩, List.mem_of_getElem? (i := 553) (by decide +kernel), List.mem_of_getElem? (i := 811) (by decide +kernel), List.mem_of_getElem? (i := 812) (by decide +kernel)⟩
theorem lw_p41 : lw_okq (⟨"PushTrayModel", "reachNow", "(I)I"⟩, 30) := ⟨⟨by decide +kernel, by decide +kernel⟩, List.mem_of_getElem? (i := 553) (by decide +kernel), List.mem_of_getElem? (i := 819) (by decide +kernel), List.mem_of_getElem? (i := 820) (by decide +kernel)⟩
theorem lw_p42 : lw_okq (⟨"PushTrayModel", "swapsNow", "()I"⟩, 30) := ⟨⟨by decide +kernel, by decide +kernel⟩, List.mem_of_getElem? (i := 553) (by decide +kernel), List.mem_of_getElem? (i := 831) (by decide +kernel), List.mem_of_getElem? (i := 832) (by decide +kernel)⟩
theorem lw_p43 : lw_okq (⟨"PushTrayModel", "cheapNow", "(I)I"⟩, 30) := ⟨⟨by decide +kernel, by decide +kernel⟩, List.mem_of_getElem? (i := 553) (by decide +kernel), List.mem_of_getElem? (i := 839) (by decide +kernel), List.mem_of_getElem? (i := 840) (by decide +kernel)⟩
theorem lw_p44 : lw_okq (⟨"PushTrayModel", "oddsNow", "(IIII)I"⟩, 30) := ⟨⟨by decide +kernel, by decide +kernel⟩, List.mem_of_getElem? (i := 553) (by decide +kernel), List.mem_of_getElem? (i := 847) (by decide +kernel), List.mem_of_getElem? (i := 848) (by decide +kernel)⟩
theorem lw_p45 : lw_okq (⟨"PushTrayModel", "layParts", "(I)V"⟩, 30) := ⟨⟨by decide +kernel, by decide +kernel⟩, List.mem_of_getElem? (i := 553) (by decide +kernel), List.mem_of_getElem? (i := 851) (by decide +kernel), List.mem_of_getElem? (i := 852) (by decide +kernel)⟩
theorem lw_p46 : lw_okq (⟨"PushTrayModel", "drawPush", "(I)V"⟩, 30) := ⟨⟨by decide +kernel, by decide +kernel⟩, List.mem_of_getElem? (i := 553) (by decide +kernel), List.mem_of_getElem? (i := 855) (by decide +kernel), List.mem_of_getElem? (i := 856) (by decide +kernel)⟩
theorem lw_p47 : lw_okq (⟨"PushTrayModel", "runsNow", "(III)I"⟩, 30) := ⟨⟨by decide +kernel, by decide +kernel⟩, List.mem_of_getElem? (i := 553) (by decide +kernel), List.mem_of_getElem? (i := 877) (by decide +kernel), List.mem_of_getElem? (i := 878) (by decide +kernel)⟩
def lw_privs_3 : List (MethodName × Nat) := [(⟨"PushTrayModel", "homeNow", "(II)I"⟩, 30), (⟨"PushTrayModel", "layCosts", "(I)I"⟩, 30), (⟨"PushTrayModel", "comeFrom", "(II)V"⟩, 30), (⟨"PushTrayModel", "mayBePushed", "(I)I"⟩, 30), (⟨"PushTrayModel", "isCell", "(I)Z"⟩, 30), (⟨"PushTrayModel", "cellNow", "(II)I"⟩, 30), (⟨"PushTrayModel", "leastNow", "(I)I"⟩, 30), (⟨"PushTrayModel", "costOf", "(I)I"⟩, 30), (⟨"PushTrayModel", "firstOf", "(I)I"⟩, 30), (⟨"PushTrayModel", "reachNow", "(I)I"⟩, 30), (⟨"PushTrayModel", "swapsNow", "()I"⟩, 30), (⟨"PushTrayModel", "cheapNow", "(I)I"⟩, 30), (⟨"PushTrayModel", "oddsNow", "(IIII)I"⟩, 30), (⟨"PushTrayModel", "layParts", "(I)V"⟩, 30), (⟨"PushTrayModel", "drawPush", "(I)V"⟩, 30), (⟨"PushTrayModel", "runsNow", "(III)I"⟩, 30)]
theorem lw_r3 : ∀ q ∈ lw_privs_3, lw_okq q := List.forall_mem_cons.mpr ⟨lw_p32, List.forall_mem_cons.mpr ⟨lw_p33, List.forall_mem_cons.mpr ⟨lw_p34, List.forall_mem_cons.mpr ⟨lw_p35, List.forall_mem_cons.mpr ⟨lw_p36, List.forall_mem_cons.mpr ⟨lw_p37, List.forall_mem_cons.mpr ⟨lw_p38, List.forall_mem_cons.mpr ⟨lw_p39, List.forall_mem_cons.mpr ⟨lw_p40, List.forall_mem_cons.mpr ⟨lw_p41, List.forall_mem_cons.mpr ⟨lw_p42, List.forall_mem_cons.mpr ⟨lw_p43, List.forall_mem_cons.mpr ⟨lw_p44, List.forall_mem_cons.mpr ⟨lw_p45, List.forall_mem_cons.mpr ⟨lw_p46, List.forall_mem_cons.mpr ⟨lw_p47, fun _ h => absurd h List.not_mem_nil⟩⟩⟩⟩⟩⟩⟩⟩⟩⟩⟩⟩⟩⟩⟩⟩
theorem lw_p48 : lw_okq (⟨"PushTrayModel", "draw", "(I)I"⟩, 30) := ⟨⟨by decide +kernel, by decide +kernel⟩, List.mem_of_getElem? (i := 553) (by decide +kernel), List.mem_of_getElem? (i := 881) (by decide +kernel), List.mem_of_getElem? (i := 882) (by decide +kernel)⟩
theorem lw_p49 : lw_okq (⟨"PushTrayModel", "alikeIn", "(I)I"⟩, 30) := ⟨⟨by decide +kernel, by decide +kernel⟩, List.mem_of_getElem? (i := 553) (by decide +kernel), List.mem_of_getElem? (i := 892) (by decide +kernel), List.mem_of_getElem? (i := 893) (by decide +kernel)⟩
theorem lw_p50 : lw_okq (⟨"PushTrayModel", "howMany", "(I)I"⟩, 30) := ⟨⟨by decide +kernel, by decide +kernel⟩, List.mem_of_getElem? (i := 553) (by decide +kernel), List.mem_of_getElem? (i := 908) (by decide +kernel), List.mem_of_getElem? (i := 909) (by decide +kernel)⟩
theorem lw_p51 : lw_okq (⟨"PushTrayModel", "ofTray", "(I)I"⟩, 30) := ⟨⟨by decide +kernel, by decide +kernel⟩, List.mem_of_getElem? (i := 553) (by decide +kernel), List.mem_of_getElem? (i := 912) (by decide +kernel), List.mem_of_getElem? (i := 913) (by decide +kernel)⟩
theorem lw_p52 : lw_okq (⟨"PushTrayModel", "mixTray", "()V"⟩, 30) := ⟨⟨by decide +kernel, by decide +kernel⟩, List.mem_of_getElem? (i := 553) (by decide +kernel), List.mem_of_getElem? (i := 921) (by decide +kernel), List.mem_of_getElem? (i := 922) (by decide +kernel)⟩
theorem lw_p53 : lw_okq (⟨"PushTrayModel", "mix", "(J)V"⟩, 30) := ⟨⟨by decide +kernel, by decide +kernel⟩, List.mem_of_getElem? (i := 553) (by decide +kernel), List.mem_of_getElem? (i := 925) (by decide +kernel), List.mem_of_getElem? (i := 926) (by decide +kernel)⟩
def lw_privs_4 : List (MethodName × Nat) := [(⟨"PushTrayModel", "draw", "(I)I"⟩, 30), (⟨"PushTrayModel", "alikeIn", "(I)I"⟩, 30), (⟨"PushTrayModel", "howMany", "(I)I"⟩, 30), (⟨"PushTrayModel", "ofTray", "(I)I"⟩, 30), (⟨"PushTrayModel", "mixTray", "()V"⟩, 30), (⟨"PushTrayModel", "mix", "(J)V"⟩, 30)]
theorem lw_r4 : ∀ q ∈ lw_privs_4, lw_okq q := List.forall_mem_cons.mpr ⟨lw_p48, List.forall_mem_cons.mpr ⟨lw_p49, List.forall_mem_cons.mpr ⟨lw_p50, List.forall_mem_cons.mpr ⟨lw_p51, List.forall_mem_cons.mpr ⟨lw_p52, List.forall_mem_cons.mpr ⟨lw_p53, fun _ h => absurd h List.not_mem_nil⟩⟩⟩⟩⟩⟩
def lw_privs : List (MethodName × Nat) := lw_privs_1 ++ (lw_privs_2 ++ (lw_privs_3 ++ (lw_privs_4)))
def lw_tbl : List Cond := k2_sels lw_privs ++ tables_1
theorem lw_privs_ok : ∀ q ∈ lw_privs, lw_okq q := by
  show ∀ q ∈ lw_privs_1 ++ (lw_privs_2 ++ (lw_privs_3 ++ (lw_privs_4))), lw_okq q
  exact List.forall_mem_append.mpr ⟨lw_r1, List.forall_mem_append.mpr ⟨lw_r2, List.forall_mem_append.mpr ⟨lw_r3, lw_r4⟩⟩⟩
-- ===== end of PART A; then your names; then what follows =====
end
section
def RX0 : String := "PushTray$Chances"
def TX0 : u_T := fun k => match k with
  | 0 => ("PushTray$Chances", "lays", "LPushTray$Lays;", true)
  | 1 => ("PushTray$Chances", "parts", "[I", false)
  | 2 => ("PushTray$Chances", "nextParts", "[I", false)
  | 3 => ("PushTray$Chances", "start", "I", false)
  | 4 => ("PushTray$Chances", "kinds", "I", false)
  | _ => ("PushTray$Chances", "pushes", "I", false)
def tyX0 : Nat → FieldType := fun k => match k with
  | 0 => .object "PushTray$Lays"
  | 1 => .array .int
  | 2 => .array .int
  | 3 => .int
  | 4 => .int
  | _ => .int
abbrev wsX00 : List Cond := u_ws RX0 TX0 6
theorem nmX0 : ∀ a, a < 6 → ∀ b, b < 6 → a ≠ b → (TX0 a).2.1 ≠ (TX0 b).2.1 := by decide +kernel
theorem tyX0_ok : ∀ k, k < 6 → parseFieldDescriptor (TX0 k).2.2.1 = some (tyX0 k) := by decide +kernel
abbrev cX0_init : ByteArray := prog_2_method_1_code
def yX0_init : MethodName := ⟨RX0, "<init>", "(LPushTray$Lays;)V"⟩
abbrev cX0_drawFrom : ByteArray := prog_2_method_2_code
def yX0_drawFrom : MethodName := ⟨RX0, "drawFrom", "(III)V"⟩
abbrev cX0_share : ByteArray := prog_2_method_3_code
def yX0_share : MethodName := ⟨RX0, "share", "(III)V"⟩
abbrev cX0_give : ByteArray := prog_2_method_4_code
def yX0_give : MethodName := ⟨RX0, "give", "(II)V"⟩
abbrev cX0_partsWith : ByteArray := prog_2_method_5_code
def yX0_partsWith : MethodName := ⟨RX0, "partsWith", "(II)I"⟩
def RX1 : String := "PushTray$Kind"
def TX1 : u_T := fun k => match k with
  | _ => ("", "", "", false)
def tyX1 : Nat → FieldType := fun k => match k with
  | _ => .int
abbrev wsX10 : List Cond := u_ws RX1 TX1 0
theorem nmX1 : ∀ a, a < 0 → ∀ b, b < 0 → a ≠ b → (TX1 a).2.1 ≠ (TX1 b).2.1 := by decide +kernel
theorem tyX1_ok : ∀ k, k < 0 → parseFieldDescriptor (TX1 k).2.2.1 = some (tyX1 k) := by decide +kernel
abbrev cX1_price : ByteArray := prog_3_method_4_code
def yX1_price : MethodName := ⟨RX1, "price", "(I)I"⟩
abbrev cX1_isA : ByteArray := prog_3_method_5_code
def yX1_isA : MethodName := ⟨RX1, "isA", "(I)Z"⟩
def RX2 : String := "PushTray$Lays"
def TX2 : u_T := fun k => match k with
  | 0 => ("PushTray$Lays", "signs", "[I", true)
  | 1 => ("PushTray$Lays", "places", "[I", true)
  | 2 => ("PushTray$Lays", "pushes", "[I", true)
  | 3 => ("PushTray$Lays", "ways", "[I", true)
  | _ => ("PushTray$Lays", "row", "[I", true)
def tyX2 : Nat → FieldType := fun k => match k with
  | 0 => .array .int
  | 1 => .array .int
  | 2 => .array .int
  | 3 => .array .int
  | _ => .array .int
abbrev wsX20 : List Cond := u_ws RX2 TX2 5
theorem nmX2 : ∀ a, a < 5 → ∀ b, b < 5 → a ≠ b → (TX2 a).2.1 ≠ (TX2 b).2.1 := by decide +kernel
theorem tyX2_ok : ∀ k, k < 5 → parseFieldDescriptor (TX2 k).2.2.1 = some (tyX2 k) := by decide +kernel
abbrev cX2_init : ByteArray := prog_4_method_1_code
def yX2_init : MethodName := ⟨RX2, "<init>", "()V"⟩
abbrev cX2_numberOf : ByteArray := prog_4_method_2_code
def yX2_numberOf : MethodName := ⟨RX2, "numberOf", "([I)I"⟩
abbrev cX2_spell : ByteArray := prog_4_method_3_code
def yX2_spell : MethodName := ⟨RX2, "spell", "(I)V"⟩
abbrev cX2_leftSign : ByteArray := prog_4_method_4_code
def yX2_leftSign : MethodName := ⟨RX2, "leftSign", "(II)I"⟩
abbrev cX2_link : ByteArray := prog_4_method_5_code
def yX2_link : MethodName := ⟨RX2, "link", "(I)V"⟩
abbrev cX2_read : ByteArray := prog_4_method_6_code
def yX2_read : MethodName := ⟨RX2, "read", "([III)I"⟩
abbrev cX2_sign : ByteArray := prog_4_method_7_code
def yX2_sign : MethodName := ⟨RX2, "sign", "(II)I"⟩
abbrev cX2_place : ByteArray := prog_4_method_8_code
def yX2_place : MethodName := ⟨RX2, "place", "(II)I"⟩
abbrev cX2_pushed : ByteArray := prog_4_method_9_code
def yX2_pushed : MethodName := ⟨RX2, "pushed", "(II)I"⟩
abbrev cX2_exchanged : ByteArray := prog_4_method_10_code
def yX2_exchanged : MethodName := ⟨RX2, "exchanged", "(III)I"⟩
abbrev cX2_price : ByteArray := prog_4_method_11_code
def yX2_price : MethodName := ⟨RX2, "price", "(III)I"⟩
abbrev cX2_choices : ByteArray := prog_4_method_12_code
def yX2_choices : MethodName := ⟨RX2, "choices", "(II)I"⟩
abbrev cX2_choice : ByteArray := prog_4_method_13_code
def yX2_choice : MethodName := ⟨RX2, "choice", "(III)I"⟩
def RX3 : String := "PushTray$Spread"
def TX3 : u_T := fun k => match k with
  | 0 => ("PushTray$Spread", "lays", "LPushTray$Lays;", true)
  | 1 => ("PushTray$Spread", "costs", "[I", true)
  | 2 => ("PushTray$Spread", "found", "[I", true)
  | 3 => ("PushTray$Spread", "size", "I", false)
  | 4 => ("PushTray$Spread", "most", "I", false)
  | 5 => ("PushTray$Spread", "start", "I", false)
  | _ => ("PushTray$Spread", "kinds", "I", false)
def tyX3 : Nat → FieldType := fun k => match k with
  | 0 => .object "PushTray$Lays"
  | 1 => .array .int
  | 2 => .array .int
  | 3 => .int
  | 4 => .int
  | 5 => .int
  | _ => .int
abbrev wsX30 : List Cond := u_ws RX3 TX3 7
theorem nmX3 : ∀ a, a < 7 → ∀ b, b < 7 → a ≠ b → (TX3 a).2.1 ≠ (TX3 b).2.1 := by decide +kernel
theorem tyX3_ok : ∀ k, k < 7 → parseFieldDescriptor (TX3 k).2.2.1 = some (tyX3 k) := by decide +kernel
abbrev cX3_init : ByteArray := prog_5_method_1_code
def yX3_init : MethodName := ⟨RX3, "<init>", "(LPushTray$Lays;)V"⟩
abbrev cX3_searchFrom : ByteArray := prog_5_method_2_code
def yX3_searchFrom : MethodName := ⟨RX3, "searchFrom", "(II)V"⟩
abbrev cX3_noteNeighbours : ByteArray := prog_5_method_3_code
def yX3_noteNeighbours : MethodName := ⟨RX3, "noteNeighbours", "(II)V"⟩
abbrev cX3_note : ByteArray := prog_5_method_4_code
def yX3_note : MethodName := ⟨RX3, "note", "(II)V"⟩
abbrev cX3_costOf : ByteArray := prog_5_method_5_code
def yX3_costOf : MethodName := ⟨RX3, "costOf", "(I)I"⟩
abbrev cX3_size : ByteArray := prog_5_method_6_code
def yX3_size : MethodName := ⟨RX3, "size", "()I"⟩
abbrev cX3_farthest : ByteArray := prog_5_method_7_code
def yX3_farthest : MethodName := ⟨RX3, "farthest", "()I"⟩
abbrev cX3_leastWith : ByteArray := prog_5_method_8_code
def yX3_leastWith : MethodName := ⟨RX3, "leastWith", "(II)I"⟩
def RX4 : String := "PushTray$Standing"
def TX4 : u_T := fun k => match k with
  | 0 => ("PushTray$Standing", "lay", "I", false)
  | 1 => ("PushTray$Standing", "goal", "I", false)
  | 2 => ("PushTray$Standing", "kinds", "I", false)
  | 3 => ("PushTray$Standing", "pushes", "I", false)
  | 4 => ("PushTray$Standing", "costs", "I", false)
  | 5 => ("PushTray$Standing", "seen", "I", false)
  | _ => ("PushTray$Standing", "sorts", "[I", true)
def tyX4 : Nat → FieldType := fun k => match k with
  | 0 => .int
  | 1 => .int
  | 2 => .int
  | 3 => .int
  | 4 => .int
  | 5 => .int
  | _ => .array .int
abbrev wsX40 : List Cond := u_ws RX4 TX4 7
theorem nmX4 : ∀ a, a < 7 → ∀ b, b < 7 → a ≠ b → (TX4 a).2.1 ≠ (TX4 b).2.1 := by decide +kernel
theorem tyX4_ok : ∀ k, k < 7 → parseFieldDescriptor (TX4 k).2.2.1 = some (tyX4 k) := by decide +kernel
abbrev cX4_init : ByteArray := prog_6_method_1_code
def yX4_init : MethodName := ⟨RX4, "<init>", "()V"⟩
abbrev cX4_start : ByteArray := prog_6_method_2_code
def yX4_start : MethodName := ⟨RX4, "start", "(III)V"⟩
abbrev cX4_forgetSeen : ByteArray := prog_6_method_3_code
def yX4_forgetSeen : MethodName := ⟨RX4, "forgetSeen", "()V"⟩
abbrev cX4_narrow : ByteArray := prog_6_method_4_code
def yX4_narrow : MethodName := ⟨RX4, "narrow", "(II)V"⟩
abbrev cX4_sortsOf : ByteArray := prog_6_method_5_code
def yX4_sortsOf : MethodName := ⟨RX4, "sortsOf", "(I)I"⟩
abbrev cX4_copy : ByteArray := prog_6_method_6_code
def yX4_copy : MethodName := ⟨RX4, "copy", "(LPushTray$Standing;)V"⟩
def RX5 : String := "PushTray"
def TX5 : u_T := fun k => match k with
  | 0 => ("PushTray", "lays", "LPushTray$Lays;", true)
  | 1 => ("PushTray", "fromHere", "LPushTray$Spread;", true)
  | 2 => ("PushTray", "fromGoal", "LPushTray$Spread;", true)
  | 3 => ("PushTray", "chances", "LPushTray$Chances;", true)
  | 4 => ("PushTray", "now", "LPushTray$Standing;", true)
  | 5 => ("PushTray", "kept", "LPushTray$Standing;", true)
  | 6 => ("PushTray", "page", "[I", true)
  | 7 => ("PushTray", "row", "[I", true)
  | 8 => ("PushTray", "letters", "I", false)
  | 9 => ("PushTray", "traysRead", "I", false)
  | 10 => ("PushTray", "cheapsDone", "I", false)
  | _ => ("PushTray", "imageIsKept", "Z", false)
def tyX5 : Nat → FieldType := fun k => match k with
  | 0 => .object "PushTray$Lays"
  | 1 => .object "PushTray$Spread"
  | 2 => .object "PushTray$Spread"
  | 3 => .object "PushTray$Chances"
  | 4 => .object "PushTray$Standing"
  | 5 => .object "PushTray$Standing"
  | 6 => .array .int
  | 7 => .array .int
  | 8 => .int
  | 9 => .int
  | 10 => .int
  | _ => .boolean
abbrev wsX50 : List Cond := u_ws RX5 TX5 12
theorem nmX5 : ∀ a, a < 12 → ∀ b, b < 12 → a ≠ b → (TX5 a).2.1 ≠ (TX5 b).2.1 := by decide +kernel
theorem tyX5_ok : ∀ k, k < 12 → parseFieldDescriptor (TX5 k).2.2.1 = some (tyX5 k) := by decide +kernel
abbrev cX5_init : ByteArray := prog_1_method_1_code
def yX5_init : MethodName := ⟨RX5, "<init>", "()V"⟩
abbrev cX5_letter : ByteArray := prog_1_method_2_code
def yX5_letter : MethodName := ⟨RX5, "letter", "(I)I"⟩
abbrev cX5_blank : ByteArray := prog_1_method_3_code
def yX5_blank : MethodName := ⟨RX5, "blank", "()I"⟩
abbrev cX5_fault : ByteArray := prog_1_method_4_code
def yX5_fault : MethodName := ⟨RX5, "fault", "()I"⟩
abbrev cX5_tray : ByteArray := prog_1_method_5_code
def yX5_tray : MethodName := ⟨RX5, "tray", "()I"⟩
abbrev cX5_tile : ByteArray := prog_1_method_6_code
def yX5_tile : MethodName := ⟨RX5, "tile", "(II)I"⟩
abbrev cX5_as : ByteArray := prog_1_method_7_code
def yX5_as : MethodName := ⟨RX5, "as", "(II)I"⟩
abbrev cX5_cell : ByteArray := prog_1_method_8_code
def yX5_cell : MethodName := ⟨RX5, "cell", "(II)I"⟩
abbrev cX5_push : ByteArray := prog_1_method_9_code
def yX5_push : MethodName := ⟨RX5, "push", "(I)I"⟩
abbrev cX5_exchange : ByteArray := prog_1_method_10_code
def yX5_exchange : MethodName := ⟨RX5, "exchange", "(II)I"⟩
abbrev cX5_aim : ByteArray := prog_1_method_11_code
def yX5_aim : MethodName := ⟨RX5, "aim", "(II)I"⟩
abbrev cX5_recast : ByteArray := prog_1_method_12_code
def yX5_recast : MethodName := ⟨RX5, "recast", "(II)I"⟩
abbrev cX5_least : ByteArray := prog_1_method_13_code
def yX5_least : MethodName := ⟨RX5, "least", "(I)I"⟩
abbrev cX5_reach : ByteArray := prog_1_method_14_code
def yX5_reach : MethodName := ⟨RX5, "reach", "(I)I"⟩
abbrev cX5_home : ByteArray := prog_1_method_15_code
def yX5_home : MethodName := ⟨RX5, "home", "(II)I"⟩
abbrev cX5_swaps : ByteArray := prog_1_method_16_code
def yX5_swaps : MethodName := ⟨RX5, "swaps", "()I"⟩
abbrev cX5_cheap : ByteArray := prog_1_method_17_code
def yX5_cheap : MethodName := ⟨RX5, "cheap", "(I)I"⟩
abbrev cX5_odds : ByteArray := prog_1_method_18_code
def yX5_odds : MethodName := ⟨RX5, "odds", "(IIII)I"⟩
abbrev cX5_see : ByteArray := prog_1_method_19_code
def yX5_see : MethodName := ⟨RX5, "see", "(III)I"⟩
abbrev cX5_forget : ByteArray := prog_1_method_20_code
def yX5_forget : MethodName := ⟨RX5, "forget", "()I"⟩
abbrev cX5_runs : ByteArray := prog_1_method_21_code
def yX5_runs : MethodName := ⟨RX5, "runs", "(III)I"⟩
abbrev cX5_image : ByteArray := prog_1_method_22_code
def yX5_image : MethodName := ⟨RX5, "image", "()I"⟩
abbrev cX5_restore : ByteArray := prog_1_method_23_code
def yX5_restore : MethodName := ⟨RX5, "restore", "()I"⟩
abbrev cX5_count : ByteArray := prog_1_method_24_code
def yX5_count : MethodName := ⟨RX5, "count", "(I)I"⟩
abbrev cX5_digest : ByteArray := prog_1_method_25_code
def yX5_digest : MethodName := ⟨RX5, "digest", "()J"⟩
abbrev cX5_mixTiles : ByteArray := prog_1_method_26_code
def yX5_mixTiles : MethodName := ⟨RX5, "mixTiles", "(J)J"⟩
abbrev cX5_mixCells : ByteArray := prog_1_method_27_code
def yX5_mixCells : MethodName := ⟨RX5, "mixCells", "(J)J"⟩
abbrev cX5_mixCosts : ByteArray := prog_1_method_28_code
def yX5_mixCosts : MethodName := ⟨RX5, "mixCosts", "(J)J"⟩
abbrev cX5_mix : ByteArray := prog_1_method_29_code
def yX5_mix : MethodName := ⟨RX5, "mix", "(JJ)J"⟩
abbrev cX5_isWithin : ByteArray := prog_1_method_30_code
def yX5_isWithin : MethodName := ⟨RX5, "isWithin", "(III)Z"⟩
abbrev cX5_isKind : ByteArray := prog_1_method_31_code
def yX5_isKind : MethodName := ⟨RX5, "isKind", "(I)Z"⟩
abbrev cX5_hasTray : ByteArray := prog_1_method_32_code
def yX5_hasTray : MethodName := ⟨RX5, "hasTray", "()Z"⟩
abbrev cX5_isTile : ByteArray := prog_1_method_33_code
def yX5_isTile : MethodName := ⟨RX5, "isTile", "(I)Z"⟩
abbrev cX5_isCell : ByteArray := prog_1_method_34_code
def yX5_isCell : MethodName := ⟨RX5, "isCell", "(I)Z"⟩
abbrev cX5_tileOrNone : ByteArray := prog_1_method_35_code
def yX5_tileOrNone : MethodName := ⟨RX5, "tileOrNone", "(I)I"⟩
abbrev cX5_areNext : ByteArray := prog_1_method_36_code
def yX5_areNext : MethodName := ⟨RX5, "areNext", "(II)Z"⟩
abbrev cX5_isOneRow : ByteArray := prog_1_method_37_code
def yX5_isOneRow : MethodName := ⟨RX5, "isOneRow", "(II)Z"⟩
abbrev cX5_kindOf : ByteArray := prog_1_method_38_code
def yX5_kindOf : MethodName := ⟨RX5, "kindOf", "(II)I"⟩
abbrev cX5_withKind : ByteArray := prog_1_method_39_code
def yX5_withKind : MethodName := ⟨RX5, "withKind", "(III)I"⟩
abbrev cX5_kindByLetter : ByteArray := prog_1_method_40_code
def yX5_kindByLetter : MethodName := ⟨RX5, "kindByLetter", "(I)I"⟩
abbrev cX5_firstWrongPlace : ByteArray := prog_1_method_41_code
def yX5_firstWrongPlace : MethodName := ⟨RX5, "firstWrongPlace", "()I"⟩
abbrev cX5_fits : ByteArray := prog_1_method_42_code
def yX5_fits : MethodName := ⟨RX5, "fits", "(I)Z"⟩
abbrev cX5_isNewSign : ByteArray := prog_1_method_43_code
def yX5_isNewSign : MethodName := ⟨RX5, "isNewSign", "(II)Z"⟩
abbrev cX5_codeAt : ByteArray := prog_1_method_44_code
def yX5_codeAt : MethodName := ⟨RX5, "codeAt", "(I)I"⟩
abbrev cX5_signByLetter : ByteArray := prog_1_method_45_code
def yX5_signByLetter : MethodName := ⟨RX5, "signByLetter", "(I)I"⟩
abbrev cX5_readLay : ByteArray := prog_1_method_46_code
def yX5_readLay : MethodName := ⟨RX5, "readLay", "(I)I"⟩
abbrev cX5_readKinds : ByteArray := prog_1_method_47_code
def yX5_readKinds : MethodName := ⟨RX5, "readKinds", "()I"⟩
abbrev cX5_cheapestTile : ByteArray := prog_1_method_48_code
def yX5_cheapestTile : MethodName := ⟨RX5, "cheapestTile", "(I)I"⟩
abbrev cX5_pushesToGoal : ByteArray := prog_1_method_49_code
def yX5_pushesToGoal : MethodName := ⟨RX5, "pushesToGoal", "()I"⟩
abbrev cX5_circles : ByteArray := prog_1_method_50_code
def yX5_circles : MethodName := ⟨RX5, "circles", "()I"⟩
abbrev cX5_cellsAlike : ByteArray := prog_1_method_51_code
def yX5_cellsAlike : MethodName := ⟨RX5, "cellsAlike", "(II)I"⟩
abbrev cX5_sortsThatCost : ByteArray := prog_1_method_52_code
def yX5_sortsThatCost : MethodName := ⟨RX5, "sortsThatCost", "(II)I"⟩
abbrev cX5_bestWay : ByteArray := prog_1_method_53_code
def yX5_bestWay : MethodName := ⟨RX5, "bestWay", "(I)I"⟩
abbrev cX5_mostLeft : ByteArray := prog_1_method_54_code
def yX5_mostLeft : MethodName := ⟨RX5, "mostLeft", "(II)I"⟩
abbrev cX5_nextSeed : ByteArray := prog_1_method_55_code
def yX5_nextSeed : MethodName := ⟨RX5, "nextSeed", "(I)I"⟩
abbrev cX5_greatestDivisor : ByteArray := prog_1_method_56_code
def yX5_greatestDivisor : MethodName := ⟨RX5, "greatestDivisor", "(II)I"⟩
def RX6 : String := "PushTrayModel"
def TX6 : u_T := fun k => match k with
  | 0 => ("PushTrayModel", "trays", "I", false)
  | 1 => ("PushTrayModel", "lies", "I", false)
  | 2 => ("PushTrayModel", "goal", "I", false)
  | 3 => ("PushTrayModel", "kindOf", "[I", true)
  | 4 => ("PushTrayModel", "pushes", "I", false)
  | 5 => ("PushTrayModel", "costs", "I", false)
  | 6 => ("PushTrayModel", "asks", "I", false)
  | 7 => ("PushTrayModel", "seen", "I", false)
  | 8 => ("PushTrayModel", "seenTile", "[I", true)
  | 9 => ("PushTrayModel", "seenWay", "[I", true)
  | 10 => ("PushTrayModel", "seenCost", "[I", true)
  | 11 => ("PushTrayModel", "pageLength", "I", false)
  | 12 => ("PushTrayModel", "page", "[B", true)
  | 13 => ("PushTrayModel", "isWhole", "Z", false)
  | 14 => ("PushTrayModel", "costTo", "[I", true)
  | 15 => ("PushTrayModel", "partsOf", "[I", true)
  | 16 => ("PushTrayModel", "partsNext", "[I", true)
  | 17 => ("PushTrayModel", "seedNow", "J", false)
  | 18 => ("PushTrayModel", "isKept", "Z", false)
  | 19 => ("PushTrayModel", "keptTray", "I", false)
  | 20 => ("PushTrayModel", "keptLies", "I", false)
  | 21 => ("PushTrayModel", "keptGoal", "I", false)
  | 22 => ("PushTrayModel", "keptPushes", "I", false)
  | 23 => ("PushTrayModel", "keptCosts", "I", false)
  | 24 => ("PushTrayModel", "keptSeen", "I", false)
  | 25 => ("PushTrayModel", "keptKind", "[I", true)
  | 26 => ("PushTrayModel", "keptTile", "[I", true)
  | 27 => ("PushTrayModel", "keptWay", "[I", true)
  | 28 => ("PushTrayModel", "keptCost", "[I", true)
  | _ => ("PushTrayModel", "h", "J", false)
def tyX6 : Nat → FieldType := fun k => match k with
  | 0 => .int
  | 1 => .int
  | 2 => .int
  | 3 => .array .int
  | 4 => .int
  | 5 => .int
  | 6 => .int
  | 7 => .int
  | 8 => .array .int
  | 9 => .array .int
  | 10 => .array .int
  | 11 => .int
  | 12 => .array .byte
  | 13 => .boolean
  | 14 => .array .int
  | 15 => .array .int
  | 16 => .array .int
  | 17 => .long
  | 18 => .boolean
  | 19 => .int
  | 20 => .int
  | 21 => .int
  | 22 => .int
  | 23 => .int
  | 24 => .int
  | 25 => .array .int
  | 26 => .array .int
  | 27 => .array .int
  | 28 => .array .int
  | _ => .long
abbrev wsX60 : List Cond := u_ws RX6 TX6 30
theorem nmX6 : ∀ a, a < 30 → ∀ b, b < 30 → a ≠ b → (TX6 a).2.1 ≠ (TX6 b).2.1 := by decide +kernel
theorem tyX6_ok : ∀ k, k < 30 → parseFieldDescriptor (TX6 k).2.2.1 = some (tyX6 k) := by decide +kernel
abbrev cX6_init : ByteArray := prog_8_method_1_code
def yX6_init : MethodName := ⟨RX6, "<init>", "()V"⟩
abbrev cX6_within : ByteArray := prog_8_method_3_code
def yX6_within : MethodName := ⟨RX6, "within", "(III)Z"⟩
abbrev cX6_isIn : ByteArray := prog_8_method_4_code
def yX6_isIn : MethodName := ⟨RX6, "isIn", "(II)Z"⟩
abbrev cX6_size : ByteArray := prog_8_method_5_code
def yX6_size : MethodName := ⟨RX6, "size", "(I)I"⟩
abbrev cX6_divisor : ByteArray := prog_8_method_6_code
def yX6_divisor : MethodName := ⟨RX6, "divisor", "(II)I"⟩
abbrev cX6_letter : ByteArray := prog_8_method_7_code
def yX6_letter : MethodName := ⟨RX6, "letter", "(I)I"⟩
abbrev cX6_blank : ByteArray := prog_8_method_8_code
def yX6_blank : MethodName := ⟨RX6, "blank", "()I"⟩
abbrev cX6_kindBy : ByteArray := prog_8_method_9_code
def yX6_kindBy : MethodName := ⟨RX6, "kindBy", "(I)I"⟩
abbrev cX6_at : ByteArray := prog_8_method_10_code
def yX6_at : MethodName := ⟨RX6, "at", "(I)I"⟩
abbrev cX6_signAt : ByteArray := prog_8_method_11_code
def yX6_signAt : MethodName := ⟨RX6, "signAt", "(I)I"⟩
abbrev cX6_readCells : ByteArray := prog_8_method_12_code
def yX6_readCells : MethodName := ⟨RX6, "readCells", "(I)I"⟩
abbrev cX6_read : ByteArray := prog_8_method_13_code
def yX6_read : MethodName := ⟨RX6, "read", "()I"⟩
abbrev cX6_fault : ByteArray := prog_8_method_14_code
def yX6_fault : MethodName := ⟨RX6, "fault", "()I"⟩
abbrev cX6_cellsAt : ByteArray := prog_8_method_15_code
def yX6_cellsAt : MethodName := ⟨RX6, "cellsAt", "(I)I"⟩
abbrev cX6_tray : ByteArray := prog_8_method_16_code
def yX6_tray : MethodName := ⟨RX6, "tray", "()I"⟩
abbrev cX6_isTile : ByteArray := prog_8_method_17_code
def yX6_isTile : MethodName := ⟨RX6, "isTile", "(I)Z"⟩
abbrev cX6_isCell : ByteArray := prog_8_method_18_code
def yX6_isCell : MethodName := ⟨RX6, "isCell", "(I)Z"⟩
abbrev cX6_isAt : ByteArray := prog_8_method_19_code
def yX6_isAt : MethodName := ⟨RX6, "isAt", "(II)I"⟩
abbrev cX6_whereIs : ByteArray := prog_8_method_20_code
def yX6_whereIs : MethodName := ⟨RX6, "whereIs", "(II)I"⟩
abbrev cX6_exchanged : ByteArray := prog_8_method_21_code
def yX6_exchanged : MethodName := ⟨RX6, "exchanged", "(III)I"⟩
abbrev cX6_sameRow : ByteArray := prog_8_method_22_code
def yX6_sameRow : MethodName := ⟨RX6, "sameRow", "(II)Z"⟩
abbrev cX6_areNext : ByteArray := prog_8_method_23_code
def yX6_areNext : MethodName := ⟨RX6, "areNext", "(II)Z"⟩
abbrev cX6_costBy : ByteArray := prog_8_method_24_code
def yX6_costBy : MethodName := ⟨RX6, "costBy", "(II)I"⟩
abbrev cX6_costIn : ByteArray := prog_8_method_25_code
def yX6_costIn : MethodName := ⟨RX6, "costIn", "(II)I"⟩
abbrev cX6_pushed : ByteArray := prog_8_method_26_code
def yX6_pushed : MethodName := ⟨RX6, "pushed", "(II)I"⟩
abbrev cX6_mayBePushed : ByteArray := prog_8_method_27_code
def yX6_mayBePushed : MethodName := ⟨RX6, "mayBePushed", "(I)I"⟩
abbrev cX6_tileNow : ByteArray := prog_8_method_28_code
def yX6_tileNow : MethodName := ⟨RX6, "tileNow", "(II)I"⟩
abbrev cX6_tile : ByteArray := prog_8_method_29_code
def yX6_tile : MethodName := ⟨RX6, "tile", "(II)I"⟩
abbrev cX6_as : ByteArray := prog_8_method_30_code
def yX6_as : MethodName := ⟨RX6, "as", "(II)I"⟩
abbrev cX6_cellNow : ByteArray := prog_8_method_31_code
def yX6_cellNow : MethodName := ⟨RX6, "cellNow", "(II)I"⟩
abbrev cX6_cell : ByteArray := prog_8_method_32_code
def yX6_cell : MethodName := ⟨RX6, "cell", "(II)I"⟩
abbrev cX6_push : ByteArray := prog_8_method_33_code
def yX6_push : MethodName := ⟨RX6, "push", "(I)I"⟩
abbrev cX6_exchange : ByteArray := prog_8_method_34_code
def yX6_exchange : MethodName := ⟨RX6, "exchange", "(II)I"⟩
abbrev cX6_aim : ByteArray := prog_8_method_35_code
def yX6_aim : MethodName := ⟨RX6, "aim", "(II)I"⟩
abbrev cX6_recast : ByteArray := prog_8_method_36_code
def yX6_recast : MethodName := ⟨RX6, "recast", "(II)I"⟩
abbrev cX6_rankOf : ByteArray := prog_8_method_37_code
def yX6_rankOf : MethodName := ⟨RX6, "rankOf", "(I)I"⟩
abbrev cX6_trayOf : ByteArray := prog_8_method_38_code
def yX6_trayOf : MethodName := ⟨RX6, "trayOf", "(I)I"⟩
abbrev cX6_comeFrom : ByteArray := prog_8_method_39_code
def yX6_comeFrom : MethodName := ⟨RX6, "comeFrom", "(II)V"⟩
abbrev cX6_layCosts : ByteArray := prog_8_method_40_code
def yX6_layCosts : MethodName := ⟨RX6, "layCosts", "(I)I"⟩
abbrev cX6_costOf : ByteArray := prog_8_method_41_code
def yX6_costOf : MethodName := ⟨RX6, "costOf", "(I)I"⟩
abbrev cX6_firstOf : ByteArray := prog_8_method_42_code
def yX6_firstOf : MethodName := ⟨RX6, "firstOf", "(I)I"⟩
abbrev cX6_leastNow : ByteArray := prog_8_method_43_code
def yX6_leastNow : MethodName := ⟨RX6, "leastNow", "(I)I"⟩
abbrev cX6_least : ByteArray := prog_8_method_44_code
def yX6_least : MethodName := ⟨RX6, "least", "(I)I"⟩
abbrev cX6_reachNow : ByteArray := prog_8_method_45_code
def yX6_reachNow : MethodName := ⟨RX6, "reachNow", "(I)I"⟩
abbrev cX6_reach : ByteArray := prog_8_method_46_code
def yX6_reach : MethodName := ⟨RX6, "reach", "(I)I"⟩
abbrev cX6_homeNow : ByteArray := prog_8_method_47_code
def yX6_homeNow : MethodName := ⟨RX6, "homeNow", "(II)I"⟩
abbrev cX6_home : ByteArray := prog_8_method_48_code
def yX6_home : MethodName := ⟨RX6, "home", "(II)I"⟩
abbrev cX6_swapsNow : ByteArray := prog_8_method_49_code
def yX6_swapsNow : MethodName := ⟨RX6, "swapsNow", "()I"⟩
abbrev cX6_swaps : ByteArray := prog_8_method_50_code
def yX6_swaps : MethodName := ⟨RX6, "swaps", "()I"⟩
abbrev cX6_cheapNow : ByteArray := prog_8_method_51_code
def yX6_cheapNow : MethodName := ⟨RX6, "cheapNow", "(I)I"⟩
abbrev cX6_cheap : ByteArray := prog_8_method_52_code
def yX6_cheap : MethodName := ⟨RX6, "cheap", "(I)I"⟩
abbrev cX6_drawPush : ByteArray := prog_8_method_53_code
def yX6_drawPush : MethodName := ⟨RX6, "drawPush", "(I)V"⟩
abbrev cX6_layParts : ByteArray := prog_8_method_54_code
def yX6_layParts : MethodName := ⟨RX6, "layParts", "(I)V"⟩
abbrev cX6_oddsNow : ByteArray := prog_8_method_55_code
def yX6_oddsNow : MethodName := ⟨RX6, "oddsNow", "(IIII)I"⟩
abbrev cX6_odds : ByteArray := prog_8_method_56_code
def yX6_odds : MethodName := ⟨RX6, "odds", "(IIII)I"⟩
abbrev cX6_see : ByteArray := prog_8_method_57_code
def yX6_see : MethodName := ⟨RX6, "see", "(III)I"⟩
abbrev cX6_forget : ByteArray := prog_8_method_58_code
def yX6_forget : MethodName := ⟨RX6, "forget", "()I"⟩
abbrev cX6_sortsOf : ByteArray := prog_8_method_59_code
def yX6_sortsOf : MethodName := ⟨RX6, "sortsOf", "(I)I"⟩
abbrev cX6_worstBy : ByteArray := prog_8_method_60_code
def yX6_worstBy : MethodName := ⟨RX6, "worstBy", "(II)I"⟩
abbrev cX6_wayFor : ByteArray := prog_8_method_61_code
def yX6_wayFor : MethodName := ⟨RX6, "wayFor", "(I)I"⟩
abbrev cX6_draw : ByteArray := prog_8_method_62_code
def yX6_draw : MethodName := ⟨RX6, "draw", "(I)I"⟩
abbrev cX6_ofSet : ByteArray := prog_8_method_63_code
def yX6_ofSet : MethodName := ⟨RX6, "ofSet", "(II)I"⟩
abbrev cX6_alikeIn : ByteArray := prog_8_method_64_code
def yX6_alikeIn : MethodName := ⟨RX6, "alikeIn", "(I)I"⟩
abbrev cX6_runsNow : ByteArray := prog_8_method_65_code
def yX6_runsNow : MethodName := ⟨RX6, "runsNow", "(III)I"⟩
abbrev cX6_runs : ByteArray := prog_8_method_66_code
def yX6_runs : MethodName := ⟨RX6, "runs", "(III)I"⟩
abbrev cX6_image : ByteArray := prog_8_method_67_code
def yX6_image : MethodName := ⟨RX6, "image", "()I"⟩
abbrev cX6_restore : ByteArray := prog_8_method_68_code
def yX6_restore : MethodName := ⟨RX6, "restore", "()I"⟩
abbrev cX6_ofTray : ByteArray := prog_8_method_69_code
def yX6_ofTray : MethodName := ⟨RX6, "ofTray", "(I)I"⟩
abbrev cX6_howMany : ByteArray := prog_8_method_70_code
def yX6_howMany : MethodName := ⟨RX6, "howMany", "(I)I"⟩
abbrev cX6_count : ByteArray := prog_8_method_71_code
def yX6_count : MethodName := ⟨RX6, "count", "(I)I"⟩
abbrev cX6_mix : ByteArray := prog_8_method_72_code
def yX6_mix : MethodName := ⟨RX6, "mix", "(J)V"⟩
abbrev cX6_mixTray : ByteArray := prog_8_method_73_code
def yX6_mixTray : MethodName := ⟨RX6, "mixTray", "()V"⟩
abbrev cX6_digest : ByteArray := prog_8_method_74_code
def yX6_digest : MethodName := ⟨RX6, "digest", "()J"⟩
def RJx29ce0 : String := "java/lang/Enum"
def TJx29ce0 : u_T := fun k => match k with
  | _ => ("", "", "", false)
def tyJx29ce0 : Nat → FieldType := fun k => match k with
  | _ => .int
abbrev wsJx29ce00 : List Cond := u_ws RJx29ce0 TJx29ce0 0
theorem nmJx29ce0 : ∀ a, a < 0 → ∀ b, b < 0 → a ≠ b → (TJx29ce0 a).2.1 ≠ (TJx29ce0 b).2.1 := by decide +kernel
theorem tyJx29ce0_ok : ∀ k, k < 0 → parseFieldDescriptor (TJx29ce0 k).2.2.1 = some (tyJx29ce0 k) := by decide +kernel
def RJ6 : String := "java/lang/Integer"
def TJ6 : u_T := fun k => match k with
  | _ => ("", "", "", false)
def tyJ6 : Nat → FieldType := fun k => match k with
  | _ => .int
abbrev wsJ60 : List Cond := u_ws RJ6 TJ6 0
theorem nmJ6 : ∀ a, a < 0 → ∀ b, b < 0 → a ≠ b → (TJ6 a).2.1 ≠ (TJ6 b).2.1 := by decide +kernel
theorem tyJ6_ok : ∀ k, k < 0 → parseFieldDescriptor (TJ6 k).2.2.1 = some (tyJ6 k) := by decide +kernel
abbrev cJ6_bitCount_0f7a4 : ByteArray := prog_10_method_49_code
def yJ6_bitCount_0f7a4 : MethodName := ⟨RJ6, "bitCount", "(I)I"⟩
def RJ9 : String := "java/lang/Math"
def TJ9 : u_T := fun k => match k with
  | _ => ("", "", "", false)
def tyJ9 : Nat → FieldType := fun k => match k with
  | _ => .int
abbrev wsJ90 : List Cond := u_ws RJ9 TJ9 0
theorem nmJ9 : ∀ a, a < 0 → ∀ b, b < 0 → a ≠ b → (TJ9 a).2.1 ≠ (TJ9 b).2.1 := by decide +kernel
theorem tyJ9_ok : ∀ k, k < 0 → parseFieldDescriptor (TJ9 k).2.2.1 = some (tyJ9 k) := by decide +kernel
abbrev cJ9_abs_0f7a4 : ByteArray := prog_11_method_59_code
def yJ9_abs_0f7a4 : MethodName := ⟨RJ9, "abs", "(I)I"⟩
abbrev cJ9_max_7cf53 : ByteArray := prog_11_method_65_code
def yJ9_max_7cf53 : MethodName := ⟨RJ9, "max", "(II)I"⟩
def RJ10 : String := "java/lang/System"
def TJ10 : u_T := fun k => match k with
  | _ => ("", "", "", false)
def tyJ10 : Nat → FieldType := fun k => match k with
  | _ => .int
abbrev wsJ100 : List Cond := u_ws RJ10 TJ10 0
theorem nmJ10 : ∀ a, a < 0 → ∀ b, b < 0 → a ≠ b → (TJ10 a).2.1 ≠ (TJ10 b).2.1 := by decide +kernel
theorem tyJ10_ok : ∀ k, k < 0 → parseFieldDescriptor (TJ10 k).2.2.1 = some (tyJ10 k) := by decide +kernel
def RJ7 : String := "java/util/Arrays"
def TJ7 : u_T := fun k => match k with
  | _ => ("", "", "", false)
def tyJ7 : Nat → FieldType := fun k => match k with
  | _ => .int
abbrev wsJ70 : List Cond := u_ws RJ7 TJ7 0
theorem nmJ7 : ∀ a, a < 0 → ∀ b, b < 0 → a ≠ b → (TJ7 a).2.1 ≠ (TJ7 b).2.1 := by decide +kernel
theorem tyJ7_ok : ∀ k, k < 0 → parseFieldDescriptor (TJ7 k).2.2.1 = some (tyJ7 k) := by decide +kernel
abbrev cJ7_fill_53178 : ByteArray := prog_13_method_103_code
def yJ7_fill_53178 : MethodName := ⟨RJ7, "fill", "([II)V"⟩
def RL : String := "PushTrayLaw"
abbrev cL_law : ByteArray := code
def yL_law : MethodName := ⟨RL, "law", "([I)Z"⟩
abbrev vwCl : List vw_C := [(RX0, TX0, 6), (RX2, TX2, 5), (RX3, TX3, 7), (RX4, TX4, 7), (RX5, TX5, 12), (RX6, TX6, 30)]
end
section
def XW : List Cond := lw_tbl.filter goodWord
theorem XW_in : ∀ w ∈ XW, w ∈ lw_tbl := fun _ h => (List.mem_filter.mp h).1
theorem XW_good : ∀ w ∈ XW, (w.onTables && w.keeps) = true ∨ ∃ ty, w = .arrayClass ty := fun _ h => good_of_word (List.mem_filter.mp h).2
theorem xin0 {w : Cond} (h : w ∈ k2_sels lw_privs) (hg : goodWord w = true) : w ∈ XW := List.mem_filter.mpr ⟨List.mem_append_left _ h, hg⟩
theorem xin1 {w : Cond} (h : w ∈ tables_1_1) (hg : goodWord w = true) : w ∈ XW := List.mem_filter.mpr ⟨List.mem_append_right _ (List.mem_append_left _ h), hg⟩
theorem xin2 {w : Cond} (h : w ∈ tables_1_2) (hg : goodWord w = true) : w ∈ XW := List.mem_filter.mpr ⟨List.mem_append_right _ (List.mem_append_right _ (List.mem_append_left _ h)), hg⟩
theorem xin3 {w : Cond} (h : w ∈ tables_1_3) (hg : goodWord w = true) : w ∈ XW := List.mem_filter.mpr ⟨List.mem_append_right _ (List.mem_append_right _ (List.mem_append_right _ (List.mem_append_left _ h))), hg⟩
theorem xin4 {w : Cond} (h : w ∈ tables_1_4) (hg : goodWord w = true) : w ∈ XW := List.mem_filter.mpr ⟨List.mem_append_right _ (List.mem_append_right _ (List.mem_append_right _ (List.mem_append_right _ h))), hg⟩
def xt_1_0 : List Cond := [(Jvm.Cond.initialized "PushTrayLaw"), (Jvm.Cond.initialized "PushTray"), (Jvm.Cond.initialized "PushTray$Lays"), (Jvm.Cond.initialized "java/lang/Math"), (Jvm.Cond.initialized "java/lang/Integer"), (Jvm.Cond.initialized "PushTray$Spread"), (Jvm.Cond.initialized "PushTray$Chances"), (Jvm.Cond.initialized "PushTray$Standing"), (Jvm.Cond.initialized "PushTrayModel"), (Jvm.Cond.initialized "java/util/Arrays"), (Jvm.Cond.initialized "java/lang/System"), (Jvm.Cond.classLink "PushTrayLaw" (7 : Nat) "PushTray"), (Jvm.Cond.instantiable "PushTray" (12 : Nat)), (Jvm.Cond.methodLink "PushTrayLaw" (9 : Nat) ({ cls := "PushTray", name := "<init>", desc := "()V" } : Jvm.MethodName)), (Jvm.Cond.instanceMethod ({ cls := "PushTray", name := "<init>", desc := "()V" } : Jvm.MethodName)), (Jvm.Cond.code ({ cls := "PushTray", name := "<init>", desc := "()V" } : Jvm.MethodName) prog_1_method_1_code (1 : Nat) (Option.none : Option Jvm.ClassFile.FieldType))]
def xt_1_1 : List Cond := [(Jvm.Cond.methodLink "PushTray" (1 : Nat) ({ cls := "java/lang/Object", name := "<init>", desc := "()V" } : Jvm.MethodName)), (Jvm.Cond.instanceMethod ({ cls := "java/lang/Object", name := "<init>", desc := "()V" } : Jvm.MethodName)), (Jvm.Cond.code ({ cls := "java/lang/Object", name := "<init>", desc := "()V" } : Jvm.MethodName) object_method_1_code (1 : Nat) (Option.none : Option Jvm.ClassFile.FieldType)), (Jvm.Cond.classLink "PushTray" (7 : Nat) "PushTray$Lays"), (Jvm.Cond.instantiable "PushTray$Lays" (5 : Nat)), (Jvm.Cond.methodLink "PushTray" (9 : Nat) ({ cls := "PushTray$Lays", name := "<init>", desc := "()V" } : Jvm.MethodName)), (Jvm.Cond.instanceMethod ({ cls := "PushTray$Lays", name := "<init>", desc := "()V" } : Jvm.MethodName)), (Jvm.Cond.code ({ cls := "PushTray$Lays", name := "<init>", desc := "()V" } : Jvm.MethodName) prog_4_method_1_code (2 : Nat) (Option.none : Option Jvm.ClassFile.FieldType)), (Jvm.Cond.methodLink "PushTray$Lays" (3 : Nat) ({ cls := "java/lang/Object", name := "<init>", desc := "()V" } : Jvm.MethodName)), (Jvm.Cond.methodLink "PushTray$Lays" (27 : Nat) ({ cls := "PushTray$Lays", name := "spell", desc := "(I)V" } : Jvm.MethodName)), (Jvm.Cond.privateMethod ({ cls := "PushTray$Lays", name := "spell", desc := "(I)V" } : Jvm.MethodName)), (Jvm.Cond.instanceMethod ({ cls := "PushTray$Lays", name := "spell", desc := "(I)V" } : Jvm.MethodName)), (Jvm.Cond.code ({ cls := "PushTray$Lays", name := "spell", desc := "(I)V" } : Jvm.MethodName) prog_4_method_3_code (6 : Nat) (Option.none : Option Jvm.ClassFile.FieldType)), (Jvm.Cond.fieldLinkNest "PushTray$Lays" (34 : Nat) "PushTray" "ORDERS" "[I" "PushTray"), (Jvm.Cond.laysStatic "PushTray" "ORDERS" "[I"), (Jvm.Cond.methodLink "PushTray$Lays" (43 : Nat) ({ cls := "PushTray$Lays", name := "leftSign", desc := "(II)I" } : Jvm.MethodName))]
def xt_1_2 : List Cond := [(Jvm.Cond.static ({ cls := "PushTray$Lays", name := "leftSign", desc := "(II)I" } : Jvm.MethodName)), (Jvm.Cond.code ({ cls := "PushTray$Lays", name := "leftSign", desc := "(II)I" } : Jvm.MethodName) prog_4_method_4_code (4 : Nat) (Option.some Jvm.ClassFile.FieldType.int)), (Jvm.Cond.methodLink "PushTray$Lays" (31 : Nat) ({ cls := "PushTray$Lays", name := "link", desc := "(I)V" } : Jvm.MethodName)), (Jvm.Cond.privateMethod ({ cls := "PushTray$Lays", name := "link", desc := "(I)V" } : Jvm.MethodName)), (Jvm.Cond.instanceMethod ({ cls := "PushTray$Lays", name := "link", desc := "(I)V" } : Jvm.MethodName)), (Jvm.Cond.code ({ cls := "PushTray$Lays", name := "link", desc := "(I)V" } : Jvm.MethodName) prog_4_method_5_code (6 : Nat) (Option.none : Option Jvm.ClassFile.FieldType)), (Jvm.Cond.methodLink "PushTray$Lays" (47 : Nat) ({ cls := "PushTray$Lays", name := "place", desc := "(II)I" } : Jvm.MethodName)), (Jvm.Cond.instanceMethod ({ cls := "PushTray$Lays", name := "place", desc := "(II)I" } : Jvm.MethodName)), (Jvm.Cond.selects "PushTray$Lays" ({ cls := "PushTray$Lays", name := "place", desc := "(II)I" } : Jvm.MethodName) ({ cls := "PushTray$Lays", name := "place", desc := "(II)I" } : Jvm.MethodName)), (Jvm.Cond.code ({ cls := "PushTray$Lays", name := "place", desc := "(II)I" } : Jvm.MethodName) prog_4_method_8_code (3 : Nat) (Option.some Jvm.ClassFile.FieldType.int)), (Jvm.Cond.methodLink "PushTray$Lays" (61 : Nat) ({ cls := "PushTray$Lays", name := "read", desc := "([III)I" } : Jvm.MethodName)), (Jvm.Cond.static ({ cls := "PushTray$Lays", name := "read", desc := "([III)I" } : Jvm.MethodName)), (Jvm.Cond.code ({ cls := "PushTray$Lays", name := "read", desc := "([III)I" } : Jvm.MethodName) prog_4_method_6_code (4 : Nat) (Option.some Jvm.ClassFile.FieldType.int)), (Jvm.Cond.methodLinkNest "PushTray$Lays" (50 : Nat) ({ cls := "PushTray", name := "areNext", desc := "(II)Z" } : Jvm.MethodName) "PushTray"), (Jvm.Cond.static ({ cls := "PushTray", name := "areNext", desc := "(II)Z" } : Jvm.MethodName)), (Jvm.Cond.code ({ cls := "PushTray", name := "areNext", desc := "(II)Z" } : Jvm.MethodName) prog_1_method_36_code (3 : Nat) (Option.some Jvm.ClassFile.FieldType.boolean))]
def xt_1_3 : List Cond := [(Jvm.Cond.methodLink "PushTray" (271 : Nat) ({ cls := "java/lang/Math", name := "abs", desc := "(I)I" } : Jvm.MethodName)), (Jvm.Cond.static ({ cls := "java/lang/Math", name := "abs", desc := "(I)I" } : Jvm.MethodName)), (Jvm.Cond.code ({ cls := "java/lang/Math", name := "abs", desc := "(I)I" } : Jvm.MethodName) prog_11_method_59_code (1 : Nat) (Option.some Jvm.ClassFile.FieldType.int)), (Jvm.Cond.methodLink "PushTray" (274 : Nat) ({ cls := "PushTray", name := "isOneRow", desc := "(II)Z" } : Jvm.MethodName)), (Jvm.Cond.static ({ cls := "PushTray", name := "isOneRow", desc := "(II)Z" } : Jvm.MethodName)), (Jvm.Cond.code ({ cls := "PushTray", name := "isOneRow", desc := "(II)Z" } : Jvm.MethodName) prog_1_method_37_code (2 : Nat) (Option.some Jvm.ClassFile.FieldType.boolean)), (Jvm.Cond.methodLink "PushTray$Lays" (54 : Nat) ({ cls := "PushTray$Lays", name := "exchanged", desc := "(III)I" } : Jvm.MethodName)), (Jvm.Cond.instanceMethod ({ cls := "PushTray$Lays", name := "exchanged", desc := "(III)I" } : Jvm.MethodName)), (Jvm.Cond.selects "PushTray$Lays" ({ cls := "PushTray$Lays", name := "exchanged", desc := "(III)I" } : Jvm.MethodName) ({ cls := "PushTray$Lays", name := "exchanged", desc := "(III)I" } : Jvm.MethodName)), (Jvm.Cond.code ({ cls := "PushTray$Lays", name := "exchanged", desc := "(III)I" } : Jvm.MethodName) prog_4_method_10_code (6 : Nat) (Option.some Jvm.ClassFile.FieldType.int)), (Jvm.Cond.methodLink "PushTray$Lays" (65 : Nat) ({ cls := "PushTray$Lays", name := "sign", desc := "(II)I" } : Jvm.MethodName)), (Jvm.Cond.instanceMethod ({ cls := "PushTray$Lays", name := "sign", desc := "(II)I" } : Jvm.MethodName)), (Jvm.Cond.selects "PushTray$Lays" ({ cls := "PushTray$Lays", name := "sign", desc := "(II)I" } : Jvm.MethodName) ({ cls := "PushTray$Lays", name := "sign", desc := "(II)I" } : Jvm.MethodName)), (Jvm.Cond.code ({ cls := "PushTray$Lays", name := "sign", desc := "(II)I" } : Jvm.MethodName) prog_4_method_7_code (3 : Nat) (Option.some Jvm.ClassFile.FieldType.int)), (Jvm.Cond.methodLink "PushTray$Lays" (68 : Nat) ({ cls := "PushTray$Lays", name := "numberOf", desc := "([I)I" } : Jvm.MethodName)), (Jvm.Cond.static ({ cls := "PushTray$Lays", name := "numberOf", desc := "([I)I" } : Jvm.MethodName))]
def xt_1_4 : List Cond := [(Jvm.Cond.code ({ cls := "PushTray$Lays", name := "numberOf", desc := "([I)I" } : Jvm.MethodName) prog_4_method_2_code (4 : Nat) (Option.some Jvm.ClassFile.FieldType.int)), (Jvm.Cond.methodLink "PushTray$Lays" (37 : Nat) ({ cls := "java/lang/Integer", name := "bitCount", desc := "(I)I" } : Jvm.MethodName)), (Jvm.Cond.static ({ cls := "java/lang/Integer", name := "bitCount", desc := "(I)I" } : Jvm.MethodName)), (Jvm.Cond.code ({ cls := "java/lang/Integer", name := "bitCount", desc := "(I)I" } : Jvm.MethodName) prog_10_method_49_code (1 : Nat) (Option.some Jvm.ClassFile.FieldType.int)), (Jvm.Cond.constant "java/lang/Integer" (265 : Nat) (1431655765 : Int32)), (Jvm.Cond.constant "java/lang/Integer" (266 : Nat) (858993459 : Int32)), (Jvm.Cond.constant "java/lang/Integer" (267 : Nat) (252645135 : Int32)), (Jvm.Cond.methodLinkNest "PushTray$Lays" (58 : Nat) ({ cls := "PushTray", name := "isOneRow", desc := "(II)Z" } : Jvm.MethodName) "PushTray"), (Jvm.Cond.fieldLink "PushTray$Lays" (9 : Nat) "PushTray$Lays" "signs" "[I"), (Jvm.Cond.fieldLink "PushTray$Lays" (15 : Nat) "PushTray$Lays" "places" "[I"), (Jvm.Cond.fieldLink "PushTray$Lays" (18 : Nat) "PushTray$Lays" "pushes" "[I"), (Jvm.Cond.fieldLink "PushTray$Lays" (21 : Nat) "PushTray$Lays" "ways" "[I"), (Jvm.Cond.fieldLink "PushTray$Lays" (24 : Nat) "PushTray$Lays" "row" "[I"), (Jvm.Cond.laysFinal "PushTray$Lays" "PushTray$Lays" "signs" "[I"), (Jvm.Cond.soleField "PushTray$Lays" "signs"), (Jvm.Cond.laysFinal "PushTray$Lays" "PushTray$Lays" "places" "[I")]
def xt_1_5 : List Cond := [(Jvm.Cond.soleField "PushTray$Lays" "places"), (Jvm.Cond.laysFinal "PushTray$Lays" "PushTray$Lays" "pushes" "[I"), (Jvm.Cond.soleField "PushTray$Lays" "pushes"), (Jvm.Cond.laysFinal "PushTray$Lays" "PushTray$Lays" "ways" "[I"), (Jvm.Cond.soleField "PushTray$Lays" "ways"), (Jvm.Cond.laysFinal "PushTray$Lays" "PushTray$Lays" "row" "[I"), (Jvm.Cond.soleField "PushTray$Lays" "row"), (Jvm.Cond.superclass "PushTray$Lays" "java/lang/Object"), (Jvm.Cond.arrayClass Jvm.ClassFile.FieldType.int), (Jvm.Cond.classLink "PushTray" (16 : Nat) "PushTray$Spread"), (Jvm.Cond.instantiable "PushTray$Spread" (7 : Nat)), (Jvm.Cond.methodLink "PushTray" (18 : Nat) ({ cls := "PushTray$Spread", name := "<init>", desc := "(LPushTray$Lays;)V" } : Jvm.MethodName)), (Jvm.Cond.instanceMethod ({ cls := "PushTray$Spread", name := "<init>", desc := "(LPushTray$Lays;)V" } : Jvm.MethodName)), (Jvm.Cond.code ({ cls := "PushTray$Spread", name := "<init>", desc := "(LPushTray$Lays;)V" } : Jvm.MethodName) prog_5_method_1_code (2 : Nat) (Option.none : Option Jvm.ClassFile.FieldType)), (Jvm.Cond.methodLink "PushTray$Spread" (3 : Nat) ({ cls := "java/lang/Object", name := "<init>", desc := "()V" } : Jvm.MethodName)), (Jvm.Cond.fieldLink "PushTray$Spread" (25 : Nat) "PushTray$Spread" "lays" "LPushTray$Lays;")]
def xt_1_6 : List Cond := [(Jvm.Cond.fieldLink "PushTray$Spread" (9 : Nat) "PushTray$Spread" "costs" "[I"), (Jvm.Cond.fieldLink "PushTray$Spread" (15 : Nat) "PushTray$Spread" "found" "[I"), (Jvm.Cond.fieldLink "PushTray$Spread" (29 : Nat) "PushTray$Spread" "size" "I"), (Jvm.Cond.fieldLink "PushTray$Spread" (32 : Nat) "PushTray$Spread" "most" "I"), (Jvm.Cond.fieldLink "PushTray$Spread" (18 : Nat) "PushTray$Spread" "start" "I"), (Jvm.Cond.fieldLink "PushTray$Spread" (22 : Nat) "PushTray$Spread" "kinds" "I"), (Jvm.Cond.laysFinal "PushTray$Spread" "PushTray$Spread" "lays" "LPushTray$Lays;"), (Jvm.Cond.soleField "PushTray$Spread" "lays"), (Jvm.Cond.laysFinal "PushTray$Spread" "PushTray$Spread" "costs" "[I"), (Jvm.Cond.soleField "PushTray$Spread" "costs"), (Jvm.Cond.laysFinal "PushTray$Spread" "PushTray$Spread" "found" "[I"), (Jvm.Cond.soleField "PushTray$Spread" "found"), (Jvm.Cond.lays "PushTray$Spread" "PushTray$Spread" "size" "I"), (Jvm.Cond.soleField "PushTray$Spread" "size"), (Jvm.Cond.lays "PushTray$Spread" "PushTray$Spread" "most" "I"), (Jvm.Cond.soleField "PushTray$Spread" "most")]
def xt_1_7 : List Cond := [(Jvm.Cond.lays "PushTray$Spread" "PushTray$Spread" "start" "I"), (Jvm.Cond.soleField "PushTray$Spread" "start"), (Jvm.Cond.lays "PushTray$Spread" "PushTray$Spread" "kinds" "I"), (Jvm.Cond.soleField "PushTray$Spread" "kinds"), (Jvm.Cond.superclass "PushTray$Spread" "java/lang/Object"), (Jvm.Cond.classLink "PushTray" (28 : Nat) "PushTray$Chances"), (Jvm.Cond.instantiable "PushTray$Chances" (6 : Nat)), (Jvm.Cond.methodLink "PushTray" (30 : Nat) ({ cls := "PushTray$Chances", name := "<init>", desc := "(LPushTray$Lays;)V" } : Jvm.MethodName)), (Jvm.Cond.instanceMethod ({ cls := "PushTray$Chances", name := "<init>", desc := "(LPushTray$Lays;)V" } : Jvm.MethodName)), (Jvm.Cond.code ({ cls := "PushTray$Chances", name := "<init>", desc := "(LPushTray$Lays;)V" } : Jvm.MethodName) prog_2_method_1_code (2 : Nat) (Option.none : Option Jvm.ClassFile.FieldType)), (Jvm.Cond.methodLink "PushTray$Chances" (3 : Nat) ({ cls := "java/lang/Object", name := "<init>", desc := "()V" } : Jvm.MethodName)), (Jvm.Cond.fieldLink "PushTray$Chances" (25 : Nat) "PushTray$Chances" "lays" "LPushTray$Lays;"), (Jvm.Cond.fieldLink "PushTray$Chances" (9 : Nat) "PushTray$Chances" "parts" "[I"), (Jvm.Cond.fieldLink "PushTray$Chances" (15 : Nat) "PushTray$Chances" "nextParts" "[I"), (Jvm.Cond.fieldLink "PushTray$Chances" (18 : Nat) "PushTray$Chances" "start" "I"), (Jvm.Cond.fieldLink "PushTray$Chances" (22 : Nat) "PushTray$Chances" "kinds" "I")]
def xt_1_8 : List Cond := [(Jvm.Cond.fieldLink "PushTray$Chances" (29 : Nat) "PushTray$Chances" "pushes" "I"), (Jvm.Cond.laysFinal "PushTray$Chances" "PushTray$Chances" "lays" "LPushTray$Lays;"), (Jvm.Cond.soleField "PushTray$Chances" "lays"), (Jvm.Cond.lays "PushTray$Chances" "PushTray$Chances" "parts" "[I"), (Jvm.Cond.soleField "PushTray$Chances" "parts"), (Jvm.Cond.lays "PushTray$Chances" "PushTray$Chances" "nextParts" "[I"), (Jvm.Cond.soleField "PushTray$Chances" "nextParts"), (Jvm.Cond.lays "PushTray$Chances" "PushTray$Chances" "start" "I"), (Jvm.Cond.soleField "PushTray$Chances" "start"), (Jvm.Cond.lays "PushTray$Chances" "PushTray$Chances" "kinds" "I"), (Jvm.Cond.soleField "PushTray$Chances" "kinds"), (Jvm.Cond.lays "PushTray$Chances" "PushTray$Chances" "pushes" "I"), (Jvm.Cond.soleField "PushTray$Chances" "pushes"), (Jvm.Cond.superclass "PushTray$Chances" "java/lang/Object"), (Jvm.Cond.classLink "PushTray" (35 : Nat) "PushTray$Standing"), (Jvm.Cond.instantiable "PushTray$Standing" (7 : Nat))]
def xt_1_9 : List Cond := [(Jvm.Cond.methodLinkNest "PushTray" (37 : Nat) ({ cls := "PushTray$Standing", name := "<init>", desc := "()V" } : Jvm.MethodName) "PushTray"), (Jvm.Cond.instanceMethod ({ cls := "PushTray$Standing", name := "<init>", desc := "()V" } : Jvm.MethodName)), (Jvm.Cond.code ({ cls := "PushTray$Standing", name := "<init>", desc := "()V" } : Jvm.MethodName) prog_6_method_1_code (1 : Nat) (Option.none : Option Jvm.ClassFile.FieldType)), (Jvm.Cond.methodLink "PushTray$Standing" (3 : Nat) ({ cls := "java/lang/Object", name := "<init>", desc := "()V" } : Jvm.MethodName)), (Jvm.Cond.fieldLink "PushTray$Standing" (9 : Nat) "PushTray$Standing" "lay" "I"), (Jvm.Cond.fieldLinkNest "PushTray" (82 : Nat) "PushTray$Standing" "lay" "I" "PushTray"), (Jvm.Cond.fieldLink "PushTray$Standing" (15 : Nat) "PushTray$Standing" "goal" "I"), (Jvm.Cond.fieldLinkNest "PushTray" (99 : Nat) "PushTray$Standing" "goal" "I" "PushTray"), (Jvm.Cond.fieldLink "PushTray$Standing" (22 : Nat) "PushTray$Standing" "kinds" "I"), (Jvm.Cond.fieldLinkNest "PushTray" (93 : Nat) "PushTray$Standing" "kinds" "I" "PushTray"), (Jvm.Cond.fieldLink "PushTray$Standing" (25 : Nat) "PushTray$Standing" "pushes" "I"), (Jvm.Cond.fieldLinkNest "PushTray" (144 : Nat) "PushTray$Standing" "pushes" "I" "PushTray"), (Jvm.Cond.fieldLink "PushTray$Standing" (28 : Nat) "PushTray$Standing" "costs" "I"), (Jvm.Cond.fieldLinkNest "PushTray" (150 : Nat) "PushTray$Standing" "costs" "I" "PushTray"), (Jvm.Cond.fieldLink "PushTray$Standing" (34 : Nat) "PushTray$Standing" "seen" "I"), (Jvm.Cond.fieldLinkNest "PushTray" (199 : Nat) "PushTray$Standing" "seen" "I" "PushTray")]
def xt_1_10 : List Cond := [(Jvm.Cond.fieldLink "PushTray$Standing" (18 : Nat) "PushTray$Standing" "sorts" "[I"), (Jvm.Cond.lays "PushTray$Standing" "PushTray$Standing" "lay" "I"), (Jvm.Cond.soleField "PushTray$Standing" "lay"), (Jvm.Cond.lays "PushTray$Standing" "PushTray$Standing" "goal" "I"), (Jvm.Cond.soleField "PushTray$Standing" "goal"), (Jvm.Cond.lays "PushTray$Standing" "PushTray$Standing" "kinds" "I"), (Jvm.Cond.soleField "PushTray$Standing" "kinds"), (Jvm.Cond.lays "PushTray$Standing" "PushTray$Standing" "pushes" "I"), (Jvm.Cond.soleField "PushTray$Standing" "pushes"), (Jvm.Cond.lays "PushTray$Standing" "PushTray$Standing" "costs" "I"), (Jvm.Cond.soleField "PushTray$Standing" "costs"), (Jvm.Cond.lays "PushTray$Standing" "PushTray$Standing" "seen" "I"), (Jvm.Cond.soleField "PushTray$Standing" "seen"), (Jvm.Cond.laysFinal "PushTray$Standing" "PushTray$Standing" "sorts" "[I"), (Jvm.Cond.soleField "PushTray$Standing" "sorts"), (Jvm.Cond.superclass "PushTray$Standing" "java/lang/Object")]
def xt_1_11 : List Cond := [(Jvm.Cond.fieldLink "PushTray" (10 : Nat) "PushTray" "lays" "LPushTray$Lays;"), (Jvm.Cond.fieldLink "PushTray" (21 : Nat) "PushTray" "fromHere" "LPushTray$Spread;"), (Jvm.Cond.fieldLink "PushTray" (25 : Nat) "PushTray" "fromGoal" "LPushTray$Spread;"), (Jvm.Cond.fieldLink "PushTray" (31 : Nat) "PushTray" "chances" "LPushTray$Chances;"), (Jvm.Cond.fieldLink "PushTray" (38 : Nat) "PushTray" "now" "LPushTray$Standing;"), (Jvm.Cond.fieldLink "PushTray" (42 : Nat) "PushTray" "kept" "LPushTray$Standing;"), (Jvm.Cond.fieldLink "PushTray" (45 : Nat) "PushTray" "page" "[I"), (Jvm.Cond.fieldLink "PushTray" (49 : Nat) "PushTray" "row" "[I"), (Jvm.Cond.fieldLink "PushTray" (56 : Nat) "PushTray" "letters" "I"), (Jvm.Cond.fieldLink "PushTray" (79 : Nat) "PushTray" "traysRead" "I"), (Jvm.Cond.fieldLink "PushTray" (181 : Nat) "PushTray" "cheapsDone" "I"), (Jvm.Cond.fieldLink "PushTray" (75 : Nat) "PushTray" "imageIsKept" "Z"), (Jvm.Cond.laysFinal "PushTray" "PushTray" "lays" "LPushTray$Lays;"), (Jvm.Cond.soleField "PushTray" "lays"), (Jvm.Cond.laysFinal "PushTray" "PushTray" "fromHere" "LPushTray$Spread;"), (Jvm.Cond.soleField "PushTray" "fromHere")]
def xt_1_12 : List Cond := [(Jvm.Cond.laysFinal "PushTray" "PushTray" "fromGoal" "LPushTray$Spread;"), (Jvm.Cond.soleField "PushTray" "fromGoal"), (Jvm.Cond.laysFinal "PushTray" "PushTray" "chances" "LPushTray$Chances;"), (Jvm.Cond.soleField "PushTray" "chances"), (Jvm.Cond.laysFinal "PushTray" "PushTray" "now" "LPushTray$Standing;"), (Jvm.Cond.soleField "PushTray" "now"), (Jvm.Cond.laysFinal "PushTray" "PushTray" "kept" "LPushTray$Standing;"), (Jvm.Cond.soleField "PushTray" "kept"), (Jvm.Cond.laysFinal "PushTray" "PushTray" "page" "[I"), (Jvm.Cond.soleField "PushTray" "page"), (Jvm.Cond.laysFinal "PushTray" "PushTray" "row" "[I"), (Jvm.Cond.soleField "PushTray" "row"), (Jvm.Cond.lays "PushTray" "PushTray" "letters" "I"), (Jvm.Cond.soleField "PushTray" "letters"), (Jvm.Cond.lays "PushTray" "PushTray" "traysRead" "I"), (Jvm.Cond.soleField "PushTray" "traysRead")]
def xt_1_13 : List Cond := [(Jvm.Cond.lays "PushTray" "PushTray" "cheapsDone" "I"), (Jvm.Cond.soleField "PushTray" "cheapsDone"), (Jvm.Cond.lays "PushTray" "PushTray" "imageIsKept" "Z"), (Jvm.Cond.soleField "PushTray" "imageIsKept"), (Jvm.Cond.superclass "PushTray" "java/lang/Object"), (Jvm.Cond.methodLink "PushTrayLaw" (13 : Nat) ({ cls := "PushTray", name := "letter", desc := "(I)I" } : Jvm.MethodName)), (Jvm.Cond.instanceMethod ({ cls := "PushTray", name := "letter", desc := "(I)I" } : Jvm.MethodName)), (Jvm.Cond.selects "PushTray" ({ cls := "PushTray", name := "letter", desc := "(I)I" } : Jvm.MethodName) ({ cls := "PushTray", name := "letter", desc := "(I)I" } : Jvm.MethodName)), (Jvm.Cond.code ({ cls := "PushTray", name := "letter", desc := "(I)I" } : Jvm.MethodName) prog_1_method_2_code (2 : Nat) (Option.some Jvm.ClassFile.FieldType.int)), (Jvm.Cond.methodLink "PushTray" (52 : Nat) ({ cls := "PushTray", name := "isWithin", desc := "(III)Z" } : Jvm.MethodName)), (Jvm.Cond.static ({ cls := "PushTray", name := "isWithin", desc := "(III)Z" } : Jvm.MethodName)), (Jvm.Cond.code ({ cls := "PushTray", name := "isWithin", desc := "(III)Z" } : Jvm.MethodName) prog_1_method_30_code (3 : Nat) (Option.some Jvm.ClassFile.FieldType.boolean)), (Jvm.Cond.methodLink "PushTrayLaw" (18 : Nat) ({ cls := "PushTray", name := "blank", desc := "()I" } : Jvm.MethodName)), (Jvm.Cond.instanceMethod ({ cls := "PushTray", name := "blank", desc := "()I" } : Jvm.MethodName)), (Jvm.Cond.selects "PushTray" ({ cls := "PushTray", name := "blank", desc := "()I" } : Jvm.MethodName) ({ cls := "PushTray", name := "blank", desc := "()I" } : Jvm.MethodName)), (Jvm.Cond.code ({ cls := "PushTray", name := "blank", desc := "()I" } : Jvm.MethodName) prog_1_method_3_code (2 : Nat) (Option.some Jvm.ClassFile.FieldType.int))]
def xt_1_14 : List Cond := [(Jvm.Cond.methodLink "PushTrayLaw" (23 : Nat) ({ cls := "PushTray", name := "fault", desc := "()I" } : Jvm.MethodName)), (Jvm.Cond.instanceMethod ({ cls := "PushTray", name := "fault", desc := "()I" } : Jvm.MethodName)), (Jvm.Cond.selects "PushTray" ({ cls := "PushTray", name := "fault", desc := "()I" } : Jvm.MethodName) ({ cls := "PushTray", name := "fault", desc := "()I" } : Jvm.MethodName)), (Jvm.Cond.code ({ cls := "PushTray", name := "fault", desc := "()I" } : Jvm.MethodName) prog_1_method_4_code (1 : Nat) (Option.some Jvm.ClassFile.FieldType.int)), (Jvm.Cond.methodLink "PushTray" (60 : Nat) ({ cls := "PushTray", name := "firstWrongPlace", desc := "()I" } : Jvm.MethodName)), (Jvm.Cond.privateMethod ({ cls := "PushTray", name := "firstWrongPlace", desc := "()I" } : Jvm.MethodName)), (Jvm.Cond.instanceMethod ({ cls := "PushTray", name := "firstWrongPlace", desc := "()I" } : Jvm.MethodName)), (Jvm.Cond.code ({ cls := "PushTray", name := "firstWrongPlace", desc := "()I" } : Jvm.MethodName) prog_1_method_41_code (2 : Nat) (Option.some Jvm.ClassFile.FieldType.int)), (Jvm.Cond.methodLink "PushTray" (280 : Nat) ({ cls := "PushTray", name := "fits", desc := "(I)Z" } : Jvm.MethodName)), (Jvm.Cond.privateMethod ({ cls := "PushTray", name := "fits", desc := "(I)Z" } : Jvm.MethodName)), (Jvm.Cond.instanceMethod ({ cls := "PushTray", name := "fits", desc := "(I)Z" } : Jvm.MethodName)), (Jvm.Cond.code ({ cls := "PushTray", name := "fits", desc := "(I)Z" } : Jvm.MethodName) prog_1_method_42_code (3 : Nat) (Option.some Jvm.ClassFile.FieldType.boolean)), (Jvm.Cond.methodLink "PushTray" (283 : Nat) ({ cls := "PushTray", name := "isNewSign", desc := "(II)Z" } : Jvm.MethodName)), (Jvm.Cond.privateMethod ({ cls := "PushTray", name := "isNewSign", desc := "(II)Z" } : Jvm.MethodName)), (Jvm.Cond.instanceMethod ({ cls := "PushTray", name := "isNewSign", desc := "(II)Z" } : Jvm.MethodName)), (Jvm.Cond.code ({ cls := "PushTray", name := "isNewSign", desc := "(II)Z" } : Jvm.MethodName) prog_1_method_43_code (5 : Nat) (Option.some Jvm.ClassFile.FieldType.boolean))]
set_option maxRecDepth 20000 in
theorem xt_1 : tables_1_1 = xt_1_0 ++ (xt_1_1 ++ (xt_1_2 ++ (xt_1_3 ++ (xt_1_4 ++ (xt_1_5 ++ (xt_1_6 ++ (xt_1_7 ++ (xt_1_8 ++ (xt_1_9 ++ (xt_1_10 ++ (xt_1_11 ++ (xt_1_12 ++ (xt_1_13 ++ (xt_1_14)))))))))))))) := by rfl
theorem xm_1_0 {w : Cond} (h : w ∈ xt_1_0) (hg : goodWord w = true) : w ∈ XW := xin1 (by rw [xt_1]; exact List.mem_append_left _ h) hg
theorem xm_1_1 {w : Cond} (h : w ∈ xt_1_1) (hg : goodWord w = true) : w ∈ XW := xin1 (by rw [xt_1]; exact List.mem_append_right _ (List.mem_append_left _ h)) hg
theorem xm_1_2 {w : Cond} (h : w ∈ xt_1_2) (hg : goodWord w = true) : w ∈ XW := xin1 (by rw [xt_1]; exact List.mem_append_right _ (List.mem_append_right _ (List.mem_append_left _ h))) hg
theorem xm_1_3 {w : Cond} (h : w ∈ xt_1_3) (hg : goodWord w = true) : w ∈ XW := xin1 (by rw [xt_1]; exact List.mem_append_right _ (List.mem_append_right _ (List.mem_append_right _ (List.mem_append_left _ h)))) hg
theorem xm_1_4 {w : Cond} (h : w ∈ xt_1_4) (hg : goodWord w = true) : w ∈ XW := xin1 (by rw [xt_1]; exact List.mem_append_right _ (List.mem_append_right _ (List.mem_append_right _ (List.mem_append_right _ (List.mem_append_left _ h))))) hg
theorem xm_1_5 {w : Cond} (h : w ∈ xt_1_5) (hg : goodWord w = true) : w ∈ XW := xin1 (by rw [xt_1]; exact List.mem_append_right _ (List.mem_append_right _ (List.mem_append_right _ (List.mem_append_right _ (List.mem_append_right _ (List.mem_append_left _ h)))))) hg
theorem xm_1_6 {w : Cond} (h : w ∈ xt_1_6) (hg : goodWord w = true) : w ∈ XW := xin1 (by rw [xt_1]; exact List.mem_append_right _ (List.mem_append_right _ (List.mem_append_right _ (List.mem_append_right _ (List.mem_append_right _ (List.mem_append_right _ (List.mem_append_left _ h))))))) hg
theorem xm_1_7 {w : Cond} (h : w ∈ xt_1_7) (hg : goodWord w = true) : w ∈ XW := xin1 (by rw [xt_1]; exact List.mem_append_right _ (List.mem_append_right _ (List.mem_append_right _ (List.mem_append_right _ (List.mem_append_right _ (List.mem_append_right _ (List.mem_append_right _ (List.mem_append_left _ h)))))))) hg
theorem xm_1_8 {w : Cond} (h : w ∈ xt_1_8) (hg : goodWord w = true) : w ∈ XW := xin1 (by rw [xt_1]; exact List.mem_append_right _ (List.mem_append_right _ (List.mem_append_right _ (List.mem_append_right _ (List.mem_append_right _ (List.mem_append_right _ (List.mem_append_right _ (List.mem_append_right _ (List.mem_append_left _ h))))))))) hg
theorem xm_1_9 {w : Cond} (h : w ∈ xt_1_9) (hg : goodWord w = true) : w ∈ XW := xin1 (by rw [xt_1]; exact List.mem_append_right _ (List.mem_append_right _ (List.mem_append_right _ (List.mem_append_right _ (List.mem_append_right _ (List.mem_append_right _ (List.mem_append_right _ (List.mem_append_right _ (List.mem_append_right _ (List.mem_append_left _ h)))))))))) hg
theorem xm_1_10 {w : Cond} (h : w ∈ xt_1_10) (hg : goodWord w = true) : w ∈ XW := xin1 (by rw [xt_1]; exact List.mem_append_right _ (List.mem_append_right _ (List.mem_append_right _ (List.mem_append_right _ (List.mem_append_right _ (List.mem_append_right _ (List.mem_append_right _ (List.mem_append_right _ (List.mem_append_right _ (List.mem_append_right _ (List.mem_append_left _ h))))))))))) hg
theorem xm_1_11 {w : Cond} (h : w ∈ xt_1_11) (hg : goodWord w = true) : w ∈ XW := xin1 (by rw [xt_1]; exact List.mem_append_right _ (List.mem_append_right _ (List.mem_append_right _ (List.mem_append_right _ (List.mem_append_right _ (List.mem_append_right _ (List.mem_append_right _ (List.mem_append_right _ (List.mem_append_right _ (List.mem_append_right _ (List.mem_append_right _ (List.mem_append_left _ h)))))))))))) hg
theorem xm_1_12 {w : Cond} (h : w ∈ xt_1_12) (hg : goodWord w = true) : w ∈ XW := xin1 (by rw [xt_1]; exact List.mem_append_right _ (List.mem_append_right _ (List.mem_append_right _ (List.mem_append_right _ (List.mem_append_right _ (List.mem_append_right _ (List.mem_append_right _ (List.mem_append_right _ (List.mem_append_right _ (List.mem_append_right _ (List.mem_append_right _ (List.mem_append_right _ (List.mem_append_left _ h))))))))))))) hg
theorem xm_1_13 {w : Cond} (h : w ∈ xt_1_13) (hg : goodWord w = true) : w ∈ XW := xin1 (by rw [xt_1]; exact List.mem_append_right _ (List.mem_append_right _ (List.mem_append_right _ (List.mem_append_right _ (List.mem_append_right _ (List.mem_append_right _ (List.mem_append_right _ (List.mem_append_right _ (List.mem_append_right _ (List.mem_append_right _ (List.mem_append_right _ (List.mem_append_right _ (List.mem_append_right _ (List.mem_append_left _ h)))))))))))))) hg
theorem xm_1_14 {w : Cond} (h : w ∈ xt_1_14) (hg : goodWord w = true) : w ∈ XW := xin1 (by rw [xt_1]; exact List.mem_append_right _ (List.mem_append_right _ (List.mem_append_right _ (List.mem_append_right _ (List.mem_append_right _ (List.mem_append_right _ (List.mem_append_right _ (List.mem_append_right _ (List.mem_append_right _ (List.mem_append_right _ (List.mem_append_right _ (List.mem_append_right _ (List.mem_append_right _ (List.mem_append_right _ (h))))))))))))))) hg
def xt_2_0 : List Cond := [(Jvm.Cond.methodLink "PushTray" (286 : Nat) ({ cls := "PushTray", name := "codeAt", desc := "(I)I" } : Jvm.MethodName)), (Jvm.Cond.privateMethod ({ cls := "PushTray", name := "codeAt", desc := "(I)I" } : Jvm.MethodName)), (Jvm.Cond.instanceMethod ({ cls := "PushTray", name := "codeAt", desc := "(I)I" } : Jvm.MethodName)), (Jvm.Cond.code ({ cls := "PushTray", name := "codeAt", desc := "(I)I" } : Jvm.MethodName) prog_1_method_44_code (2 : Nat) (Option.some Jvm.ClassFile.FieldType.int)), (Jvm.Cond.methodLink "PushTray" (292 : Nat) ({ cls := "PushTray", name := "signByLetter", desc := "(I)I" } : Jvm.MethodName)), (Jvm.Cond.static ({ cls := "PushTray", name := "signByLetter", desc := "(I)I" } : Jvm.MethodName)), (Jvm.Cond.code ({ cls := "PushTray", name := "signByLetter", desc := "(I)I" } : Jvm.MethodName) prog_1_method_45_code (1 : Nat) (Option.some Jvm.ClassFile.FieldType.int)), (Jvm.Cond.methodLink "PushTray" (289 : Nat) ({ cls := "PushTray", name := "kindByLetter", desc := "(I)I" } : Jvm.MethodName)), (Jvm.Cond.static ({ cls := "PushTray", name := "kindByLetter", desc := "(I)I" } : Jvm.MethodName)), (Jvm.Cond.code ({ cls := "PushTray", name := "kindByLetter", desc := "(I)I" } : Jvm.MethodName) prog_1_method_40_code (2 : Nat) (Option.some Jvm.ClassFile.FieldType.int)), (Jvm.Cond.fieldLink "PushTray" (122 : Nat) "PushTray" "KINDS" "[LPushTray$Kind;"), (Jvm.Cond.laysStatic "PushTray" "KINDS" "[LPushTray$Kind;"), (Jvm.Cond.methodLink "PushTrayLaw" (27 : Nat) ({ cls := "PushTray", name := "tray", desc := "()I" } : Jvm.MethodName)), (Jvm.Cond.instanceMethod ({ cls := "PushTray", name := "tray", desc := "()I" } : Jvm.MethodName)), (Jvm.Cond.selects "PushTray" ({ cls := "PushTray", name := "tray", desc := "()I" } : Jvm.MethodName) ({ cls := "PushTray", name := "tray", desc := "()I" } : Jvm.MethodName)), (Jvm.Cond.code ({ cls := "PushTray", name := "tray", desc := "()I" } : Jvm.MethodName) prog_1_method_5_code (1 : Nat) (Option.some Jvm.ClassFile.FieldType.int))]
def xt_2_1 : List Cond := [(Jvm.Cond.methodLink "PushTray" (64 : Nat) ({ cls := "PushTray", name := "readLay", desc := "(I)I" } : Jvm.MethodName)), (Jvm.Cond.privateMethod ({ cls := "PushTray", name := "readLay", desc := "(I)I" } : Jvm.MethodName)), (Jvm.Cond.instanceMethod ({ cls := "PushTray", name := "readLay", desc := "(I)I" } : Jvm.MethodName)), (Jvm.Cond.code ({ cls := "PushTray", name := "readLay", desc := "(I)I" } : Jvm.MethodName) prog_1_method_46_code (3 : Nat) (Option.some Jvm.ClassFile.FieldType.int)), (Jvm.Cond.methodLink "PushTray" (295 : Nat) ({ cls := "PushTray$Lays", name := "numberOf", desc := "([I)I" } : Jvm.MethodName)), (Jvm.Cond.methodLink "PushTray" (68 : Nat) ({ cls := "PushTray", name := "readKinds", desc := "()I" } : Jvm.MethodName)), (Jvm.Cond.privateMethod ({ cls := "PushTray", name := "readKinds", desc := "()I" } : Jvm.MethodName)), (Jvm.Cond.instanceMethod ({ cls := "PushTray", name := "readKinds", desc := "()I" } : Jvm.MethodName)), (Jvm.Cond.code ({ cls := "PushTray", name := "readKinds", desc := "()I" } : Jvm.MethodName) prog_1_method_47_code (3 : Nat) (Option.some Jvm.ClassFile.FieldType.int)), (Jvm.Cond.methodLink "PushTray" (156 : Nat) ({ cls := "PushTray", name := "withKind", desc := "(III)I" } : Jvm.MethodName)), (Jvm.Cond.static ({ cls := "PushTray", name := "withKind", desc := "(III)I" } : Jvm.MethodName)), (Jvm.Cond.code ({ cls := "PushTray", name := "withKind", desc := "(III)I" } : Jvm.MethodName) prog_1_method_39_code (3 : Nat) (Option.some Jvm.ClassFile.FieldType.int)), (Jvm.Cond.methodLink "PushTray" (71 : Nat) ({ cls := "PushTray$Standing", name := "start", desc := "(III)V" } : Jvm.MethodName)), (Jvm.Cond.instanceMethod ({ cls := "PushTray$Standing", name := "start", desc := "(III)V" } : Jvm.MethodName)), (Jvm.Cond.selects "PushTray$Standing" ({ cls := "PushTray$Standing", name := "start", desc := "(III)V" } : Jvm.MethodName) ({ cls := "PushTray$Standing", name := "start", desc := "(III)V" } : Jvm.MethodName)), (Jvm.Cond.code ({ cls := "PushTray$Standing", name := "start", desc := "(III)V" } : Jvm.MethodName) prog_6_method_2_code (4 : Nat) (Option.none : Option Jvm.ClassFile.FieldType))]
def xt_2_2 : List Cond := [(Jvm.Cond.methodLink "PushTray$Standing" (31 : Nat) ({ cls := "PushTray$Standing", name := "forgetSeen", desc := "()V" } : Jvm.MethodName)), (Jvm.Cond.instanceMethod ({ cls := "PushTray$Standing", name := "forgetSeen", desc := "()V" } : Jvm.MethodName)), (Jvm.Cond.selects "PushTray$Standing" ({ cls := "PushTray$Standing", name := "forgetSeen", desc := "()V" } : Jvm.MethodName) ({ cls := "PushTray$Standing", name := "forgetSeen", desc := "()V" } : Jvm.MethodName)), (Jvm.Cond.code ({ cls := "PushTray$Standing", name := "forgetSeen", desc := "()V" } : Jvm.MethodName) prog_6_method_3_code (1 : Nat) (Option.none : Option Jvm.ClassFile.FieldType)), (Jvm.Cond.methodLink "PushTray$Standing" (37 : Nat) ({ cls := "java/util/Arrays", name := "fill", desc := "([II)V" } : Jvm.MethodName)), (Jvm.Cond.static ({ cls := "java/util/Arrays", name := "fill", desc := "([II)V" } : Jvm.MethodName)), (Jvm.Cond.code ({ cls := "java/util/Arrays", name := "fill", desc := "([II)V" } : Jvm.MethodName) prog_13_method_103_code (4 : Nat) (Option.none : Option Jvm.ClassFile.FieldType)), (Jvm.Cond.methodLink "PushTray" (85 : Nat) ({ cls := "PushTray$Lays", name := "place", desc := "(II)I" } : Jvm.MethodName)), (Jvm.Cond.methodLink "PushTrayLaw" (31 : Nat) ({ cls := "PushTray", name := "tile", desc := "(II)I" } : Jvm.MethodName)), (Jvm.Cond.instanceMethod ({ cls := "PushTray", name := "tile", desc := "(II)I" } : Jvm.MethodName)), (Jvm.Cond.selects "PushTray" ({ cls := "PushTray", name := "tile", desc := "(II)I" } : Jvm.MethodName) ({ cls := "PushTray", name := "tile", desc := "(II)I" } : Jvm.MethodName)), (Jvm.Cond.code ({ cls := "PushTray", name := "tile", desc := "(II)I" } : Jvm.MethodName) prog_1_method_6_code (3 : Nat) (Option.some Jvm.ClassFile.FieldType.int)), (Jvm.Cond.methodLink "PushTray" (89 : Nat) ({ cls := "PushTray", name := "isTile", desc := "(I)Z" } : Jvm.MethodName)), (Jvm.Cond.privateMethod ({ cls := "PushTray", name := "isTile", desc := "(I)Z" } : Jvm.MethodName)), (Jvm.Cond.instanceMethod ({ cls := "PushTray", name := "isTile", desc := "(I)Z" } : Jvm.MethodName)), (Jvm.Cond.code ({ cls := "PushTray", name := "isTile", desc := "(I)Z" } : Jvm.MethodName) prog_1_method_33_code (2 : Nat) (Option.some Jvm.ClassFile.FieldType.boolean))]
def xt_2_3 : List Cond := [(Jvm.Cond.methodLink "PushTray" (159 : Nat) ({ cls := "PushTray", name := "hasTray", desc := "()Z" } : Jvm.MethodName)), (Jvm.Cond.privateMethod ({ cls := "PushTray", name := "hasTray", desc := "()Z" } : Jvm.MethodName)), (Jvm.Cond.instanceMethod ({ cls := "PushTray", name := "hasTray", desc := "()Z" } : Jvm.MethodName)), (Jvm.Cond.code ({ cls := "PushTray", name := "hasTray", desc := "()Z" } : Jvm.MethodName) prog_1_method_32_code (1 : Nat) (Option.some Jvm.ClassFile.FieldType.boolean)), (Jvm.Cond.methodLink "PushTray" (96 : Nat) ({ cls := "PushTray", name := "kindOf", desc := "(II)I" } : Jvm.MethodName)), (Jvm.Cond.static ({ cls := "PushTray", name := "kindOf", desc := "(II)I" } : Jvm.MethodName)), (Jvm.Cond.code ({ cls := "PushTray", name := "kindOf", desc := "(II)I" } : Jvm.MethodName) prog_1_method_38_code (3 : Nat) (Option.some Jvm.ClassFile.FieldType.int)), (Jvm.Cond.methodLink "PushTray" (102 : Nat) ({ cls := "PushTray$Lays", name := "price", desc := "(III)I" } : Jvm.MethodName)), (Jvm.Cond.instanceMethod ({ cls := "PushTray$Lays", name := "price", desc := "(III)I" } : Jvm.MethodName)), (Jvm.Cond.selects "PushTray$Lays" ({ cls := "PushTray$Lays", name := "price", desc := "(III)I" } : Jvm.MethodName) ({ cls := "PushTray$Lays", name := "price", desc := "(III)I" } : Jvm.MethodName)), (Jvm.Cond.code ({ cls := "PushTray$Lays", name := "price", desc := "(III)I" } : Jvm.MethodName) prog_4_method_11_code (6 : Nat) (Option.some Jvm.ClassFile.FieldType.int)), (Jvm.Cond.fieldLinkNest "PushTray$Lays" (72 : Nat) "PushTray" "KINDS" "[LPushTray$Kind;" "PushTray"), (Jvm.Cond.methodLinkNest "PushTray$Lays" (76 : Nat) ({ cls := "PushTray", name := "kindOf", desc := "(II)I" } : Jvm.MethodName) "PushTray"), (Jvm.Cond.methodLink "PushTray$Lays" (79 : Nat) ({ cls := "PushTray$Kind", name := "price", desc := "(I)I" } : Jvm.MethodName)), (Jvm.Cond.instanceMethod ({ cls := "PushTray$Kind", name := "price", desc := "(I)I" } : Jvm.MethodName)), (Jvm.Cond.selects "PushTray$Kind" ({ cls := "PushTray$Kind", name := "price", desc := "(I)I" } : Jvm.MethodName) ({ cls := "PushTray$Kind", name := "price", desc := "(I)I" } : Jvm.MethodName))]
def xt_2_4 : List Cond := [(Jvm.Cond.code ({ cls := "PushTray$Kind", name := "price", desc := "(I)I" } : Jvm.MethodName) prog_3_method_4_code (2 : Nat) (Option.some Jvm.ClassFile.FieldType.int)), (Jvm.Cond.methodLink "PushTray" (106 : Nat) ({ cls := "PushTray$Standing", name := "sortsOf", desc := "(I)I" } : Jvm.MethodName)), (Jvm.Cond.instanceMethod ({ cls := "PushTray$Standing", name := "sortsOf", desc := "(I)I" } : Jvm.MethodName)), (Jvm.Cond.selects "PushTray$Standing" ({ cls := "PushTray$Standing", name := "sortsOf", desc := "(I)I" } : Jvm.MethodName) ({ cls := "PushTray$Standing", name := "sortsOf", desc := "(I)I" } : Jvm.MethodName)), (Jvm.Cond.code ({ cls := "PushTray$Standing", name := "sortsOf", desc := "(I)I" } : Jvm.MethodName) prog_6_method_5_code (2 : Nat) (Option.some Jvm.ClassFile.FieldType.int)), (Jvm.Cond.methodLinkNest "PushTray$Standing" (43 : Nat) ({ cls := "PushTray", name := "isWithin", desc := "(III)Z" } : Jvm.MethodName) "PushTray"), (Jvm.Cond.methodLink "PushTray" (109 : Nat) ({ cls := "PushTray", name := "bestWay", desc := "(I)I" } : Jvm.MethodName)), (Jvm.Cond.static ({ cls := "PushTray", name := "bestWay", desc := "(I)I" } : Jvm.MethodName)), (Jvm.Cond.code ({ cls := "PushTray", name := "bestWay", desc := "(I)I" } : Jvm.MethodName) prog_1_method_53_code (1 : Nat) (Option.some Jvm.ClassFile.FieldType.int)), (Jvm.Cond.methodLink "PushTray" (301 : Nat) ({ cls := "PushTray", name := "mostLeft", desc := "(II)I" } : Jvm.MethodName)), (Jvm.Cond.static ({ cls := "PushTray", name := "mostLeft", desc := "(II)I" } : Jvm.MethodName)), (Jvm.Cond.code ({ cls := "PushTray", name := "mostLeft", desc := "(II)I" } : Jvm.MethodName) prog_1_method_54_code (4 : Nat) (Option.some Jvm.ClassFile.FieldType.int)), (Jvm.Cond.methodLink "PushTray" (202 : Nat) ({ cls := "PushTray", name := "sortsThatCost", desc := "(II)I" } : Jvm.MethodName)), (Jvm.Cond.static ({ cls := "PushTray", name := "sortsThatCost", desc := "(II)I" } : Jvm.MethodName)), (Jvm.Cond.code ({ cls := "PushTray", name := "sortsThatCost", desc := "(II)I" } : Jvm.MethodName) prog_1_method_52_code (4 : Nat) (Option.some Jvm.ClassFile.FieldType.int)), (Jvm.Cond.methodLink "PushTray" (299 : Nat) ({ cls := "PushTray$Kind", name := "price", desc := "(I)I" } : Jvm.MethodName))]
def xt_2_5 : List Cond := [(Jvm.Cond.methodLink "PushTray" (304 : Nat) ({ cls := "java/lang/Integer", name := "bitCount", desc := "(I)I" } : Jvm.MethodName)), (Jvm.Cond.methodLink "PushTray" (194 : Nat) ({ cls := "java/lang/Math", name := "max", desc := "(II)I" } : Jvm.MethodName)), (Jvm.Cond.static ({ cls := "java/lang/Math", name := "max", desc := "(II)I" } : Jvm.MethodName)), (Jvm.Cond.code ({ cls := "java/lang/Math", name := "max", desc := "(II)I" } : Jvm.MethodName) prog_11_method_65_code (2 : Nat) (Option.some Jvm.ClassFile.FieldType.int)), (Jvm.Cond.methodLink "PushTray" (112 : Nat) ({ cls := "PushTray$Spread", name := "searchFrom", desc := "(II)V" } : Jvm.MethodName)), (Jvm.Cond.instanceMethod ({ cls := "PushTray$Spread", name := "searchFrom", desc := "(II)V" } : Jvm.MethodName)), (Jvm.Cond.selects "PushTray$Spread" ({ cls := "PushTray$Spread", name := "searchFrom", desc := "(II)V" } : Jvm.MethodName) ({ cls := "PushTray$Spread", name := "searchFrom", desc := "(II)V" } : Jvm.MethodName)), (Jvm.Cond.code ({ cls := "PushTray$Spread", name := "searchFrom", desc := "(II)V" } : Jvm.MethodName) prog_5_method_2_code (6 : Nat) (Option.none : Option Jvm.ClassFile.FieldType)), (Jvm.Cond.methodLink "PushTray$Spread" (35 : Nat) ({ cls := "java/util/Arrays", name := "fill", desc := "([II)V" } : Jvm.MethodName)), (Jvm.Cond.methodLink "PushTray$Spread" (41 : Nat) ({ cls := "PushTray$Spread", name := "note", desc := "(II)V" } : Jvm.MethodName)), (Jvm.Cond.privateMethod ({ cls := "PushTray$Spread", name := "note", desc := "(II)V" } : Jvm.MethodName)), (Jvm.Cond.instanceMethod ({ cls := "PushTray$Spread", name := "note", desc := "(II)V" } : Jvm.MethodName)), (Jvm.Cond.code ({ cls := "PushTray$Spread", name := "note", desc := "(II)V" } : Jvm.MethodName) prog_5_method_4_code (3 : Nat) (Option.none : Option Jvm.ClassFile.FieldType)), (Jvm.Cond.methodLinkNest "PushTray$Spread" (58 : Nat) ({ cls := "PushTray", name := "isWithin", desc := "(III)Z" } : Jvm.MethodName) "PushTray"), (Jvm.Cond.methodLink "PushTray$Spread" (62 : Nat) ({ cls := "java/lang/Math", name := "max", desc := "(II)I" } : Jvm.MethodName)), (Jvm.Cond.methodLink "PushTray$Spread" (45 : Nat) ({ cls := "PushTray$Spread", name := "noteNeighbours", desc := "(II)V" } : Jvm.MethodName))]
def xt_2_6 : List Cond := [(Jvm.Cond.privateMethod ({ cls := "PushTray$Spread", name := "noteNeighbours", desc := "(II)V" } : Jvm.MethodName)), (Jvm.Cond.instanceMethod ({ cls := "PushTray$Spread", name := "noteNeighbours", desc := "(II)V" } : Jvm.MethodName)), (Jvm.Cond.code ({ cls := "PushTray$Spread", name := "noteNeighbours", desc := "(II)V" } : Jvm.MethodName) prog_5_method_3_code (5 : Nat) (Option.none : Option Jvm.ClassFile.FieldType)), (Jvm.Cond.methodLink "PushTray$Spread" (48 : Nat) ({ cls := "PushTray$Lays", name := "price", desc := "(III)I" } : Jvm.MethodName)), (Jvm.Cond.methodLink "PushTray$Spread" (54 : Nat) ({ cls := "PushTray$Lays", name := "pushed", desc := "(II)I" } : Jvm.MethodName)), (Jvm.Cond.instanceMethod ({ cls := "PushTray$Lays", name := "pushed", desc := "(II)I" } : Jvm.MethodName)), (Jvm.Cond.selects "PushTray$Lays" ({ cls := "PushTray$Lays", name := "pushed", desc := "(II)I" } : Jvm.MethodName) ({ cls := "PushTray$Lays", name := "pushed", desc := "(II)I" } : Jvm.MethodName)), (Jvm.Cond.code ({ cls := "PushTray$Lays", name := "pushed", desc := "(II)I" } : Jvm.MethodName) prog_4_method_9_code (3 : Nat) (Option.some Jvm.ClassFile.FieldType.int)), (Jvm.Cond.methodLink "PushTray" (116 : Nat) ({ cls := "PushTray$Spread", name := "leastWith", desc := "(II)I" } : Jvm.MethodName)), (Jvm.Cond.instanceMethod ({ cls := "PushTray$Spread", name := "leastWith", desc := "(II)I" } : Jvm.MethodName)), (Jvm.Cond.selects "PushTray$Spread" ({ cls := "PushTray$Spread", name := "leastWith", desc := "(II)I" } : Jvm.MethodName) ({ cls := "PushTray$Spread", name := "leastWith", desc := "(II)I" } : Jvm.MethodName)), (Jvm.Cond.code ({ cls := "PushTray$Spread", name := "leastWith", desc := "(II)I" } : Jvm.MethodName) prog_5_method_8_code (6 : Nat) (Option.some Jvm.ClassFile.FieldType.int)), (Jvm.Cond.methodLink "PushTray$Spread" (67 : Nat) ({ cls := "PushTray$Lays", name := "place", desc := "(II)I" } : Jvm.MethodName)), (Jvm.Cond.methodLink "PushTrayLaw" (36 : Nat) ({ cls := "PushTray", name := "as", desc := "(II)I" } : Jvm.MethodName)), (Jvm.Cond.instanceMethod ({ cls := "PushTray", name := "as", desc := "(II)I" } : Jvm.MethodName)), (Jvm.Cond.selects "PushTray" ({ cls := "PushTray", name := "as", desc := "(II)I" } : Jvm.MethodName) ({ cls := "PushTray", name := "as", desc := "(II)I" } : Jvm.MethodName))]
def xt_2_7 : List Cond := [(Jvm.Cond.code ({ cls := "PushTray", name := "as", desc := "(II)I" } : Jvm.MethodName) prog_1_method_7_code (3 : Nat) (Option.some Jvm.ClassFile.FieldType.int)), (Jvm.Cond.methodLink "PushTray" (119 : Nat) ({ cls := "PushTray", name := "isKind", desc := "(I)Z" } : Jvm.MethodName)), (Jvm.Cond.static ({ cls := "PushTray", name := "isKind", desc := "(I)Z" } : Jvm.MethodName)), (Jvm.Cond.code ({ cls := "PushTray", name := "isKind", desc := "(I)Z" } : Jvm.MethodName) prog_1_method_31_code (1 : Nat) (Option.some Jvm.ClassFile.FieldType.boolean)), (Jvm.Cond.methodLink "PushTray" (126 : Nat) ({ cls := "PushTray$Kind", name := "isA", desc := "(I)Z" } : Jvm.MethodName)), (Jvm.Cond.instanceMethod ({ cls := "PushTray$Kind", name := "isA", desc := "(I)Z" } : Jvm.MethodName)), (Jvm.Cond.selects "PushTray$Kind" ({ cls := "PushTray$Kind", name := "isA", desc := "(I)Z" } : Jvm.MethodName) ({ cls := "PushTray$Kind", name := "isA", desc := "(I)Z" } : Jvm.MethodName)), (Jvm.Cond.code ({ cls := "PushTray$Kind", name := "isA", desc := "(I)Z" } : Jvm.MethodName) prog_3_method_5_code (2 : Nat) (Option.some Jvm.ClassFile.FieldType.boolean)), (Jvm.Cond.methodLink "PushTrayLaw" (40 : Nat) ({ cls := "PushTray", name := "cell", desc := "(II)I" } : Jvm.MethodName)), (Jvm.Cond.instanceMethod ({ cls := "PushTray", name := "cell", desc := "(II)I" } : Jvm.MethodName)), (Jvm.Cond.selects "PushTray" ({ cls := "PushTray", name := "cell", desc := "(II)I" } : Jvm.MethodName) ({ cls := "PushTray", name := "cell", desc := "(II)I" } : Jvm.MethodName)), (Jvm.Cond.code ({ cls := "PushTray", name := "cell", desc := "(II)I" } : Jvm.MethodName) prog_1_method_8_code (3 : Nat) (Option.some Jvm.ClassFile.FieldType.int)), (Jvm.Cond.methodLink "PushTray" (131 : Nat) ({ cls := "PushTray", name := "isCell", desc := "(I)Z" } : Jvm.MethodName)), (Jvm.Cond.privateMethod ({ cls := "PushTray", name := "isCell", desc := "(I)Z" } : Jvm.MethodName)), (Jvm.Cond.instanceMethod ({ cls := "PushTray", name := "isCell", desc := "(I)Z" } : Jvm.MethodName)), (Jvm.Cond.code ({ cls := "PushTray", name := "isCell", desc := "(I)Z" } : Jvm.MethodName) prog_1_method_34_code (2 : Nat) (Option.some Jvm.ClassFile.FieldType.boolean))]
def xt_2_8 : List Cond := [(Jvm.Cond.methodLink "PushTray" (134 : Nat) ({ cls := "PushTray$Lays", name := "sign", desc := "(II)I" } : Jvm.MethodName)), (Jvm.Cond.methodLink "PushTray" (137 : Nat) ({ cls := "PushTray", name := "tileOrNone", desc := "(I)I" } : Jvm.MethodName)), (Jvm.Cond.static ({ cls := "PushTray", name := "tileOrNone", desc := "(I)I" } : Jvm.MethodName)), (Jvm.Cond.code ({ cls := "PushTray", name := "tileOrNone", desc := "(I)I" } : Jvm.MethodName) prog_1_method_35_code (1 : Nat) (Option.some Jvm.ClassFile.FieldType.int)), (Jvm.Cond.methodLink "PushTray" (140 : Nat) ({ cls := "PushTray", name := "areNext", desc := "(II)Z" } : Jvm.MethodName)), (Jvm.Cond.methodLink "PushTrayLaw" (44 : Nat) ({ cls := "PushTray", name := "push", desc := "(I)I" } : Jvm.MethodName)), (Jvm.Cond.instanceMethod ({ cls := "PushTray", name := "push", desc := "(I)I" } : Jvm.MethodName)), (Jvm.Cond.selects "PushTray" ({ cls := "PushTray", name := "push", desc := "(I)I" } : Jvm.MethodName) ({ cls := "PushTray", name := "push", desc := "(I)I" } : Jvm.MethodName)), (Jvm.Cond.code ({ cls := "PushTray", name := "push", desc := "(I)I" } : Jvm.MethodName) prog_1_method_9_code (3 : Nat) (Option.some Jvm.ClassFile.FieldType.int)), (Jvm.Cond.methodLink "PushTray" (147 : Nat) ({ cls := "PushTray$Lays", name := "pushed", desc := "(II)I" } : Jvm.MethodName)), (Jvm.Cond.methodLink "PushTrayLaw" (48 : Nat) ({ cls := "PushTray", name := "exchange", desc := "(II)I" } : Jvm.MethodName)), (Jvm.Cond.instanceMethod ({ cls := "PushTray", name := "exchange", desc := "(II)I" } : Jvm.MethodName)), (Jvm.Cond.selects "PushTray" ({ cls := "PushTray", name := "exchange", desc := "(II)I" } : Jvm.MethodName) ({ cls := "PushTray", name := "exchange", desc := "(II)I" } : Jvm.MethodName)), (Jvm.Cond.code ({ cls := "PushTray", name := "exchange", desc := "(II)I" } : Jvm.MethodName) prog_1_method_10_code (3 : Nat) (Option.some Jvm.ClassFile.FieldType.int)), (Jvm.Cond.methodLink "PushTray" (153 : Nat) ({ cls := "PushTray$Lays", name := "exchanged", desc := "(III)I" } : Jvm.MethodName)), (Jvm.Cond.methodLink "PushTrayLaw" (52 : Nat) ({ cls := "PushTray", name := "aim", desc := "(II)I" } : Jvm.MethodName))]
def xt_2_9 : List Cond := [(Jvm.Cond.instanceMethod ({ cls := "PushTray", name := "aim", desc := "(II)I" } : Jvm.MethodName)), (Jvm.Cond.selects "PushTray" ({ cls := "PushTray", name := "aim", desc := "(II)I" } : Jvm.MethodName) ({ cls := "PushTray", name := "aim", desc := "(II)I" } : Jvm.MethodName)), (Jvm.Cond.code ({ cls := "PushTray", name := "aim", desc := "(II)I" } : Jvm.MethodName) prog_1_method_11_code (3 : Nat) (Option.some Jvm.ClassFile.FieldType.int)), (Jvm.Cond.methodLink "PushTrayLaw" (56 : Nat) ({ cls := "PushTray", name := "recast", desc := "(II)I" } : Jvm.MethodName)), (Jvm.Cond.instanceMethod ({ cls := "PushTray", name := "recast", desc := "(II)I" } : Jvm.MethodName)), (Jvm.Cond.selects "PushTray" ({ cls := "PushTray", name := "recast", desc := "(II)I" } : Jvm.MethodName) ({ cls := "PushTray", name := "recast", desc := "(II)I" } : Jvm.MethodName)), (Jvm.Cond.code ({ cls := "PushTray", name := "recast", desc := "(II)I" } : Jvm.MethodName) prog_1_method_12_code (4 : Nat) (Option.some Jvm.ClassFile.FieldType.int)), (Jvm.Cond.methodLink "PushTrayLaw" (60 : Nat) ({ cls := "PushTray", name := "least", desc := "(I)I" } : Jvm.MethodName)), (Jvm.Cond.instanceMethod ({ cls := "PushTray", name := "least", desc := "(I)I" } : Jvm.MethodName)), (Jvm.Cond.selects "PushTray" ({ cls := "PushTray", name := "least", desc := "(I)I" } : Jvm.MethodName) ({ cls := "PushTray", name := "least", desc := "(I)I" } : Jvm.MethodName)), (Jvm.Cond.code ({ cls := "PushTray", name := "least", desc := "(I)I" } : Jvm.MethodName) prog_1_method_13_code (2 : Nat) (Option.some Jvm.ClassFile.FieldType.int)), (Jvm.Cond.methodLink "PushTray" (163 : Nat) ({ cls := "PushTray$Spread", name := "costOf", desc := "(I)I" } : Jvm.MethodName)), (Jvm.Cond.instanceMethod ({ cls := "PushTray$Spread", name := "costOf", desc := "(I)I" } : Jvm.MethodName)), (Jvm.Cond.selects "PushTray$Spread" ({ cls := "PushTray$Spread", name := "costOf", desc := "(I)I" } : Jvm.MethodName) ({ cls := "PushTray$Spread", name := "costOf", desc := "(I)I" } : Jvm.MethodName)), (Jvm.Cond.code ({ cls := "PushTray$Spread", name := "costOf", desc := "(I)I" } : Jvm.MethodName) prog_5_method_5_code (2 : Nat) (Option.some Jvm.ClassFile.FieldType.int)), (Jvm.Cond.methodLink "PushTray" (166 : Nat) ({ cls := "PushTray", name := "cheapestTile", desc := "(I)I" } : Jvm.MethodName))]
def xt_2_10 : List Cond := [(Jvm.Cond.privateMethod ({ cls := "PushTray", name := "cheapestTile", desc := "(I)I" } : Jvm.MethodName)), (Jvm.Cond.instanceMethod ({ cls := "PushTray", name := "cheapestTile", desc := "(I)I" } : Jvm.MethodName)), (Jvm.Cond.code ({ cls := "PushTray", name := "cheapestTile", desc := "(I)I" } : Jvm.MethodName) prog_1_method_48_code (5 : Nat) (Option.some Jvm.ClassFile.FieldType.int)), (Jvm.Cond.methodLink "PushTray" (169 : Nat) ({ cls := "PushTray", name := "pushesToGoal", desc := "()I" } : Jvm.MethodName)), (Jvm.Cond.privateMethod ({ cls := "PushTray", name := "pushesToGoal", desc := "()I" } : Jvm.MethodName)), (Jvm.Cond.instanceMethod ({ cls := "PushTray", name := "pushesToGoal", desc := "()I" } : Jvm.MethodName)), (Jvm.Cond.code ({ cls := "PushTray", name := "pushesToGoal", desc := "()I" } : Jvm.MethodName) prog_1_method_49_code (3 : Nat) (Option.some Jvm.ClassFile.FieldType.int)), (Jvm.Cond.methodLink "PushTrayLaw" (64 : Nat) ({ cls := "PushTray", name := "reach", desc := "(I)I" } : Jvm.MethodName)), (Jvm.Cond.instanceMethod ({ cls := "PushTray", name := "reach", desc := "(I)I" } : Jvm.MethodName)), (Jvm.Cond.selects "PushTray" ({ cls := "PushTray", name := "reach", desc := "(I)I" } : Jvm.MethodName) ({ cls := "PushTray", name := "reach", desc := "(I)I" } : Jvm.MethodName)), (Jvm.Cond.code ({ cls := "PushTray", name := "reach", desc := "(I)I" } : Jvm.MethodName) prog_1_method_14_code (2 : Nat) (Option.some Jvm.ClassFile.FieldType.int)), (Jvm.Cond.methodLink "PushTray" (172 : Nat) ({ cls := "PushTray$Spread", name := "size", desc := "()I" } : Jvm.MethodName)), (Jvm.Cond.instanceMethod ({ cls := "PushTray$Spread", name := "size", desc := "()I" } : Jvm.MethodName)), (Jvm.Cond.selects "PushTray$Spread" ({ cls := "PushTray$Spread", name := "size", desc := "()I" } : Jvm.MethodName) ({ cls := "PushTray$Spread", name := "size", desc := "()I" } : Jvm.MethodName)), (Jvm.Cond.code ({ cls := "PushTray$Spread", name := "size", desc := "()I" } : Jvm.MethodName) prog_5_method_6_code (1 : Nat) (Option.some Jvm.ClassFile.FieldType.int)), (Jvm.Cond.methodLink "PushTray" (175 : Nat) ({ cls := "PushTray$Spread", name := "farthest", desc := "()I" } : Jvm.MethodName))]
def xt_2_11 : List Cond := [(Jvm.Cond.instanceMethod ({ cls := "PushTray$Spread", name := "farthest", desc := "()I" } : Jvm.MethodName)), (Jvm.Cond.selects "PushTray$Spread" ({ cls := "PushTray$Spread", name := "farthest", desc := "()I" } : Jvm.MethodName) ({ cls := "PushTray$Spread", name := "farthest", desc := "()I" } : Jvm.MethodName)), (Jvm.Cond.code ({ cls := "PushTray$Spread", name := "farthest", desc := "()I" } : Jvm.MethodName) prog_5_method_7_code (3 : Nat) (Option.some Jvm.ClassFile.FieldType.int)), (Jvm.Cond.methodLink "PushTrayLaw" (68 : Nat) ({ cls := "PushTray", name := "home", desc := "(II)I" } : Jvm.MethodName)), (Jvm.Cond.instanceMethod ({ cls := "PushTray", name := "home", desc := "(II)I" } : Jvm.MethodName)), (Jvm.Cond.selects "PushTray" ({ cls := "PushTray", name := "home", desc := "(II)I" } : Jvm.MethodName) ({ cls := "PushTray", name := "home", desc := "(II)I" } : Jvm.MethodName)), (Jvm.Cond.code ({ cls := "PushTray", name := "home", desc := "(II)I" } : Jvm.MethodName) prog_1_method_15_code (3 : Nat) (Option.some Jvm.ClassFile.FieldType.int)), (Jvm.Cond.methodLink "PushTrayLaw" (72 : Nat) ({ cls := "PushTray", name := "swaps", desc := "()I" } : Jvm.MethodName)), (Jvm.Cond.instanceMethod ({ cls := "PushTray", name := "swaps", desc := "()I" } : Jvm.MethodName)), (Jvm.Cond.selects "PushTray" ({ cls := "PushTray", name := "swaps", desc := "()I" } : Jvm.MethodName) ({ cls := "PushTray", name := "swaps", desc := "()I" } : Jvm.MethodName)), (Jvm.Cond.code ({ cls := "PushTray", name := "swaps", desc := "()I" } : Jvm.MethodName) prog_1_method_16_code (1 : Nat) (Option.some Jvm.ClassFile.FieldType.int)), (Jvm.Cond.methodLink "PushTray" (178 : Nat) ({ cls := "PushTray", name := "circles", desc := "()I" } : Jvm.MethodName)), (Jvm.Cond.privateMethod ({ cls := "PushTray", name := "circles", desc := "()I" } : Jvm.MethodName)), (Jvm.Cond.instanceMethod ({ cls := "PushTray", name := "circles", desc := "()I" } : Jvm.MethodName)), (Jvm.Cond.code ({ cls := "PushTray", name := "circles", desc := "()I" } : Jvm.MethodName) prog_1_method_50_code (6 : Nat) (Option.some Jvm.ClassFile.FieldType.int)), (Jvm.Cond.methodLink "PushTrayLaw" (76 : Nat) ({ cls := "PushTray", name := "cheap", desc := "(I)I" } : Jvm.MethodName))]
def xt_2_12 : List Cond := [(Jvm.Cond.instanceMethod ({ cls := "PushTray", name := "cheap", desc := "(I)I" } : Jvm.MethodName)), (Jvm.Cond.selects "PushTray" ({ cls := "PushTray", name := "cheap", desc := "(I)I" } : Jvm.MethodName) ({ cls := "PushTray", name := "cheap", desc := "(I)I" } : Jvm.MethodName)), (Jvm.Cond.code ({ cls := "PushTray", name := "cheap", desc := "(I)I" } : Jvm.MethodName) prog_1_method_17_code (7 : Nat) (Option.some Jvm.ClassFile.FieldType.int)), (Jvm.Cond.methodLink "PushTrayLaw" (80 : Nat) ({ cls := "PushTray", name := "odds", desc := "(IIII)I" } : Jvm.MethodName)), (Jvm.Cond.instanceMethod ({ cls := "PushTray", name := "odds", desc := "(IIII)I" } : Jvm.MethodName)), (Jvm.Cond.selects "PushTray" ({ cls := "PushTray", name := "odds", desc := "(IIII)I" } : Jvm.MethodName) ({ cls := "PushTray", name := "odds", desc := "(IIII)I" } : Jvm.MethodName)), (Jvm.Cond.code ({ cls := "PushTray", name := "odds", desc := "(IIII)I" } : Jvm.MethodName) prog_1_method_18_code (7 : Nat) (Option.some Jvm.ClassFile.FieldType.int)), (Jvm.Cond.methodLink "PushTray" (184 : Nat) ({ cls := "PushTray$Chances", name := "drawFrom", desc := "(III)V" } : Jvm.MethodName)), (Jvm.Cond.instanceMethod ({ cls := "PushTray$Chances", name := "drawFrom", desc := "(III)V" } : Jvm.MethodName)), (Jvm.Cond.selects "PushTray$Chances" ({ cls := "PushTray$Chances", name := "drawFrom", desc := "(III)V" } : Jvm.MethodName) ({ cls := "PushTray$Chances", name := "drawFrom", desc := "(III)V" } : Jvm.MethodName)), (Jvm.Cond.code ({ cls := "PushTray$Chances", name := "drawFrom", desc := "(III)V" } : Jvm.MethodName) prog_2_method_2_code (6 : Nat) (Option.none : Option Jvm.ClassFile.FieldType)), (Jvm.Cond.methodLink "PushTray$Chances" (32 : Nat) ({ cls := "java/util/Arrays", name := "fill", desc := "([II)V" } : Jvm.MethodName)), (Jvm.Cond.methodLinkNest "PushTray$Chances" (38 : Nat) ({ cls := "PushTray", name := "isWithin", desc := "(III)Z" } : Jvm.MethodName) "PushTray"), (Jvm.Cond.constant "PushTray$Chances" (42 : Nat) (46656 : Int32)), (Jvm.Cond.methodLink "PushTray$Chances" (43 : Nat) ({ cls := "PushTray$Lays", name := "choices", desc := "(II)I" } : Jvm.MethodName)), (Jvm.Cond.instanceMethod ({ cls := "PushTray$Lays", name := "choices", desc := "(II)I" } : Jvm.MethodName))]
def xt_2_13 : List Cond := [(Jvm.Cond.selects "PushTray$Lays" ({ cls := "PushTray$Lays", name := "choices", desc := "(II)I" } : Jvm.MethodName) ({ cls := "PushTray$Lays", name := "choices", desc := "(II)I" } : Jvm.MethodName)), (Jvm.Cond.code ({ cls := "PushTray$Lays", name := "choices", desc := "(II)I" } : Jvm.MethodName) prog_4_method_12_code (5 : Nat) (Option.some Jvm.ClassFile.FieldType.int)), (Jvm.Cond.methodLink "PushTray$Lays" (84 : Nat) ({ cls := "PushTray$Lays", name := "price", desc := "(III)I" } : Jvm.MethodName)), (Jvm.Cond.methodLink "PushTray$Chances" (49 : Nat) ({ cls := "PushTray$Chances", name := "share", desc := "(III)V" } : Jvm.MethodName)), (Jvm.Cond.privateMethod ({ cls := "PushTray$Chances", name := "share", desc := "(III)V" } : Jvm.MethodName)), (Jvm.Cond.instanceMethod ({ cls := "PushTray$Chances", name := "share", desc := "(III)V" } : Jvm.MethodName)), (Jvm.Cond.code ({ cls := "PushTray$Chances", name := "share", desc := "(III)V" } : Jvm.MethodName) prog_2_method_3_code (5 : Nat) (Option.none : Option Jvm.ClassFile.FieldType)), (Jvm.Cond.methodLink "PushTray$Chances" (53 : Nat) ({ cls := "PushTray$Chances", name := "give", desc := "(II)V" } : Jvm.MethodName)), (Jvm.Cond.privateMethod ({ cls := "PushTray$Chances", name := "give", desc := "(II)V" } : Jvm.MethodName)), (Jvm.Cond.instanceMethod ({ cls := "PushTray$Chances", name := "give", desc := "(II)V" } : Jvm.MethodName)), (Jvm.Cond.code ({ cls := "PushTray$Chances", name := "give", desc := "(II)V" } : Jvm.MethodName) prog_2_method_4_code (3 : Nat) (Option.none : Option Jvm.ClassFile.FieldType)), (Jvm.Cond.methodLink "PushTray$Chances" (57 : Nat) ({ cls := "PushTray$Lays", name := "price", desc := "(III)I" } : Jvm.MethodName)), (Jvm.Cond.methodLink "PushTray$Chances" (61 : Nat) ({ cls := "PushTray$Lays", name := "pushed", desc := "(II)I" } : Jvm.MethodName)), (Jvm.Cond.methodLink "PushTray" (187 : Nat) ({ cls := "PushTray$Chances", name := "partsWith", desc := "(II)I" } : Jvm.MethodName)), (Jvm.Cond.instanceMethod ({ cls := "PushTray$Chances", name := "partsWith", desc := "(II)I" } : Jvm.MethodName)), (Jvm.Cond.selects "PushTray$Chances" ({ cls := "PushTray$Chances", name := "partsWith", desc := "(II)I" } : Jvm.MethodName) ({ cls := "PushTray$Chances", name := "partsWith", desc := "(II)I" } : Jvm.MethodName))]
def xt_2_14 : List Cond := [(Jvm.Cond.code ({ cls := "PushTray$Chances", name := "partsWith", desc := "(II)I" } : Jvm.MethodName) prog_2_method_5_code (5 : Nat) (Option.some Jvm.ClassFile.FieldType.int)), (Jvm.Cond.methodLink "PushTray$Chances" (64 : Nat) ({ cls := "PushTray$Lays", name := "place", desc := "(II)I" } : Jvm.MethodName)), (Jvm.Cond.constant "PushTray" (190 : Nat) (46656 : Int32)), (Jvm.Cond.methodLink "PushTray" (191 : Nat) ({ cls := "PushTray", name := "greatestDivisor", desc := "(II)I" } : Jvm.MethodName)), (Jvm.Cond.static ({ cls := "PushTray", name := "greatestDivisor", desc := "(II)I" } : Jvm.MethodName)), (Jvm.Cond.code ({ cls := "PushTray", name := "greatestDivisor", desc := "(II)I" } : Jvm.MethodName) prog_1_method_56_code (6 : Nat) (Option.some Jvm.ClassFile.FieldType.int)), (Jvm.Cond.methodLink "PushTrayLaw" (85 : Nat) ({ cls := "PushTray", name := "see", desc := "(III)I" } : Jvm.MethodName)), (Jvm.Cond.instanceMethod ({ cls := "PushTray", name := "see", desc := "(III)I" } : Jvm.MethodName)), (Jvm.Cond.selects "PushTray" ({ cls := "PushTray", name := "see", desc := "(III)I" } : Jvm.MethodName) ({ cls := "PushTray", name := "see", desc := "(III)I" } : Jvm.MethodName)), (Jvm.Cond.code ({ cls := "PushTray", name := "see", desc := "(III)I" } : Jvm.MethodName) prog_1_method_19_code (4 : Nat) (Option.some Jvm.ClassFile.FieldType.int)), (Jvm.Cond.methodLink "PushTray" (205 : Nat) ({ cls := "PushTray$Standing", name := "narrow", desc := "(II)V" } : Jvm.MethodName)), (Jvm.Cond.instanceMethod ({ cls := "PushTray$Standing", name := "narrow", desc := "(II)V" } : Jvm.MethodName)), (Jvm.Cond.selects "PushTray$Standing" ({ cls := "PushTray$Standing", name := "narrow", desc := "(II)V" } : Jvm.MethodName) ({ cls := "PushTray$Standing", name := "narrow", desc := "(II)V" } : Jvm.MethodName)), (Jvm.Cond.code ({ cls := "PushTray$Standing", name := "narrow", desc := "(II)V" } : Jvm.MethodName) prog_6_method_4_code (3 : Nat) (Option.none : Option Jvm.ClassFile.FieldType)), (Jvm.Cond.methodLink "PushTrayLaw" (90 : Nat) ({ cls := "PushTray", name := "forget", desc := "()I" } : Jvm.MethodName)), (Jvm.Cond.instanceMethod ({ cls := "PushTray", name := "forget", desc := "()I" } : Jvm.MethodName))]
set_option maxRecDepth 20000 in
theorem xt_2 : tables_1_2 = xt_2_0 ++ (xt_2_1 ++ (xt_2_2 ++ (xt_2_3 ++ (xt_2_4 ++ (xt_2_5 ++ (xt_2_6 ++ (xt_2_7 ++ (xt_2_8 ++ (xt_2_9 ++ (xt_2_10 ++ (xt_2_11 ++ (xt_2_12 ++ (xt_2_13 ++ (xt_2_14)))))))))))))) := by rfl
theorem xm_2_0 {w : Cond} (h : w ∈ xt_2_0) (hg : goodWord w = true) : w ∈ XW := xin2 (by rw [xt_2]; exact List.mem_append_left _ h) hg
theorem xm_2_1 {w : Cond} (h : w ∈ xt_2_1) (hg : goodWord w = true) : w ∈ XW := xin2 (by rw [xt_2]; exact List.mem_append_right _ (List.mem_append_left _ h)) hg
theorem xm_2_2 {w : Cond} (h : w ∈ xt_2_2) (hg : goodWord w = true) : w ∈ XW := xin2 (by rw [xt_2]; exact List.mem_append_right _ (List.mem_append_right _ (List.mem_append_left _ h))) hg
theorem xm_2_3 {w : Cond} (h : w ∈ xt_2_3) (hg : goodWord w = true) : w ∈ XW := xin2 (by rw [xt_2]; exact List.mem_append_right _ (List.mem_append_right _ (List.mem_append_right _ (List.mem_append_left _ h)))) hg
theorem xm_2_4 {w : Cond} (h : w ∈ xt_2_4) (hg : goodWord w = true) : w ∈ XW := xin2 (by rw [xt_2]; exact List.mem_append_right _ (List.mem_append_right _ (List.mem_append_right _ (List.mem_append_right _ (List.mem_append_left _ h))))) hg
theorem xm_2_5 {w : Cond} (h : w ∈ xt_2_5) (hg : goodWord w = true) : w ∈ XW := xin2 (by rw [xt_2]; exact List.mem_append_right _ (List.mem_append_right _ (List.mem_append_right _ (List.mem_append_right _ (List.mem_append_right _ (List.mem_append_left _ h)))))) hg
theorem xm_2_6 {w : Cond} (h : w ∈ xt_2_6) (hg : goodWord w = true) : w ∈ XW := xin2 (by rw [xt_2]; exact List.mem_append_right _ (List.mem_append_right _ (List.mem_append_right _ (List.mem_append_right _ (List.mem_append_right _ (List.mem_append_right _ (List.mem_append_left _ h))))))) hg
theorem xm_2_7 {w : Cond} (h : w ∈ xt_2_7) (hg : goodWord w = true) : w ∈ XW := xin2 (by rw [xt_2]; exact List.mem_append_right _ (List.mem_append_right _ (List.mem_append_right _ (List.mem_append_right _ (List.mem_append_right _ (List.mem_append_right _ (List.mem_append_right _ (List.mem_append_left _ h)))))))) hg
theorem xm_2_8 {w : Cond} (h : w ∈ xt_2_8) (hg : goodWord w = true) : w ∈ XW := xin2 (by rw [xt_2]; exact List.mem_append_right _ (List.mem_append_right _ (List.mem_append_right _ (List.mem_append_right _ (List.mem_append_right _ (List.mem_append_right _ (List.mem_append_right _ (List.mem_append_right _ (List.mem_append_left _ h))))))))) hg
theorem xm_2_9 {w : Cond} (h : w ∈ xt_2_9) (hg : goodWord w = true) : w ∈ XW := xin2 (by rw [xt_2]; exact List.mem_append_right _ (List.mem_append_right _ (List.mem_append_right _ (List.mem_append_right _ (List.mem_append_right _ (List.mem_append_right _ (List.mem_append_right _ (List.mem_append_right _ (List.mem_append_right _ (List.mem_append_left _ h)))))))))) hg
theorem xm_2_10 {w : Cond} (h : w ∈ xt_2_10) (hg : goodWord w = true) : w ∈ XW := xin2 (by rw [xt_2]; exact List.mem_append_right _ (List.mem_append_right _ (List.mem_append_right _ (List.mem_append_right _ (List.mem_append_right _ (List.mem_append_right _ (List.mem_append_right _ (List.mem_append_right _ (List.mem_append_right _ (List.mem_append_right _ (List.mem_append_left _ h))))))))))) hg
theorem xm_2_11 {w : Cond} (h : w ∈ xt_2_11) (hg : goodWord w = true) : w ∈ XW := xin2 (by rw [xt_2]; exact List.mem_append_right _ (List.mem_append_right _ (List.mem_append_right _ (List.mem_append_right _ (List.mem_append_right _ (List.mem_append_right _ (List.mem_append_right _ (List.mem_append_right _ (List.mem_append_right _ (List.mem_append_right _ (List.mem_append_right _ (List.mem_append_left _ h)))))))))))) hg
theorem xm_2_12 {w : Cond} (h : w ∈ xt_2_12) (hg : goodWord w = true) : w ∈ XW := xin2 (by rw [xt_2]; exact List.mem_append_right _ (List.mem_append_right _ (List.mem_append_right _ (List.mem_append_right _ (List.mem_append_right _ (List.mem_append_right _ (List.mem_append_right _ (List.mem_append_right _ (List.mem_append_right _ (List.mem_append_right _ (List.mem_append_right _ (List.mem_append_right _ (List.mem_append_left _ h))))))))))))) hg
theorem xm_2_13 {w : Cond} (h : w ∈ xt_2_13) (hg : goodWord w = true) : w ∈ XW := xin2 (by rw [xt_2]; exact List.mem_append_right _ (List.mem_append_right _ (List.mem_append_right _ (List.mem_append_right _ (List.mem_append_right _ (List.mem_append_right _ (List.mem_append_right _ (List.mem_append_right _ (List.mem_append_right _ (List.mem_append_right _ (List.mem_append_right _ (List.mem_append_right _ (List.mem_append_right _ (List.mem_append_left _ h)))))))))))))) hg
theorem xm_2_14 {w : Cond} (h : w ∈ xt_2_14) (hg : goodWord w = true) : w ∈ XW := xin2 (by rw [xt_2]; exact List.mem_append_right _ (List.mem_append_right _ (List.mem_append_right _ (List.mem_append_right _ (List.mem_append_right _ (List.mem_append_right _ (List.mem_append_right _ (List.mem_append_right _ (List.mem_append_right _ (List.mem_append_right _ (List.mem_append_right _ (List.mem_append_right _ (List.mem_append_right _ (List.mem_append_right _ (h))))))))))))))) hg
def xt_3_0 : List Cond := [(Jvm.Cond.selects "PushTray" ({ cls := "PushTray", name := "forget", desc := "()I" } : Jvm.MethodName) ({ cls := "PushTray", name := "forget", desc := "()I" } : Jvm.MethodName)), (Jvm.Cond.code ({ cls := "PushTray", name := "forget", desc := "()I" } : Jvm.MethodName) prog_1_method_20_code (2 : Nat) (Option.some Jvm.ClassFile.FieldType.int)), (Jvm.Cond.methodLink "PushTray" (208 : Nat) ({ cls := "PushTray$Standing", name := "forgetSeen", desc := "()V" } : Jvm.MethodName)), (Jvm.Cond.methodLink "PushTrayLaw" (94 : Nat) ({ cls := "PushTray", name := "runs", desc := "(III)I" } : Jvm.MethodName)), (Jvm.Cond.instanceMethod ({ cls := "PushTray", name := "runs", desc := "(III)I" } : Jvm.MethodName)), (Jvm.Cond.selects "PushTray" ({ cls := "PushTray", name := "runs", desc := "(III)I" } : Jvm.MethodName) ({ cls := "PushTray", name := "runs", desc := "(III)I" } : Jvm.MethodName)), (Jvm.Cond.code ({ cls := "PushTray", name := "runs", desc := "(III)I" } : Jvm.MethodName) prog_1_method_21_code (10 : Nat) (Option.some Jvm.ClassFile.FieldType.int)), (Jvm.Cond.methodLink "PushTray" (211 : Nat) ({ cls := "PushTray$Lays", name := "choices", desc := "(II)I" } : Jvm.MethodName)), (Jvm.Cond.methodLink "PushTray" (214 : Nat) ({ cls := "PushTray", name := "nextSeed", desc := "(I)I" } : Jvm.MethodName)), (Jvm.Cond.static ({ cls := "PushTray", name := "nextSeed", desc := "(I)I" } : Jvm.MethodName)), (Jvm.Cond.code ({ cls := "PushTray", name := "nextSeed", desc := "(I)I" } : Jvm.MethodName) prog_1_method_55_code (1 : Nat) (Option.some Jvm.ClassFile.FieldType.int)), (Jvm.Cond.constantLong "PushTray" (309 : Nat) (1103515245 : Int64)), (Jvm.Cond.constantLong "PushTray" (311 : Nat) (12345 : Int64)), (Jvm.Cond.constantLong "PushTray" (313 : Nat) (2147483648 : Int64)), (Jvm.Cond.constant "PushTray" (217 : Nat) (65536 : Int32)), (Jvm.Cond.methodLink "PushTray" (218 : Nat) ({ cls := "PushTray$Lays", name := "choice", desc := "(III)I" } : Jvm.MethodName))]
def xt_3_1 : List Cond := [(Jvm.Cond.instanceMethod ({ cls := "PushTray$Lays", name := "choice", desc := "(III)I" } : Jvm.MethodName)), (Jvm.Cond.selects "PushTray$Lays" ({ cls := "PushTray$Lays", name := "choice", desc := "(III)I" } : Jvm.MethodName) ({ cls := "PushTray$Lays", name := "choice", desc := "(III)I" } : Jvm.MethodName)), (Jvm.Cond.code ({ cls := "PushTray$Lays", name := "choice", desc := "(III)I" } : Jvm.MethodName) prog_4_method_13_code (6 : Nat) (Option.some Jvm.ClassFile.FieldType.int)), (Jvm.Cond.methodLink "PushTray" (221 : Nat) ({ cls := "PushTray", name := "cellsAlike", desc := "(II)I" } : Jvm.MethodName)), (Jvm.Cond.privateMethod ({ cls := "PushTray", name := "cellsAlike", desc := "(II)I" } : Jvm.MethodName)), (Jvm.Cond.instanceMethod ({ cls := "PushTray", name := "cellsAlike", desc := "(II)I" } : Jvm.MethodName)), (Jvm.Cond.code ({ cls := "PushTray", name := "cellsAlike", desc := "(II)I" } : Jvm.MethodName) prog_1_method_51_code (5 : Nat) (Option.some Jvm.ClassFile.FieldType.int)), (Jvm.Cond.methodLink "PushTrayLaw" (98 : Nat) ({ cls := "PushTray", name := "image", desc := "()I" } : Jvm.MethodName)), (Jvm.Cond.instanceMethod ({ cls := "PushTray", name := "image", desc := "()I" } : Jvm.MethodName)), (Jvm.Cond.selects "PushTray" ({ cls := "PushTray", name := "image", desc := "()I" } : Jvm.MethodName) ({ cls := "PushTray", name := "image", desc := "()I" } : Jvm.MethodName)), (Jvm.Cond.code ({ cls := "PushTray", name := "image", desc := "()I" } : Jvm.MethodName) prog_1_method_22_code (1 : Nat) (Option.some Jvm.ClassFile.FieldType.int)), (Jvm.Cond.methodLink "PushTray" (224 : Nat) ({ cls := "PushTray$Standing", name := "copy", desc := "(LPushTray$Standing;)V" } : Jvm.MethodName)), (Jvm.Cond.instanceMethod ({ cls := "PushTray$Standing", name := "copy", desc := "(LPushTray$Standing;)V" } : Jvm.MethodName)), (Jvm.Cond.selects "PushTray$Standing" ({ cls := "PushTray$Standing", name := "copy", desc := "(LPushTray$Standing;)V" } : Jvm.MethodName) ({ cls := "PushTray$Standing", name := "copy", desc := "(LPushTray$Standing;)V" } : Jvm.MethodName)), (Jvm.Cond.code ({ cls := "PushTray$Standing", name := "copy", desc := "(LPushTray$Standing;)V" } : Jvm.MethodName) prog_6_method_6_code (2 : Nat) (Option.none : Option Jvm.ClassFile.FieldType)), (Jvm.Cond.methodLink "PushTray$Standing" (47 : Nat) ({ cls := "PushTray$Standing", name := "start", desc := "(III)V" } : Jvm.MethodName))]
def xt_3_2 : List Cond := [(Jvm.Cond.methodLink "PushTray$Standing" (51 : Nat) ({ cls := "java/lang/System", name := "arraycopy", desc := "(Ljava/lang/Object;ILjava/lang/Object;II)V" } : Jvm.MethodName)), (Jvm.Cond.static ({ cls := "java/lang/System", name := "arraycopy", desc := "(Ljava/lang/Object;ILjava/lang/Object;II)V" } : Jvm.MethodName)), (Jvm.Cond.native ({ cls := "java/lang/System", name := "arraycopy", desc := "(Ljava/lang/Object;ILjava/lang/Object;II)V" } : Jvm.MethodName)), (Jvm.Cond.methodLink "PushTrayLaw" (102 : Nat) ({ cls := "PushTray", name := "restore", desc := "()I" } : Jvm.MethodName)), (Jvm.Cond.instanceMethod ({ cls := "PushTray", name := "restore", desc := "()I" } : Jvm.MethodName)), (Jvm.Cond.selects "PushTray" ({ cls := "PushTray", name := "restore", desc := "()I" } : Jvm.MethodName) ({ cls := "PushTray", name := "restore", desc := "()I" } : Jvm.MethodName)), (Jvm.Cond.code ({ cls := "PushTray", name := "restore", desc := "()I" } : Jvm.MethodName) prog_1_method_23_code (1 : Nat) (Option.some Jvm.ClassFile.FieldType.int)), (Jvm.Cond.methodLink "PushTrayLaw" (106 : Nat) ({ cls := "PushTray", name := "count", desc := "(I)I" } : Jvm.MethodName)), (Jvm.Cond.instanceMethod ({ cls := "PushTray", name := "count", desc := "(I)I" } : Jvm.MethodName)), (Jvm.Cond.selects "PushTray" ({ cls := "PushTray", name := "count", desc := "(I)I" } : Jvm.MethodName) ({ cls := "PushTray", name := "count", desc := "(I)I" } : Jvm.MethodName)), (Jvm.Cond.code ({ cls := "PushTray", name := "count", desc := "(I)I" } : Jvm.MethodName) prog_1_method_24_code (2 : Nat) (Option.some Jvm.ClassFile.FieldType.int)), (Jvm.Cond.methodLink "PushTrayLaw" (110 : Nat) ({ cls := "PushTray", name := "digest", desc := "()J" } : Jvm.MethodName)), (Jvm.Cond.instanceMethod ({ cls := "PushTray", name := "digest", desc := "()J" } : Jvm.MethodName)), (Jvm.Cond.selects "PushTray" ({ cls := "PushTray", name := "digest", desc := "()J" } : Jvm.MethodName) ({ cls := "PushTray", name := "digest", desc := "()J" } : Jvm.MethodName)), (Jvm.Cond.code ({ cls := "PushTray", name := "digest", desc := "()J" } : Jvm.MethodName) prog_1_method_25_code (4 : Nat) (Option.some Jvm.ClassFile.FieldType.long)), (Jvm.Cond.constantLong "PushTray" (228 : Nat) (1291 : Int64))]
def xt_3_3 : List Cond := [(Jvm.Cond.methodLink "PushTray" (230 : Nat) ({ cls := "PushTray", name := "mixTiles", desc := "(J)J" } : Jvm.MethodName)), (Jvm.Cond.privateMethod ({ cls := "PushTray", name := "mixTiles", desc := "(J)J" } : Jvm.MethodName)), (Jvm.Cond.instanceMethod ({ cls := "PushTray", name := "mixTiles", desc := "(J)J" } : Jvm.MethodName)), (Jvm.Cond.code ({ cls := "PushTray", name := "mixTiles", desc := "(J)J" } : Jvm.MethodName) prog_1_method_26_code (7 : Nat) (Option.some Jvm.ClassFile.FieldType.long)), (Jvm.Cond.methodLink "PushTray" (247 : Nat) ({ cls := "PushTray", name := "tile", desc := "(II)I" } : Jvm.MethodName)), (Jvm.Cond.methodLink "PushTray" (240 : Nat) ({ cls := "PushTray", name := "mix", desc := "(JJ)J" } : Jvm.MethodName)), (Jvm.Cond.static ({ cls := "PushTray", name := "mix", desc := "(JJ)J" } : Jvm.MethodName)), (Jvm.Cond.code ({ cls := "PushTray", name := "mix", desc := "(JJ)J" } : Jvm.MethodName) prog_1_method_29_code (4 : Nat) (Option.some Jvm.ClassFile.FieldType.long)), (Jvm.Cond.constantLong "PushTray" (269 : Nat) (31 : Int64)), (Jvm.Cond.methodLink "PushTray" (250 : Nat) ({ cls := "PushTray", name := "home", desc := "(II)I" } : Jvm.MethodName)), (Jvm.Cond.methodLink "PushTray" (253 : Nat) ({ cls := "PushTray", name := "odds", desc := "(IIII)I" } : Jvm.MethodName)), (Jvm.Cond.methodLink "PushTray" (234 : Nat) ({ cls := "PushTray", name := "mixCells", desc := "(J)J" } : Jvm.MethodName)), (Jvm.Cond.privateMethod ({ cls := "PushTray", name := "mixCells", desc := "(J)J" } : Jvm.MethodName)), (Jvm.Cond.instanceMethod ({ cls := "PushTray", name := "mixCells", desc := "(J)J" } : Jvm.MethodName)), (Jvm.Cond.code ({ cls := "PushTray", name := "mixCells", desc := "(J)J" } : Jvm.MethodName) prog_1_method_27_code (7 : Nat) (Option.some Jvm.ClassFile.FieldType.long)), (Jvm.Cond.methodLink "PushTray" (257 : Nat) ({ cls := "PushTray", name := "cell", desc := "(II)I" } : Jvm.MethodName))]
def xt_3_4 : List Cond := [(Jvm.Cond.methodLink "PushTray" (237 : Nat) ({ cls := "PushTray", name := "mixCosts", desc := "(J)J" } : Jvm.MethodName)), (Jvm.Cond.privateMethod ({ cls := "PushTray", name := "mixCosts", desc := "(J)J" } : Jvm.MethodName)), (Jvm.Cond.instanceMethod ({ cls := "PushTray", name := "mixCosts", desc := "(J)J" } : Jvm.MethodName)), (Jvm.Cond.code ({ cls := "PushTray", name := "mixCosts", desc := "(J)J" } : Jvm.MethodName) prog_1_method_28_code (6 : Nat) (Option.some Jvm.ClassFile.FieldType.long)), (Jvm.Cond.methodLink "PushTray" (260 : Nat) ({ cls := "PushTray", name := "least", desc := "(I)I" } : Jvm.MethodName)), (Jvm.Cond.methodLink "PushTray" (263 : Nat) ({ cls := "PushTray", name := "reach", desc := "(I)I" } : Jvm.MethodName)), (Jvm.Cond.methodLink "PushTray" (266 : Nat) ({ cls := "PushTray", name := "swaps", desc := "()I" } : Jvm.MethodName)), (Jvm.Cond.methodLink "PushTray" (244 : Nat) ({ cls := "PushTray", name := "count", desc := "(I)I" } : Jvm.MethodName)), (Jvm.Cond.classLink "PushTrayLaw" (10 : Nat) "PushTrayModel"), (Jvm.Cond.instantiable "PushTrayModel" (30 : Nat)), (Jvm.Cond.methodLink "PushTrayLaw" (12 : Nat) ({ cls := "PushTrayModel", name := "<init>", desc := "()V" } : Jvm.MethodName)), (Jvm.Cond.instanceMethod ({ cls := "PushTrayModel", name := "<init>", desc := "()V" } : Jvm.MethodName)), (Jvm.Cond.code ({ cls := "PushTrayModel", name := "<init>", desc := "()V" } : Jvm.MethodName) prog_8_method_1_code (1 : Nat) (Option.none : Option Jvm.ClassFile.FieldType)), (Jvm.Cond.methodLink "PushTrayModel" (1 : Nat) ({ cls := "java/lang/Object", name := "<init>", desc := "()V" } : Jvm.MethodName)), (Jvm.Cond.fieldLink "PushTrayModel" (95 : Nat) "PushTrayModel" "trays" "I"), (Jvm.Cond.fieldLink "PushTrayModel" (83 : Nat) "PushTrayModel" "lies" "I")]
def xt_3_5 : List Cond := [(Jvm.Cond.fieldLink "PushTrayModel" (86 : Nat) "PushTrayModel" "goal" "I"), (Jvm.Cond.fieldLink "PushTrayModel" (7 : Nat) "PushTrayModel" "kindOf" "[I"), (Jvm.Cond.fieldLink "PushTrayModel" (89 : Nat) "PushTrayModel" "pushes" "I"), (Jvm.Cond.fieldLink "PushTrayModel" (92 : Nat) "PushTrayModel" "costs" "I"), (Jvm.Cond.fieldLink "PushTrayModel" (181 : Nat) "PushTrayModel" "asks" "I"), (Jvm.Cond.fieldLink "PushTrayModel" (98 : Nat) "PushTrayModel" "seen" "I"), (Jvm.Cond.fieldLink "PushTrayModel" (13 : Nat) "PushTrayModel" "seenTile" "[I"), (Jvm.Cond.fieldLink "PushTrayModel" (16 : Nat) "PushTrayModel" "seenWay" "[I"), (Jvm.Cond.fieldLink "PushTrayModel" (19 : Nat) "PushTrayModel" "seenCost" "[I"), (Jvm.Cond.fieldLink "PushTrayModel" (51 : Nat) "PushTrayModel" "pageLength" "I"), (Jvm.Cond.fieldLink "PushTrayModel" (22 : Nat) "PushTrayModel" "page" "[B"), (Jvm.Cond.fieldLink "PushTrayModel" (66 : Nat) "PushTrayModel" "isWhole" "Z"), (Jvm.Cond.fieldLink "PushTrayModel" (26 : Nat) "PushTrayModel" "costTo" "[I"), (Jvm.Cond.fieldLink "PushTrayModel" (29 : Nat) "PushTrayModel" "partsOf" "[I"), (Jvm.Cond.fieldLink "PushTrayModel" (32 : Nat) "PushTrayModel" "partsNext" "[I"), (Jvm.Cond.fieldLink "PushTrayModel" (209 : Nat) "PushTrayModel" "seedNow" "J")]
def xt_3_6 : List Cond := [(Jvm.Cond.fieldLink "PushTrayModel" (231 : Nat) "PushTrayModel" "isKept" "Z"), (Jvm.Cond.fieldLink "PushTrayModel" (234 : Nat) "PushTrayModel" "keptTray" "I"), (Jvm.Cond.fieldLink "PushTrayModel" (237 : Nat) "PushTrayModel" "keptLies" "I"), (Jvm.Cond.fieldLink "PushTrayModel" (240 : Nat) "PushTrayModel" "keptGoal" "I"), (Jvm.Cond.fieldLink "PushTrayModel" (243 : Nat) "PushTrayModel" "keptPushes" "I"), (Jvm.Cond.fieldLink "PushTrayModel" (246 : Nat) "PushTrayModel" "keptCosts" "I"), (Jvm.Cond.fieldLink "PushTrayModel" (249 : Nat) "PushTrayModel" "keptSeen" "I"), (Jvm.Cond.fieldLink "PushTrayModel" (35 : Nat) "PushTrayModel" "keptKind" "[I"), (Jvm.Cond.fieldLink "PushTrayModel" (38 : Nat) "PushTrayModel" "keptTile" "[I"), (Jvm.Cond.fieldLink "PushTrayModel" (41 : Nat) "PushTrayModel" "keptWay" "[I"), (Jvm.Cond.fieldLink "PushTrayModel" (44 : Nat) "PushTrayModel" "keptCost" "[I"), (Jvm.Cond.fieldLink "PushTrayModel" (260 : Nat) "PushTrayModel" "h" "J"), (Jvm.Cond.lays "PushTrayModel" "PushTrayModel" "trays" "I"), (Jvm.Cond.soleField "PushTrayModel" "trays"), (Jvm.Cond.lays "PushTrayModel" "PushTrayModel" "lies" "I"), (Jvm.Cond.soleField "PushTrayModel" "lies")]
def xt_3_7 : List Cond := [(Jvm.Cond.lays "PushTrayModel" "PushTrayModel" "goal" "I"), (Jvm.Cond.soleField "PushTrayModel" "goal"), (Jvm.Cond.laysFinal "PushTrayModel" "PushTrayModel" "kindOf" "[I"), (Jvm.Cond.soleField "PushTrayModel" "kindOf"), (Jvm.Cond.lays "PushTrayModel" "PushTrayModel" "pushes" "I"), (Jvm.Cond.soleField "PushTrayModel" "pushes"), (Jvm.Cond.lays "PushTrayModel" "PushTrayModel" "costs" "I"), (Jvm.Cond.soleField "PushTrayModel" "costs"), (Jvm.Cond.lays "PushTrayModel" "PushTrayModel" "asks" "I"), (Jvm.Cond.soleField "PushTrayModel" "asks"), (Jvm.Cond.lays "PushTrayModel" "PushTrayModel" "seen" "I"), (Jvm.Cond.soleField "PushTrayModel" "seen"), (Jvm.Cond.laysFinal "PushTrayModel" "PushTrayModel" "seenTile" "[I"), (Jvm.Cond.soleField "PushTrayModel" "seenTile"), (Jvm.Cond.laysFinal "PushTrayModel" "PushTrayModel" "seenWay" "[I"), (Jvm.Cond.soleField "PushTrayModel" "seenWay")]
def xt_3_8 : List Cond := [(Jvm.Cond.laysFinal "PushTrayModel" "PushTrayModel" "seenCost" "[I"), (Jvm.Cond.soleField "PushTrayModel" "seenCost"), (Jvm.Cond.lays "PushTrayModel" "PushTrayModel" "pageLength" "I"), (Jvm.Cond.soleField "PushTrayModel" "pageLength"), (Jvm.Cond.laysFinal "PushTrayModel" "PushTrayModel" "page" "[B"), (Jvm.Cond.soleField "PushTrayModel" "page"), (Jvm.Cond.lays "PushTrayModel" "PushTrayModel" "isWhole" "Z"), (Jvm.Cond.soleField "PushTrayModel" "isWhole"), (Jvm.Cond.laysFinal "PushTrayModel" "PushTrayModel" "costTo" "[I"), (Jvm.Cond.soleField "PushTrayModel" "costTo"), (Jvm.Cond.laysFinal "PushTrayModel" "PushTrayModel" "partsOf" "[I"), (Jvm.Cond.soleField "PushTrayModel" "partsOf"), (Jvm.Cond.laysFinal "PushTrayModel" "PushTrayModel" "partsNext" "[I"), (Jvm.Cond.soleField "PushTrayModel" "partsNext"), (Jvm.Cond.lays "PushTrayModel" "PushTrayModel" "seedNow" "J"), (Jvm.Cond.soleField "PushTrayModel" "seedNow")]
def xt_3_9 : List Cond := [(Jvm.Cond.lays "PushTrayModel" "PushTrayModel" "isKept" "Z"), (Jvm.Cond.soleField "PushTrayModel" "isKept"), (Jvm.Cond.lays "PushTrayModel" "PushTrayModel" "keptTray" "I"), (Jvm.Cond.soleField "PushTrayModel" "keptTray"), (Jvm.Cond.lays "PushTrayModel" "PushTrayModel" "keptLies" "I"), (Jvm.Cond.soleField "PushTrayModel" "keptLies"), (Jvm.Cond.lays "PushTrayModel" "PushTrayModel" "keptGoal" "I"), (Jvm.Cond.soleField "PushTrayModel" "keptGoal"), (Jvm.Cond.lays "PushTrayModel" "PushTrayModel" "keptPushes" "I"), (Jvm.Cond.soleField "PushTrayModel" "keptPushes"), (Jvm.Cond.lays "PushTrayModel" "PushTrayModel" "keptCosts" "I"), (Jvm.Cond.soleField "PushTrayModel" "keptCosts"), (Jvm.Cond.lays "PushTrayModel" "PushTrayModel" "keptSeen" "I"), (Jvm.Cond.soleField "PushTrayModel" "keptSeen"), (Jvm.Cond.laysFinal "PushTrayModel" "PushTrayModel" "keptKind" "[I"), (Jvm.Cond.soleField "PushTrayModel" "keptKind")]
def xt_3_10 : List Cond := [(Jvm.Cond.laysFinal "PushTrayModel" "PushTrayModel" "keptTile" "[I"), (Jvm.Cond.soleField "PushTrayModel" "keptTile"), (Jvm.Cond.laysFinal "PushTrayModel" "PushTrayModel" "keptWay" "[I"), (Jvm.Cond.soleField "PushTrayModel" "keptWay"), (Jvm.Cond.laysFinal "PushTrayModel" "PushTrayModel" "keptCost" "[I"), (Jvm.Cond.soleField "PushTrayModel" "keptCost"), (Jvm.Cond.lays "PushTrayModel" "PushTrayModel" "h" "J"), (Jvm.Cond.soleField "PushTrayModel" "h"), (Jvm.Cond.superclass "PushTrayModel" "java/lang/Object"), (Jvm.Cond.arrayClass Jvm.ClassFile.FieldType.byte), (Jvm.Cond.methodLink "PushTrayLaw" (17 : Nat) ({ cls := "PushTrayModel", name := "letter", desc := "(I)I" } : Jvm.MethodName)), (Jvm.Cond.instanceMethod ({ cls := "PushTrayModel", name := "letter", desc := "(I)I" } : Jvm.MethodName)), (Jvm.Cond.selects "PushTrayModel" ({ cls := "PushTrayModel", name := "letter", desc := "(I)I" } : Jvm.MethodName) ({ cls := "PushTrayModel", name := "letter", desc := "(I)I" } : Jvm.MethodName)), (Jvm.Cond.code ({ cls := "PushTrayModel", name := "letter", desc := "(I)I" } : Jvm.MethodName) prog_8_method_7_code (2 : Nat) (Option.some Jvm.ClassFile.FieldType.int)), (Jvm.Cond.methodLink "PushTrayModel" (47 : Nat) ({ cls := "PushTrayModel", name := "within", desc := "(III)Z" } : Jvm.MethodName)), (Jvm.Cond.static ({ cls := "PushTrayModel", name := "within", desc := "(III)Z" } : Jvm.MethodName))]
def xt_3_11 : List Cond := [(Jvm.Cond.code ({ cls := "PushTrayModel", name := "within", desc := "(III)Z" } : Jvm.MethodName) prog_8_method_3_code (3 : Nat) (Option.some Jvm.ClassFile.FieldType.boolean)), (Jvm.Cond.methodLink "PushTrayLaw" (22 : Nat) ({ cls := "PushTrayModel", name := "blank", desc := "()I" } : Jvm.MethodName)), (Jvm.Cond.instanceMethod ({ cls := "PushTrayModel", name := "blank", desc := "()I" } : Jvm.MethodName)), (Jvm.Cond.selects "PushTrayModel" ({ cls := "PushTrayModel", name := "blank", desc := "()I" } : Jvm.MethodName) ({ cls := "PushTrayModel", name := "blank", desc := "()I" } : Jvm.MethodName)), (Jvm.Cond.code ({ cls := "PushTrayModel", name := "blank", desc := "()I" } : Jvm.MethodName) prog_8_method_8_code (2 : Nat) (Option.some Jvm.ClassFile.FieldType.int)), (Jvm.Cond.methodLink "PushTrayLaw" (26 : Nat) ({ cls := "PushTrayModel", name := "fault", desc := "()I" } : Jvm.MethodName)), (Jvm.Cond.instanceMethod ({ cls := "PushTrayModel", name := "fault", desc := "()I" } : Jvm.MethodName)), (Jvm.Cond.selects "PushTrayModel" ({ cls := "PushTrayModel", name := "fault", desc := "()I" } : Jvm.MethodName) ({ cls := "PushTrayModel", name := "fault", desc := "()I" } : Jvm.MethodName)), (Jvm.Cond.code ({ cls := "PushTrayModel", name := "fault", desc := "()I" } : Jvm.MethodName) prog_8_method_14_code (1 : Nat) (Option.some Jvm.ClassFile.FieldType.int)), (Jvm.Cond.methodLink "PushTrayModel" (76 : Nat) ({ cls := "PushTrayModel", name := "read", desc := "()I" } : Jvm.MethodName)), (Jvm.Cond.privateMethod ({ cls := "PushTrayModel", name := "read", desc := "()I" } : Jvm.MethodName)), (Jvm.Cond.instanceMethod ({ cls := "PushTrayModel", name := "read", desc := "()I" } : Jvm.MethodName)), (Jvm.Cond.code ({ cls := "PushTrayModel", name := "read", desc := "()I" } : Jvm.MethodName) prog_8_method_13_code (2 : Nat) (Option.some Jvm.ClassFile.FieldType.int)), (Jvm.Cond.methodLink "PushTrayModel" (70 : Nat) ({ cls := "PushTrayModel", name := "readCells", desc := "(I)I" } : Jvm.MethodName)), (Jvm.Cond.privateMethod ({ cls := "PushTrayModel", name := "readCells", desc := "(I)I" } : Jvm.MethodName)), (Jvm.Cond.instanceMethod ({ cls := "PushTrayModel", name := "readCells", desc := "(I)I" } : Jvm.MethodName))]
def xt_3_12 : List Cond := [(Jvm.Cond.code ({ cls := "PushTrayModel", name := "readCells", desc := "(I)I" } : Jvm.MethodName) prog_8_method_12_code (5 : Nat) (Option.some Jvm.ClassFile.FieldType.int)), (Jvm.Cond.methodLink "PushTrayModel" (59 : Nat) ({ cls := "PushTrayModel", name := "signAt", desc := "(I)I" } : Jvm.MethodName)), (Jvm.Cond.privateMethod ({ cls := "PushTrayModel", name := "signAt", desc := "(I)I" } : Jvm.MethodName)), (Jvm.Cond.instanceMethod ({ cls := "PushTrayModel", name := "signAt", desc := "(I)I" } : Jvm.MethodName)), (Jvm.Cond.code ({ cls := "PushTrayModel", name := "signAt", desc := "(I)I" } : Jvm.MethodName) prog_8_method_11_code (3 : Nat) (Option.some Jvm.ClassFile.FieldType.int)), (Jvm.Cond.methodLink "PushTrayModel" (55 : Nat) ({ cls := "PushTrayModel", name := "at", desc := "(I)I" } : Jvm.MethodName)), (Jvm.Cond.privateMethod ({ cls := "PushTrayModel", name := "at", desc := "(I)I" } : Jvm.MethodName)), (Jvm.Cond.instanceMethod ({ cls := "PushTrayModel", name := "at", desc := "(I)I" } : Jvm.MethodName)), (Jvm.Cond.code ({ cls := "PushTrayModel", name := "at", desc := "(I)I" } : Jvm.MethodName) prog_8_method_10_code (2 : Nat) (Option.some Jvm.ClassFile.FieldType.int)), (Jvm.Cond.methodLink "PushTrayModel" (62 : Nat) ({ cls := "PushTrayModel", name := "isIn", desc := "(II)Z" } : Jvm.MethodName)), (Jvm.Cond.static ({ cls := "PushTrayModel", name := "isIn", desc := "(II)Z" } : Jvm.MethodName)), (Jvm.Cond.code ({ cls := "PushTrayModel", name := "isIn", desc := "(II)Z" } : Jvm.MethodName) prog_8_method_4_code (2 : Nat) (Option.some Jvm.ClassFile.FieldType.boolean)), (Jvm.Cond.methodLink "PushTrayModel" (73 : Nat) ({ cls := "PushTrayModel", name := "kindBy", desc := "(I)I" } : Jvm.MethodName)), (Jvm.Cond.static ({ cls := "PushTrayModel", name := "kindBy", desc := "(I)I" } : Jvm.MethodName)), (Jvm.Cond.code ({ cls := "PushTrayModel", name := "kindBy", desc := "(I)I" } : Jvm.MethodName) prog_8_method_9_code (1 : Nat) (Option.some Jvm.ClassFile.FieldType.int)), (Jvm.Cond.methodLink "PushTrayLaw" (30 : Nat) ({ cls := "PushTrayModel", name := "tray", desc := "()I" } : Jvm.MethodName))]
def xt_3_13 : List Cond := [(Jvm.Cond.instanceMethod ({ cls := "PushTrayModel", name := "tray", desc := "()I" } : Jvm.MethodName)), (Jvm.Cond.selects "PushTrayModel" ({ cls := "PushTrayModel", name := "tray", desc := "()I" } : Jvm.MethodName) ({ cls := "PushTrayModel", name := "tray", desc := "()I" } : Jvm.MethodName)), (Jvm.Cond.code ({ cls := "PushTrayModel", name := "tray", desc := "()I" } : Jvm.MethodName) prog_8_method_16_code (2 : Nat) (Option.some Jvm.ClassFile.FieldType.int)), (Jvm.Cond.methodLink "PushTrayModel" (80 : Nat) ({ cls := "PushTrayModel", name := "cellsAt", desc := "(I)I" } : Jvm.MethodName)), (Jvm.Cond.privateMethod ({ cls := "PushTrayModel", name := "cellsAt", desc := "(I)I" } : Jvm.MethodName)), (Jvm.Cond.instanceMethod ({ cls := "PushTrayModel", name := "cellsAt", desc := "(I)I" } : Jvm.MethodName)), (Jvm.Cond.code ({ cls := "PushTrayModel", name := "cellsAt", desc := "(I)I" } : Jvm.MethodName) prog_8_method_15_code (4 : Nat) (Option.some Jvm.ClassFile.FieldType.int)), (Jvm.Cond.methodLink "PushTrayModel" (101 : Nat) ({ cls := "PushTrayModel", name := "whereIs", desc := "(II)I" } : Jvm.MethodName)), (Jvm.Cond.static ({ cls := "PushTrayModel", name := "whereIs", desc := "(II)I" } : Jvm.MethodName)), (Jvm.Cond.code ({ cls := "PushTrayModel", name := "whereIs", desc := "(II)I" } : Jvm.MethodName) prog_8_method_20_code (3 : Nat) (Option.some Jvm.ClassFile.FieldType.int)), (Jvm.Cond.methodLink "PushTrayModel" (105 : Nat) ({ cls := "PushTrayModel", name := "isAt", desc := "(II)I" } : Jvm.MethodName)), (Jvm.Cond.static ({ cls := "PushTrayModel", name := "isAt", desc := "(II)I" } : Jvm.MethodName)), (Jvm.Cond.code ({ cls := "PushTrayModel", name := "isAt", desc := "(II)I" } : Jvm.MethodName) prog_8_method_19_code (2 : Nat) (Option.some Jvm.ClassFile.FieldType.int)), (Jvm.Cond.methodLink "PushTrayLaw" (35 : Nat) ({ cls := "PushTrayModel", name := "tile", desc := "(II)I" } : Jvm.MethodName)), (Jvm.Cond.instanceMethod ({ cls := "PushTrayModel", name := "tile", desc := "(II)I" } : Jvm.MethodName)), (Jvm.Cond.selects "PushTrayModel" ({ cls := "PushTrayModel", name := "tile", desc := "(II)I" } : Jvm.MethodName) ({ cls := "PushTrayModel", name := "tile", desc := "(II)I" } : Jvm.MethodName))]
def xt_3_14 : List Cond := [(Jvm.Cond.code ({ cls := "PushTrayModel", name := "tile", desc := "(II)I" } : Jvm.MethodName) prog_8_method_29_code (3 : Nat) (Option.some Jvm.ClassFile.FieldType.int)), (Jvm.Cond.methodLink "PushTrayModel" (133 : Nat) ({ cls := "PushTrayModel", name := "isTile", desc := "(I)Z" } : Jvm.MethodName)), (Jvm.Cond.privateMethod ({ cls := "PushTrayModel", name := "isTile", desc := "(I)Z" } : Jvm.MethodName)), (Jvm.Cond.instanceMethod ({ cls := "PushTrayModel", name := "isTile", desc := "(I)Z" } : Jvm.MethodName)), (Jvm.Cond.code ({ cls := "PushTrayModel", name := "isTile", desc := "(I)Z" } : Jvm.MethodName) prog_8_method_17_code (2 : Nat) (Option.some Jvm.ClassFile.FieldType.boolean)), (Jvm.Cond.methodLink "PushTrayModel" (137 : Nat) ({ cls := "PushTrayModel", name := "tileNow", desc := "(II)I" } : Jvm.MethodName)), (Jvm.Cond.privateMethod ({ cls := "PushTrayModel", name := "tileNow", desc := "(II)I" } : Jvm.MethodName)), (Jvm.Cond.instanceMethod ({ cls := "PushTrayModel", name := "tileNow", desc := "(II)I" } : Jvm.MethodName)), (Jvm.Cond.code ({ cls := "PushTrayModel", name := "tileNow", desc := "(II)I" } : Jvm.MethodName) prog_8_method_28_code (3 : Nat) (Option.some Jvm.ClassFile.FieldType.int)), (Jvm.Cond.methodLink "PushTrayModel" (121 : Nat) ({ cls := "PushTrayModel", name := "costIn", desc := "(II)I" } : Jvm.MethodName)), (Jvm.Cond.privateMethod ({ cls := "PushTrayModel", name := "costIn", desc := "(II)I" } : Jvm.MethodName)), (Jvm.Cond.instanceMethod ({ cls := "PushTrayModel", name := "costIn", desc := "(II)I" } : Jvm.MethodName)), (Jvm.Cond.code ({ cls := "PushTrayModel", name := "costIn", desc := "(II)I" } : Jvm.MethodName) prog_8_method_25_code (5 : Nat) (Option.some Jvm.ClassFile.FieldType.int)), (Jvm.Cond.methodLink "PushTrayModel" (111 : Nat) ({ cls := "PushTrayModel", name := "areNext", desc := "(II)Z" } : Jvm.MethodName)), (Jvm.Cond.static ({ cls := "PushTrayModel", name := "areNext", desc := "(II)Z" } : Jvm.MethodName)), (Jvm.Cond.code ({ cls := "PushTrayModel", name := "areNext", desc := "(II)Z" } : Jvm.MethodName) prog_8_method_23_code (3 : Nat) (Option.some Jvm.ClassFile.FieldType.boolean))]
set_option maxRecDepth 20000 in
theorem xt_3 : tables_1_3 = xt_3_0 ++ (xt_3_1 ++ (xt_3_2 ++ (xt_3_3 ++ (xt_3_4 ++ (xt_3_5 ++ (xt_3_6 ++ (xt_3_7 ++ (xt_3_8 ++ (xt_3_9 ++ (xt_3_10 ++ (xt_3_11 ++ (xt_3_12 ++ (xt_3_13 ++ (xt_3_14)))))))))))))) := by rfl
theorem xm_3_0 {w : Cond} (h : w ∈ xt_3_0) (hg : goodWord w = true) : w ∈ XW := xin3 (by rw [xt_3]; exact List.mem_append_left _ h) hg
theorem xm_3_1 {w : Cond} (h : w ∈ xt_3_1) (hg : goodWord w = true) : w ∈ XW := xin3 (by rw [xt_3]; exact List.mem_append_right _ (List.mem_append_left _ h)) hg
theorem xm_3_2 {w : Cond} (h : w ∈ xt_3_2) (hg : goodWord w = true) : w ∈ XW := xin3 (by rw [xt_3]; exact List.mem_append_right _ (List.mem_append_right _ (List.mem_append_left _ h))) hg
theorem xm_3_3 {w : Cond} (h : w ∈ xt_3_3) (hg : goodWord w = true) : w ∈ XW := xin3 (by rw [xt_3]; exact List.mem_append_right _ (List.mem_append_right _ (List.mem_append_right _ (List.mem_append_left _ h)))) hg
theorem xm_3_4 {w : Cond} (h : w ∈ xt_3_4) (hg : goodWord w = true) : w ∈ XW := xin3 (by rw [xt_3]; exact List.mem_append_right _ (List.mem_append_right _ (List.mem_append_right _ (List.mem_append_right _ (List.mem_append_left _ h))))) hg
theorem xm_3_5 {w : Cond} (h : w ∈ xt_3_5) (hg : goodWord w = true) : w ∈ XW := xin3 (by rw [xt_3]; exact List.mem_append_right _ (List.mem_append_right _ (List.mem_append_right _ (List.mem_append_right _ (List.mem_append_right _ (List.mem_append_left _ h)))))) hg
theorem xm_3_6 {w : Cond} (h : w ∈ xt_3_6) (hg : goodWord w = true) : w ∈ XW := xin3 (by rw [xt_3]; exact List.mem_append_right _ (List.mem_append_right _ (List.mem_append_right _ (List.mem_append_right _ (List.mem_append_right _ (List.mem_append_right _ (List.mem_append_left _ h))))))) hg
theorem xm_3_7 {w : Cond} (h : w ∈ xt_3_7) (hg : goodWord w = true) : w ∈ XW := xin3 (by rw [xt_3]; exact List.mem_append_right _ (List.mem_append_right _ (List.mem_append_right _ (List.mem_append_right _ (List.mem_append_right _ (List.mem_append_right _ (List.mem_append_right _ (List.mem_append_left _ h)))))))) hg
theorem xm_3_8 {w : Cond} (h : w ∈ xt_3_8) (hg : goodWord w = true) : w ∈ XW := xin3 (by rw [xt_3]; exact List.mem_append_right _ (List.mem_append_right _ (List.mem_append_right _ (List.mem_append_right _ (List.mem_append_right _ (List.mem_append_right _ (List.mem_append_right _ (List.mem_append_right _ (List.mem_append_left _ h))))))))) hg
theorem xm_3_9 {w : Cond} (h : w ∈ xt_3_9) (hg : goodWord w = true) : w ∈ XW := xin3 (by rw [xt_3]; exact List.mem_append_right _ (List.mem_append_right _ (List.mem_append_right _ (List.mem_append_right _ (List.mem_append_right _ (List.mem_append_right _ (List.mem_append_right _ (List.mem_append_right _ (List.mem_append_right _ (List.mem_append_left _ h)))))))))) hg
theorem xm_3_10 {w : Cond} (h : w ∈ xt_3_10) (hg : goodWord w = true) : w ∈ XW := xin3 (by rw [xt_3]; exact List.mem_append_right _ (List.mem_append_right _ (List.mem_append_right _ (List.mem_append_right _ (List.mem_append_right _ (List.mem_append_right _ (List.mem_append_right _ (List.mem_append_right _ (List.mem_append_right _ (List.mem_append_right _ (List.mem_append_left _ h))))))))))) hg
theorem xm_3_11 {w : Cond} (h : w ∈ xt_3_11) (hg : goodWord w = true) : w ∈ XW := xin3 (by rw [xt_3]; exact List.mem_append_right _ (List.mem_append_right _ (List.mem_append_right _ (List.mem_append_right _ (List.mem_append_right _ (List.mem_append_right _ (List.mem_append_right _ (List.mem_append_right _ (List.mem_append_right _ (List.mem_append_right _ (List.mem_append_right _ (List.mem_append_left _ h)))))))))))) hg
theorem xm_3_12 {w : Cond} (h : w ∈ xt_3_12) (hg : goodWord w = true) : w ∈ XW := xin3 (by rw [xt_3]; exact List.mem_append_right _ (List.mem_append_right _ (List.mem_append_right _ (List.mem_append_right _ (List.mem_append_right _ (List.mem_append_right _ (List.mem_append_right _ (List.mem_append_right _ (List.mem_append_right _ (List.mem_append_right _ (List.mem_append_right _ (List.mem_append_right _ (List.mem_append_left _ h))))))))))))) hg
theorem xm_3_13 {w : Cond} (h : w ∈ xt_3_13) (hg : goodWord w = true) : w ∈ XW := xin3 (by rw [xt_3]; exact List.mem_append_right _ (List.mem_append_right _ (List.mem_append_right _ (List.mem_append_right _ (List.mem_append_right _ (List.mem_append_right _ (List.mem_append_right _ (List.mem_append_right _ (List.mem_append_right _ (List.mem_append_right _ (List.mem_append_right _ (List.mem_append_right _ (List.mem_append_right _ (List.mem_append_left _ h)))))))))))))) hg
theorem xm_3_14 {w : Cond} (h : w ∈ xt_3_14) (hg : goodWord w = true) : w ∈ XW := xin3 (by rw [xt_3]; exact List.mem_append_right _ (List.mem_append_right _ (List.mem_append_right _ (List.mem_append_right _ (List.mem_append_right _ (List.mem_append_right _ (List.mem_append_right _ (List.mem_append_right _ (List.mem_append_right _ (List.mem_append_right _ (List.mem_append_right _ (List.mem_append_right _ (List.mem_append_right _ (List.mem_append_right _ (h))))))))))))))) hg
def xt_4_0 : List Cond := [(Jvm.Cond.methodLink "PushTrayModel" (108 : Nat) ({ cls := "PushTrayModel", name := "sameRow", desc := "(II)Z" } : Jvm.MethodName)), (Jvm.Cond.static ({ cls := "PushTrayModel", name := "sameRow", desc := "(II)Z" } : Jvm.MethodName)), (Jvm.Cond.code ({ cls := "PushTrayModel", name := "sameRow", desc := "(II)Z" } : Jvm.MethodName) prog_8_method_22_code (2 : Nat) (Option.some Jvm.ClassFile.FieldType.boolean)), (Jvm.Cond.methodLink "PushTrayModel" (114 : Nat) ({ cls := "PushTrayModel", name := "costBy", desc := "(II)I" } : Jvm.MethodName)), (Jvm.Cond.static ({ cls := "PushTrayModel", name := "costBy", desc := "(II)I" } : Jvm.MethodName)), (Jvm.Cond.code ({ cls := "PushTrayModel", name := "costBy", desc := "(II)I" } : Jvm.MethodName) prog_8_method_24_code (2 : Nat) (Option.some Jvm.ClassFile.FieldType.int)), (Jvm.Cond.methodLink "PushTrayModel" (124 : Nat) ({ cls := "PushTrayModel", name := "sortsOf", desc := "(I)I" } : Jvm.MethodName)), (Jvm.Cond.privateMethod ({ cls := "PushTrayModel", name := "sortsOf", desc := "(I)I" } : Jvm.MethodName)), (Jvm.Cond.instanceMethod ({ cls := "PushTrayModel", name := "sortsOf", desc := "(I)I" } : Jvm.MethodName)), (Jvm.Cond.code ({ cls := "PushTrayModel", name := "sortsOf", desc := "(I)I" } : Jvm.MethodName) prog_8_method_59_code (6 : Nat) (Option.some Jvm.ClassFile.FieldType.int)), (Jvm.Cond.methodLink "PushTrayModel" (127 : Nat) ({ cls := "PushTrayModel", name := "wayFor", desc := "(I)I" } : Jvm.MethodName)), (Jvm.Cond.privateMethod ({ cls := "PushTrayModel", name := "wayFor", desc := "(I)I" } : Jvm.MethodName)), (Jvm.Cond.instanceMethod ({ cls := "PushTrayModel", name := "wayFor", desc := "(I)I" } : Jvm.MethodName)), (Jvm.Cond.code ({ cls := "PushTrayModel", name := "wayFor", desc := "(I)I" } : Jvm.MethodName) prog_8_method_61_code (3 : Nat) (Option.some Jvm.ClassFile.FieldType.int)), (Jvm.Cond.methodLink "PushTrayModel" (204 : Nat) ({ cls := "PushTrayModel", name := "worstBy", desc := "(II)I" } : Jvm.MethodName)), (Jvm.Cond.static ({ cls := "PushTrayModel", name := "worstBy", desc := "(II)I" } : Jvm.MethodName))]
def xt_4_1 : List Cond := [(Jvm.Cond.code ({ cls := "PushTrayModel", name := "worstBy", desc := "(II)I" } : Jvm.MethodName) prog_8_method_60_code (6 : Nat) (Option.some Jvm.ClassFile.FieldType.int)), (Jvm.Cond.methodLink "PushTrayModel" (130 : Nat) ({ cls := "PushTrayModel", name := "homeNow", desc := "(II)I" } : Jvm.MethodName)), (Jvm.Cond.privateMethod ({ cls := "PushTrayModel", name := "homeNow", desc := "(II)I" } : Jvm.MethodName)), (Jvm.Cond.instanceMethod ({ cls := "PushTrayModel", name := "homeNow", desc := "(II)I" } : Jvm.MethodName)), (Jvm.Cond.code ({ cls := "PushTrayModel", name := "homeNow", desc := "(II)I" } : Jvm.MethodName) prog_8_method_47_code (6 : Nat) (Option.some Jvm.ClassFile.FieldType.int)), (Jvm.Cond.methodLink "PushTrayModel" (166 : Nat) ({ cls := "PushTrayModel", name := "layCosts", desc := "(I)I" } : Jvm.MethodName)), (Jvm.Cond.privateMethod ({ cls := "PushTrayModel", name := "layCosts", desc := "(I)I" } : Jvm.MethodName)), (Jvm.Cond.instanceMethod ({ cls := "PushTrayModel", name := "layCosts", desc := "(I)I" } : Jvm.MethodName)), (Jvm.Cond.code ({ cls := "PushTrayModel", name := "layCosts", desc := "(I)I" } : Jvm.MethodName) prog_8_method_40_code (5 : Nat) (Option.some Jvm.ClassFile.FieldType.int)), (Jvm.Cond.constant "PushTrayModel" (155 : Nat) (268435456 : Int32)), (Jvm.Cond.methodLink "PushTrayModel" (152 : Nat) ({ cls := "PushTrayModel", name := "rankOf", desc := "(I)I" } : Jvm.MethodName)), (Jvm.Cond.static ({ cls := "PushTrayModel", name := "rankOf", desc := "(I)I" } : Jvm.MethodName)), (Jvm.Cond.code ({ cls := "PushTrayModel", name := "rankOf", desc := "(I)I" } : Jvm.MethodName) prog_8_method_37_code (5 : Nat) (Option.some Jvm.ClassFile.FieldType.int)), (Jvm.Cond.methodLink "PushTrayModel" (156 : Nat) ({ cls := "PushTrayModel", name := "trayOf", desc := "(I)I" } : Jvm.MethodName)), (Jvm.Cond.static ({ cls := "PushTrayModel", name := "trayOf", desc := "(I)I" } : Jvm.MethodName)), (Jvm.Cond.code ({ cls := "PushTrayModel", name := "trayOf", desc := "(I)I" } : Jvm.MethodName) prog_8_method_38_code (8 : Nat) (Option.some Jvm.ClassFile.FieldType.int))]
def xt_4_2 : List Cond := [(Jvm.Cond.methodLink "PushTrayModel" (159 : Nat) ({ cls := "PushTrayModel", name := "comeFrom", desc := "(II)V" } : Jvm.MethodName)), (Jvm.Cond.privateMethod ({ cls := "PushTrayModel", name := "comeFrom", desc := "(II)V" } : Jvm.MethodName)), (Jvm.Cond.instanceMethod ({ cls := "PushTrayModel", name := "comeFrom", desc := "(II)V" } : Jvm.MethodName)), (Jvm.Cond.code ({ cls := "PushTrayModel", name := "comeFrom", desc := "(II)V" } : Jvm.MethodName) prog_8_method_39_code (7 : Nat) (Option.none : Option Jvm.ClassFile.FieldType)), (Jvm.Cond.methodLink "PushTrayModel" (149 : Nat) ({ cls := "PushTrayModel", name := "mayBePushed", desc := "(I)I" } : Jvm.MethodName)), (Jvm.Cond.privateMethod ({ cls := "PushTrayModel", name := "mayBePushed", desc := "(I)I" } : Jvm.MethodName)), (Jvm.Cond.instanceMethod ({ cls := "PushTrayModel", name := "mayBePushed", desc := "(I)I" } : Jvm.MethodName)), (Jvm.Cond.code ({ cls := "PushTrayModel", name := "mayBePushed", desc := "(I)I" } : Jvm.MethodName) prog_8_method_27_code (4 : Nat) (Option.some Jvm.ClassFile.FieldType.int)), (Jvm.Cond.methodLink "PushTrayModel" (146 : Nat) ({ cls := "PushTrayModel", name := "pushed", desc := "(II)I" } : Jvm.MethodName)), (Jvm.Cond.static ({ cls := "PushTrayModel", name := "pushed", desc := "(II)I" } : Jvm.MethodName)), (Jvm.Cond.code ({ cls := "PushTrayModel", name := "pushed", desc := "(II)I" } : Jvm.MethodName) prog_8_method_26_code (2 : Nat) (Option.some Jvm.ClassFile.FieldType.int)), (Jvm.Cond.methodLink "PushTrayModel" (117 : Nat) ({ cls := "PushTrayModel", name := "exchanged", desc := "(III)I" } : Jvm.MethodName)), (Jvm.Cond.static ({ cls := "PushTrayModel", name := "exchanged", desc := "(III)I" } : Jvm.MethodName)), (Jvm.Cond.code ({ cls := "PushTrayModel", name := "exchanged", desc := "(III)I" } : Jvm.MethodName) prog_8_method_21_code (4 : Nat) (Option.some Jvm.ClassFile.FieldType.int)), (Jvm.Cond.methodLink "PushTrayLaw" (39 : Nat) ({ cls := "PushTrayModel", name := "as", desc := "(II)I" } : Jvm.MethodName)), (Jvm.Cond.instanceMethod ({ cls := "PushTrayModel", name := "as", desc := "(II)I" } : Jvm.MethodName))]
def xt_4_3 : List Cond := [(Jvm.Cond.selects "PushTrayModel" ({ cls := "PushTrayModel", name := "as", desc := "(II)I" } : Jvm.MethodName) ({ cls := "PushTrayModel", name := "as", desc := "(II)I" } : Jvm.MethodName)), (Jvm.Cond.code ({ cls := "PushTrayModel", name := "as", desc := "(II)I" } : Jvm.MethodName) prog_8_method_30_code (4 : Nat) (Option.some Jvm.ClassFile.FieldType.int)), (Jvm.Cond.methodLink "PushTrayLaw" (43 : Nat) ({ cls := "PushTrayModel", name := "cell", desc := "(II)I" } : Jvm.MethodName)), (Jvm.Cond.instanceMethod ({ cls := "PushTrayModel", name := "cell", desc := "(II)I" } : Jvm.MethodName)), (Jvm.Cond.selects "PushTrayModel" ({ cls := "PushTrayModel", name := "cell", desc := "(II)I" } : Jvm.MethodName) ({ cls := "PushTrayModel", name := "cell", desc := "(II)I" } : Jvm.MethodName)), (Jvm.Cond.code ({ cls := "PushTrayModel", name := "cell", desc := "(II)I" } : Jvm.MethodName) prog_8_method_32_code (3 : Nat) (Option.some Jvm.ClassFile.FieldType.int)), (Jvm.Cond.methodLink "PushTrayModel" (140 : Nat) ({ cls := "PushTrayModel", name := "isCell", desc := "(I)Z" } : Jvm.MethodName)), (Jvm.Cond.privateMethod ({ cls := "PushTrayModel", name := "isCell", desc := "(I)Z" } : Jvm.MethodName)), (Jvm.Cond.instanceMethod ({ cls := "PushTrayModel", name := "isCell", desc := "(I)Z" } : Jvm.MethodName)), (Jvm.Cond.code ({ cls := "PushTrayModel", name := "isCell", desc := "(I)Z" } : Jvm.MethodName) prog_8_method_18_code (2 : Nat) (Option.some Jvm.ClassFile.FieldType.boolean)), (Jvm.Cond.methodLink "PushTrayModel" (143 : Nat) ({ cls := "PushTrayModel", name := "cellNow", desc := "(II)I" } : Jvm.MethodName)), (Jvm.Cond.privateMethod ({ cls := "PushTrayModel", name := "cellNow", desc := "(II)I" } : Jvm.MethodName)), (Jvm.Cond.instanceMethod ({ cls := "PushTrayModel", name := "cellNow", desc := "(II)I" } : Jvm.MethodName)), (Jvm.Cond.code ({ cls := "PushTrayModel", name := "cellNow", desc := "(II)I" } : Jvm.MethodName) prog_8_method_31_code (4 : Nat) (Option.some Jvm.ClassFile.FieldType.int)), (Jvm.Cond.methodLink "PushTrayLaw" (47 : Nat) ({ cls := "PushTrayModel", name := "push", desc := "(I)I" } : Jvm.MethodName)), (Jvm.Cond.instanceMethod ({ cls := "PushTrayModel", name := "push", desc := "(I)I" } : Jvm.MethodName))]
def xt_4_4 : List Cond := [(Jvm.Cond.selects "PushTrayModel" ({ cls := "PushTrayModel", name := "push", desc := "(I)I" } : Jvm.MethodName) ({ cls := "PushTrayModel", name := "push", desc := "(I)I" } : Jvm.MethodName)), (Jvm.Cond.code ({ cls := "PushTrayModel", name := "push", desc := "(I)I" } : Jvm.MethodName) prog_8_method_33_code (3 : Nat) (Option.some Jvm.ClassFile.FieldType.int)), (Jvm.Cond.methodLink "PushTrayLaw" (51 : Nat) ({ cls := "PushTrayModel", name := "exchange", desc := "(II)I" } : Jvm.MethodName)), (Jvm.Cond.instanceMethod ({ cls := "PushTrayModel", name := "exchange", desc := "(II)I" } : Jvm.MethodName)), (Jvm.Cond.selects "PushTrayModel" ({ cls := "PushTrayModel", name := "exchange", desc := "(II)I" } : Jvm.MethodName) ({ cls := "PushTrayModel", name := "exchange", desc := "(II)I" } : Jvm.MethodName)), (Jvm.Cond.code ({ cls := "PushTrayModel", name := "exchange", desc := "(II)I" } : Jvm.MethodName) prog_8_method_34_code (3 : Nat) (Option.some Jvm.ClassFile.FieldType.int)), (Jvm.Cond.methodLink "PushTrayLaw" (55 : Nat) ({ cls := "PushTrayModel", name := "aim", desc := "(II)I" } : Jvm.MethodName)), (Jvm.Cond.instanceMethod ({ cls := "PushTrayModel", name := "aim", desc := "(II)I" } : Jvm.MethodName)), (Jvm.Cond.selects "PushTrayModel" ({ cls := "PushTrayModel", name := "aim", desc := "(II)I" } : Jvm.MethodName) ({ cls := "PushTrayModel", name := "aim", desc := "(II)I" } : Jvm.MethodName)), (Jvm.Cond.code ({ cls := "PushTrayModel", name := "aim", desc := "(II)I" } : Jvm.MethodName) prog_8_method_35_code (3 : Nat) (Option.some Jvm.ClassFile.FieldType.int)), (Jvm.Cond.methodLink "PushTrayLaw" (59 : Nat) ({ cls := "PushTrayModel", name := "recast", desc := "(II)I" } : Jvm.MethodName)), (Jvm.Cond.instanceMethod ({ cls := "PushTrayModel", name := "recast", desc := "(II)I" } : Jvm.MethodName)), (Jvm.Cond.selects "PushTrayModel" ({ cls := "PushTrayModel", name := "recast", desc := "(II)I" } : Jvm.MethodName) ({ cls := "PushTrayModel", name := "recast", desc := "(II)I" } : Jvm.MethodName)), (Jvm.Cond.code ({ cls := "PushTrayModel", name := "recast", desc := "(II)I" } : Jvm.MethodName) prog_8_method_36_code (4 : Nat) (Option.some Jvm.ClassFile.FieldType.int)), (Jvm.Cond.methodLink "PushTrayLaw" (63 : Nat) ({ cls := "PushTrayModel", name := "least", desc := "(I)I" } : Jvm.MethodName)), (Jvm.Cond.instanceMethod ({ cls := "PushTrayModel", name := "least", desc := "(I)I" } : Jvm.MethodName))]
def xt_4_5 : List Cond := [(Jvm.Cond.selects "PushTrayModel" ({ cls := "PushTrayModel", name := "least", desc := "(I)I" } : Jvm.MethodName) ({ cls := "PushTrayModel", name := "least", desc := "(I)I" } : Jvm.MethodName)), (Jvm.Cond.code ({ cls := "PushTrayModel", name := "least", desc := "(I)I" } : Jvm.MethodName) prog_8_method_44_code (2 : Nat) (Option.some Jvm.ClassFile.FieldType.int)), (Jvm.Cond.methodLink "PushTrayModel" (172 : Nat) ({ cls := "PushTrayModel", name := "leastNow", desc := "(I)I" } : Jvm.MethodName)), (Jvm.Cond.privateMethod ({ cls := "PushTrayModel", name := "leastNow", desc := "(I)I" } : Jvm.MethodName)), (Jvm.Cond.instanceMethod ({ cls := "PushTrayModel", name := "leastNow", desc := "(I)I" } : Jvm.MethodName)), (Jvm.Cond.code ({ cls := "PushTrayModel", name := "leastNow", desc := "(I)I" } : Jvm.MethodName) prog_8_method_43_code (6 : Nat) (Option.some Jvm.ClassFile.FieldType.int)), (Jvm.Cond.methodLink "PushTrayModel" (163 : Nat) ({ cls := "PushTrayModel", name := "costOf", desc := "(I)I" } : Jvm.MethodName)), (Jvm.Cond.privateMethod ({ cls := "PushTrayModel", name := "costOf", desc := "(I)I" } : Jvm.MethodName)), (Jvm.Cond.instanceMethod ({ cls := "PushTrayModel", name := "costOf", desc := "(I)I" } : Jvm.MethodName)), (Jvm.Cond.code ({ cls := "PushTrayModel", name := "costOf", desc := "(I)I" } : Jvm.MethodName) prog_8_method_41_code (3 : Nat) (Option.some Jvm.ClassFile.FieldType.int)), (Jvm.Cond.methodLink "PushTrayModel" (169 : Nat) ({ cls := "PushTrayModel", name := "firstOf", desc := "(I)I" } : Jvm.MethodName)), (Jvm.Cond.privateMethod ({ cls := "PushTrayModel", name := "firstOf", desc := "(I)I" } : Jvm.MethodName)), (Jvm.Cond.instanceMethod ({ cls := "PushTrayModel", name := "firstOf", desc := "(I)I" } : Jvm.MethodName)), (Jvm.Cond.code ({ cls := "PushTrayModel", name := "firstOf", desc := "(I)I" } : Jvm.MethodName) prog_8_method_42_code (4 : Nat) (Option.some Jvm.ClassFile.FieldType.int)), (Jvm.Cond.methodLink "PushTrayLaw" (67 : Nat) ({ cls := "PushTrayModel", name := "reach", desc := "(I)I" } : Jvm.MethodName)), (Jvm.Cond.instanceMethod ({ cls := "PushTrayModel", name := "reach", desc := "(I)I" } : Jvm.MethodName))]
def xt_4_6 : List Cond := [(Jvm.Cond.selects "PushTrayModel" ({ cls := "PushTrayModel", name := "reach", desc := "(I)I" } : Jvm.MethodName) ({ cls := "PushTrayModel", name := "reach", desc := "(I)I" } : Jvm.MethodName)), (Jvm.Cond.code ({ cls := "PushTrayModel", name := "reach", desc := "(I)I" } : Jvm.MethodName) prog_8_method_46_code (2 : Nat) (Option.some Jvm.ClassFile.FieldType.int)), (Jvm.Cond.methodLink "PushTrayModel" (175 : Nat) ({ cls := "PushTrayModel", name := "reachNow", desc := "(I)I" } : Jvm.MethodName)), (Jvm.Cond.privateMethod ({ cls := "PushTrayModel", name := "reachNow", desc := "(I)I" } : Jvm.MethodName)), (Jvm.Cond.instanceMethod ({ cls := "PushTrayModel", name := "reachNow", desc := "(I)I" } : Jvm.MethodName)), (Jvm.Cond.code ({ cls := "PushTrayModel", name := "reachNow", desc := "(I)I" } : Jvm.MethodName) prog_8_method_45_code (5 : Nat) (Option.some Jvm.ClassFile.FieldType.int)), (Jvm.Cond.methodLink "PushTrayLaw" (71 : Nat) ({ cls := "PushTrayModel", name := "home", desc := "(II)I" } : Jvm.MethodName)), (Jvm.Cond.instanceMethod ({ cls := "PushTrayModel", name := "home", desc := "(II)I" } : Jvm.MethodName)), (Jvm.Cond.selects "PushTrayModel" ({ cls := "PushTrayModel", name := "home", desc := "(II)I" } : Jvm.MethodName) ({ cls := "PushTrayModel", name := "home", desc := "(II)I" } : Jvm.MethodName)), (Jvm.Cond.code ({ cls := "PushTrayModel", name := "home", desc := "(II)I" } : Jvm.MethodName) prog_8_method_48_code (3 : Nat) (Option.some Jvm.ClassFile.FieldType.int)), (Jvm.Cond.methodLink "PushTrayLaw" (75 : Nat) ({ cls := "PushTrayModel", name := "swaps", desc := "()I" } : Jvm.MethodName)), (Jvm.Cond.instanceMethod ({ cls := "PushTrayModel", name := "swaps", desc := "()I" } : Jvm.MethodName)), (Jvm.Cond.selects "PushTrayModel" ({ cls := "PushTrayModel", name := "swaps", desc := "()I" } : Jvm.MethodName) ({ cls := "PushTrayModel", name := "swaps", desc := "()I" } : Jvm.MethodName)), (Jvm.Cond.code ({ cls := "PushTrayModel", name := "swaps", desc := "()I" } : Jvm.MethodName) prog_8_method_50_code (1 : Nat) (Option.some Jvm.ClassFile.FieldType.int)), (Jvm.Cond.methodLink "PushTrayModel" (178 : Nat) ({ cls := "PushTrayModel", name := "swapsNow", desc := "()I" } : Jvm.MethodName)), (Jvm.Cond.privateMethod ({ cls := "PushTrayModel", name := "swapsNow", desc := "()I" } : Jvm.MethodName))]
def xt_4_7 : List Cond := [(Jvm.Cond.instanceMethod ({ cls := "PushTrayModel", name := "swapsNow", desc := "()I" } : Jvm.MethodName)), (Jvm.Cond.code ({ cls := "PushTrayModel", name := "swapsNow", desc := "()I" } : Jvm.MethodName) prog_8_method_49_code (5 : Nat) (Option.some Jvm.ClassFile.FieldType.int)), (Jvm.Cond.methodLink "PushTrayLaw" (79 : Nat) ({ cls := "PushTrayModel", name := "cheap", desc := "(I)I" } : Jvm.MethodName)), (Jvm.Cond.instanceMethod ({ cls := "PushTrayModel", name := "cheap", desc := "(I)I" } : Jvm.MethodName)), (Jvm.Cond.selects "PushTrayModel" ({ cls := "PushTrayModel", name := "cheap", desc := "(I)I" } : Jvm.MethodName) ({ cls := "PushTrayModel", name := "cheap", desc := "(I)I" } : Jvm.MethodName)), (Jvm.Cond.code ({ cls := "PushTrayModel", name := "cheap", desc := "(I)I" } : Jvm.MethodName) prog_8_method_52_code (2 : Nat) (Option.some Jvm.ClassFile.FieldType.int)), (Jvm.Cond.methodLink "PushTrayModel" (184 : Nat) ({ cls := "PushTrayModel", name := "cheapNow", desc := "(I)I" } : Jvm.MethodName)), (Jvm.Cond.privateMethod ({ cls := "PushTrayModel", name := "cheapNow", desc := "(I)I" } : Jvm.MethodName)), (Jvm.Cond.instanceMethod ({ cls := "PushTrayModel", name := "cheapNow", desc := "(I)I" } : Jvm.MethodName)), (Jvm.Cond.code ({ cls := "PushTrayModel", name := "cheapNow", desc := "(I)I" } : Jvm.MethodName) prog_8_method_51_code (7 : Nat) (Option.some Jvm.ClassFile.FieldType.int)), (Jvm.Cond.methodLink "PushTrayLaw" (84 : Nat) ({ cls := "PushTrayModel", name := "odds", desc := "(IIII)I" } : Jvm.MethodName)), (Jvm.Cond.instanceMethod ({ cls := "PushTrayModel", name := "odds", desc := "(IIII)I" } : Jvm.MethodName)), (Jvm.Cond.selects "PushTrayModel" ({ cls := "PushTrayModel", name := "odds", desc := "(IIII)I" } : Jvm.MethodName) ({ cls := "PushTrayModel", name := "odds", desc := "(IIII)I" } : Jvm.MethodName)), (Jvm.Cond.code ({ cls := "PushTrayModel", name := "odds", desc := "(IIII)I" } : Jvm.MethodName) prog_8_method_56_code (5 : Nat) (Option.some Jvm.ClassFile.FieldType.int)), (Jvm.Cond.methodLink "PushTrayModel" (200 : Nat) ({ cls := "PushTrayModel", name := "oddsNow", desc := "(IIII)I" } : Jvm.MethodName)), (Jvm.Cond.privateMethod ({ cls := "PushTrayModel", name := "oddsNow", desc := "(IIII)I" } : Jvm.MethodName))]
def xt_4_8 : List Cond := [(Jvm.Cond.instanceMethod ({ cls := "PushTrayModel", name := "oddsNow", desc := "(IIII)I" } : Jvm.MethodName)), (Jvm.Cond.code ({ cls := "PushTrayModel", name := "oddsNow", desc := "(IIII)I" } : Jvm.MethodName) prog_8_method_55_code (8 : Nat) (Option.some Jvm.ClassFile.FieldType.int)), (Jvm.Cond.methodLink "PushTrayModel" (194 : Nat) ({ cls := "PushTrayModel", name := "layParts", desc := "(I)V" } : Jvm.MethodName)), (Jvm.Cond.privateMethod ({ cls := "PushTrayModel", name := "layParts", desc := "(I)V" } : Jvm.MethodName)), (Jvm.Cond.instanceMethod ({ cls := "PushTrayModel", name := "layParts", desc := "(I)V" } : Jvm.MethodName)), (Jvm.Cond.code ({ cls := "PushTrayModel", name := "layParts", desc := "(I)V" } : Jvm.MethodName) prog_8_method_54_code (4 : Nat) (Option.none : Option Jvm.ClassFile.FieldType)), (Jvm.Cond.methodLink "PushTrayModel" (190 : Nat) ({ cls := "PushTrayModel", name := "drawPush", desc := "(I)V" } : Jvm.MethodName)), (Jvm.Cond.privateMethod ({ cls := "PushTrayModel", name := "drawPush", desc := "(I)V" } : Jvm.MethodName)), (Jvm.Cond.instanceMethod ({ cls := "PushTrayModel", name := "drawPush", desc := "(I)V" } : Jvm.MethodName)), (Jvm.Cond.code ({ cls := "PushTrayModel", name := "drawPush", desc := "(I)V" } : Jvm.MethodName) prog_8_method_53_code (6 : Nat) (Option.none : Option Jvm.ClassFile.FieldType)), (Jvm.Cond.methodLink "PushTrayModel" (187 : Nat) ({ cls := "PushTrayModel", name := "size", desc := "(I)I" } : Jvm.MethodName)), (Jvm.Cond.static ({ cls := "PushTrayModel", name := "size", desc := "(I)I" } : Jvm.MethodName)), (Jvm.Cond.code ({ cls := "PushTrayModel", name := "size", desc := "(I)I" } : Jvm.MethodName) prog_8_method_5_code (3 : Nat) (Option.some Jvm.ClassFile.FieldType.int)), (Jvm.Cond.methodLink "PushTrayModel" (197 : Nat) ({ cls := "PushTrayModel", name := "divisor", desc := "(II)I" } : Jvm.MethodName)), (Jvm.Cond.static ({ cls := "PushTrayModel", name := "divisor", desc := "(II)I" } : Jvm.MethodName)), (Jvm.Cond.code ({ cls := "PushTrayModel", name := "divisor", desc := "(II)I" } : Jvm.MethodName) prog_8_method_6_code (5 : Nat) (Option.some Jvm.ClassFile.FieldType.int))]
def xt_4_9 : List Cond := [(Jvm.Cond.methodLink "PushTrayLaw" (89 : Nat) ({ cls := "PushTrayModel", name := "see", desc := "(III)I" } : Jvm.MethodName)), (Jvm.Cond.instanceMethod ({ cls := "PushTrayModel", name := "see", desc := "(III)I" } : Jvm.MethodName)), (Jvm.Cond.selects "PushTrayModel" ({ cls := "PushTrayModel", name := "see", desc := "(III)I" } : Jvm.MethodName) ({ cls := "PushTrayModel", name := "see", desc := "(III)I" } : Jvm.MethodName)), (Jvm.Cond.code ({ cls := "PushTrayModel", name := "see", desc := "(III)I" } : Jvm.MethodName) prog_8_method_57_code (4 : Nat) (Option.some Jvm.ClassFile.FieldType.int)), (Jvm.Cond.methodLink "PushTrayLaw" (93 : Nat) ({ cls := "PushTrayModel", name := "forget", desc := "()I" } : Jvm.MethodName)), (Jvm.Cond.instanceMethod ({ cls := "PushTrayModel", name := "forget", desc := "()I" } : Jvm.MethodName)), (Jvm.Cond.selects "PushTrayModel" ({ cls := "PushTrayModel", name := "forget", desc := "()I" } : Jvm.MethodName) ({ cls := "PushTrayModel", name := "forget", desc := "()I" } : Jvm.MethodName)), (Jvm.Cond.code ({ cls := "PushTrayModel", name := "forget", desc := "()I" } : Jvm.MethodName) prog_8_method_58_code (2 : Nat) (Option.some Jvm.ClassFile.FieldType.int)), (Jvm.Cond.methodLink "PushTrayLaw" (97 : Nat) ({ cls := "PushTrayModel", name := "runs", desc := "(III)I" } : Jvm.MethodName)), (Jvm.Cond.instanceMethod ({ cls := "PushTrayModel", name := "runs", desc := "(III)I" } : Jvm.MethodName)), (Jvm.Cond.selects "PushTrayModel" ({ cls := "PushTrayModel", name := "runs", desc := "(III)I" } : Jvm.MethodName) ({ cls := "PushTrayModel", name := "runs", desc := "(III)I" } : Jvm.MethodName)), (Jvm.Cond.code ({ cls := "PushTrayModel", name := "runs", desc := "(III)I" } : Jvm.MethodName) prog_8_method_66_code (4 : Nat) (Option.some Jvm.ClassFile.FieldType.int)), (Jvm.Cond.methodLink "PushTrayModel" (228 : Nat) ({ cls := "PushTrayModel", name := "runsNow", desc := "(III)I" } : Jvm.MethodName)), (Jvm.Cond.privateMethod ({ cls := "PushTrayModel", name := "runsNow", desc := "(III)I" } : Jvm.MethodName)), (Jvm.Cond.instanceMethod ({ cls := "PushTrayModel", name := "runsNow", desc := "(III)I" } : Jvm.MethodName)), (Jvm.Cond.code ({ cls := "PushTrayModel", name := "runsNow", desc := "(III)I" } : Jvm.MethodName) prog_8_method_65_code (9 : Nat) (Option.some Jvm.ClassFile.FieldType.int))]
def xt_4_10 : List Cond := [(Jvm.Cond.methodLink "PushTrayModel" (219 : Nat) ({ cls := "PushTrayModel", name := "draw", desc := "(I)I" } : Jvm.MethodName)), (Jvm.Cond.privateMethod ({ cls := "PushTrayModel", name := "draw", desc := "(I)I" } : Jvm.MethodName)), (Jvm.Cond.instanceMethod ({ cls := "PushTrayModel", name := "draw", desc := "(I)I" } : Jvm.MethodName)), (Jvm.Cond.code ({ cls := "PushTrayModel", name := "draw", desc := "(I)I" } : Jvm.MethodName) prog_8_method_62_code (2 : Nat) (Option.some Jvm.ClassFile.FieldType.int)), (Jvm.Cond.constantLong "PushTrayModel" (207 : Nat) (1103515245 : Int64)), (Jvm.Cond.constantLong "PushTrayModel" (213 : Nat) (12345 : Int64)), (Jvm.Cond.constantLong "PushTrayModel" (215 : Nat) (2147483647 : Int64)), (Jvm.Cond.constantLong "PushTrayModel" (217 : Nat) (65536 : Int64)), (Jvm.Cond.methodLink "PushTrayModel" (222 : Nat) ({ cls := "PushTrayModel", name := "ofSet", desc := "(II)I" } : Jvm.MethodName)), (Jvm.Cond.static ({ cls := "PushTrayModel", name := "ofSet", desc := "(II)I" } : Jvm.MethodName)), (Jvm.Cond.code ({ cls := "PushTrayModel", name := "ofSet", desc := "(II)I" } : Jvm.MethodName) prog_8_method_63_code (4 : Nat) (Option.some Jvm.ClassFile.FieldType.int)), (Jvm.Cond.methodLink "PushTrayModel" (225 : Nat) ({ cls := "PushTrayModel", name := "alikeIn", desc := "(I)I" } : Jvm.MethodName)), (Jvm.Cond.privateMethod ({ cls := "PushTrayModel", name := "alikeIn", desc := "(I)I" } : Jvm.MethodName)), (Jvm.Cond.instanceMethod ({ cls := "PushTrayModel", name := "alikeIn", desc := "(I)I" } : Jvm.MethodName)), (Jvm.Cond.code ({ cls := "PushTrayModel", name := "alikeIn", desc := "(I)I" } : Jvm.MethodName) prog_8_method_64_code (4 : Nat) (Option.some Jvm.ClassFile.FieldType.int)), (Jvm.Cond.methodLink "PushTrayLaw" (101 : Nat) ({ cls := "PushTrayModel", name := "image", desc := "()I" } : Jvm.MethodName))]
def xt_4_11 : List Cond := [(Jvm.Cond.instanceMethod ({ cls := "PushTrayModel", name := "image", desc := "()I" } : Jvm.MethodName)), (Jvm.Cond.selects "PushTrayModel" ({ cls := "PushTrayModel", name := "image", desc := "()I" } : Jvm.MethodName) ({ cls := "PushTrayModel", name := "image", desc := "()I" } : Jvm.MethodName)), (Jvm.Cond.code ({ cls := "PushTrayModel", name := "image", desc := "()I" } : Jvm.MethodName) prog_8_method_67_code (2 : Nat) (Option.some Jvm.ClassFile.FieldType.int)), (Jvm.Cond.methodLink "PushTrayLaw" (105 : Nat) ({ cls := "PushTrayModel", name := "restore", desc := "()I" } : Jvm.MethodName)), (Jvm.Cond.instanceMethod ({ cls := "PushTrayModel", name := "restore", desc := "()I" } : Jvm.MethodName)), (Jvm.Cond.selects "PushTrayModel" ({ cls := "PushTrayModel", name := "restore", desc := "()I" } : Jvm.MethodName) ({ cls := "PushTrayModel", name := "restore", desc := "()I" } : Jvm.MethodName)), (Jvm.Cond.code ({ cls := "PushTrayModel", name := "restore", desc := "()I" } : Jvm.MethodName) prog_8_method_68_code (2 : Nat) (Option.some Jvm.ClassFile.FieldType.int)), (Jvm.Cond.methodLink "PushTrayLaw" (109 : Nat) ({ cls := "PushTrayModel", name := "count", desc := "(I)I" } : Jvm.MethodName)), (Jvm.Cond.instanceMethod ({ cls := "PushTrayModel", name := "count", desc := "(I)I" } : Jvm.MethodName)), (Jvm.Cond.selects "PushTrayModel" ({ cls := "PushTrayModel", name := "count", desc := "(I)I" } : Jvm.MethodName) ({ cls := "PushTrayModel", name := "count", desc := "(I)I" } : Jvm.MethodName)), (Jvm.Cond.code ({ cls := "PushTrayModel", name := "count", desc := "(I)I" } : Jvm.MethodName) prog_8_method_71_code (2 : Nat) (Option.some Jvm.ClassFile.FieldType.int)), (Jvm.Cond.methodLink "PushTrayModel" (255 : Nat) ({ cls := "PushTrayModel", name := "howMany", desc := "(I)I" } : Jvm.MethodName)), (Jvm.Cond.privateMethod ({ cls := "PushTrayModel", name := "howMany", desc := "(I)I" } : Jvm.MethodName)), (Jvm.Cond.instanceMethod ({ cls := "PushTrayModel", name := "howMany", desc := "(I)I" } : Jvm.MethodName)), (Jvm.Cond.code ({ cls := "PushTrayModel", name := "howMany", desc := "(I)I" } : Jvm.MethodName) prog_8_method_70_code (2 : Nat) (Option.some Jvm.ClassFile.FieldType.int)), (Jvm.Cond.methodLink "PushTrayModel" (252 : Nat) ({ cls := "PushTrayModel", name := "ofTray", desc := "(I)I" } : Jvm.MethodName))]
def xt_4_12 : List Cond := [(Jvm.Cond.privateMethod ({ cls := "PushTrayModel", name := "ofTray", desc := "(I)I" } : Jvm.MethodName)), (Jvm.Cond.instanceMethod ({ cls := "PushTrayModel", name := "ofTray", desc := "(I)I" } : Jvm.MethodName)), (Jvm.Cond.code ({ cls := "PushTrayModel", name := "ofTray", desc := "(I)I" } : Jvm.MethodName) prog_8_method_69_code (2 : Nat) (Option.some Jvm.ClassFile.FieldType.int)), (Jvm.Cond.methodLink "PushTrayLaw" (114 : Nat) ({ cls := "PushTrayModel", name := "digest", desc := "()J" } : Jvm.MethodName)), (Jvm.Cond.instanceMethod ({ cls := "PushTrayModel", name := "digest", desc := "()J" } : Jvm.MethodName)), (Jvm.Cond.selects "PushTrayModel" ({ cls := "PushTrayModel", name := "digest", desc := "()J" } : Jvm.MethodName) ({ cls := "PushTrayModel", name := "digest", desc := "()J" } : Jvm.MethodName)), (Jvm.Cond.code ({ cls := "PushTrayModel", name := "digest", desc := "()J" } : Jvm.MethodName) prog_8_method_74_code (2 : Nat) (Option.some Jvm.ClassFile.FieldType.long)), (Jvm.Cond.constantLong "PushTrayModel" (267 : Nat) (1291 : Int64)), (Jvm.Cond.methodLink "PushTrayModel" (269 : Nat) ({ cls := "PushTrayModel", name := "mixTray", desc := "()V" } : Jvm.MethodName)), (Jvm.Cond.privateMethod ({ cls := "PushTrayModel", name := "mixTray", desc := "()V" } : Jvm.MethodName)), (Jvm.Cond.instanceMethod ({ cls := "PushTrayModel", name := "mixTray", desc := "()V" } : Jvm.MethodName)), (Jvm.Cond.code ({ cls := "PushTrayModel", name := "mixTray", desc := "()V" } : Jvm.MethodName) prog_8_method_73_code (3 : Nat) (Option.none : Option Jvm.ClassFile.FieldType)), (Jvm.Cond.methodLink "PushTrayModel" (263 : Nat) ({ cls := "PushTrayModel", name := "mix", desc := "(J)V" } : Jvm.MethodName)), (Jvm.Cond.privateMethod ({ cls := "PushTrayModel", name := "mix", desc := "(J)V" } : Jvm.MethodName)), (Jvm.Cond.instanceMethod ({ cls := "PushTrayModel", name := "mix", desc := "(J)V" } : Jvm.MethodName)), (Jvm.Cond.code ({ cls := "PushTrayModel", name := "mix", desc := "(J)V" } : Jvm.MethodName) prog_8_method_72_code (3 : Nat) (Option.none : Option Jvm.ClassFile.FieldType))]
def xt_4_13 : List Cond := [(Jvm.Cond.constantLong "PushTrayModel" (258 : Nat) (31 : Int64)), (Jvm.Cond.fieldLinkNest "PushTray" (277 : Nat) "PushTray$Kind" "letter" "I" "PushTray"), (Jvm.Cond.fieldLink "PushTray$Kind" (44 : Nat) "PushTray$Kind" "priceWithinRow" "I"), (Jvm.Cond.fieldLink "PushTray$Kind" (47 : Nat) "PushTray$Kind" "priceBetweenRows" "I"), (Jvm.Cond.fieldLink "PushTray$Kind" (50 : Nat) "PushTray$Kind" "kinds" "I"), (Jvm.Cond.laysStatic "PushTray$Kind" "TILE" "LPushTray$Kind;"), (Jvm.Cond.laysStatic "PushTray$Kind" "HEAVY" "LPushTray$Kind;"), (Jvm.Cond.laysStatic "PushTray$Kind" "NAILED" "LPushTray$Kind;"), (Jvm.Cond.laysStatic "PushTray$Kind" "SHY" "LPushTray$Kind;"), (Jvm.Cond.laysStatic "PushTray$Kind" "STONE" "LPushTray$Kind;")]
set_option maxRecDepth 20000 in
theorem xt_4 : tables_1_4 = xt_4_0 ++ (xt_4_1 ++ (xt_4_2 ++ (xt_4_3 ++ (xt_4_4 ++ (xt_4_5 ++ (xt_4_6 ++ (xt_4_7 ++ (xt_4_8 ++ (xt_4_9 ++ (xt_4_10 ++ (xt_4_11 ++ (xt_4_12 ++ (xt_4_13))))))))))))) := by rfl
theorem xm_4_0 {w : Cond} (h : w ∈ xt_4_0) (hg : goodWord w = true) : w ∈ XW := xin4 (by rw [xt_4]; exact List.mem_append_left _ h) hg
theorem xm_4_1 {w : Cond} (h : w ∈ xt_4_1) (hg : goodWord w = true) : w ∈ XW := xin4 (by rw [xt_4]; exact List.mem_append_right _ (List.mem_append_left _ h)) hg
theorem xm_4_2 {w : Cond} (h : w ∈ xt_4_2) (hg : goodWord w = true) : w ∈ XW := xin4 (by rw [xt_4]; exact List.mem_append_right _ (List.mem_append_right _ (List.mem_append_left _ h))) hg
theorem xm_4_3 {w : Cond} (h : w ∈ xt_4_3) (hg : goodWord w = true) : w ∈ XW := xin4 (by rw [xt_4]; exact List.mem_append_right _ (List.mem_append_right _ (List.mem_append_right _ (List.mem_append_left _ h)))) hg
theorem xm_4_4 {w : Cond} (h : w ∈ xt_4_4) (hg : goodWord w = true) : w ∈ XW := xin4 (by rw [xt_4]; exact List.mem_append_right _ (List.mem_append_right _ (List.mem_append_right _ (List.mem_append_right _ (List.mem_append_left _ h))))) hg
theorem xm_4_5 {w : Cond} (h : w ∈ xt_4_5) (hg : goodWord w = true) : w ∈ XW := xin4 (by rw [xt_4]; exact List.mem_append_right _ (List.mem_append_right _ (List.mem_append_right _ (List.mem_append_right _ (List.mem_append_right _ (List.mem_append_left _ h)))))) hg
theorem xm_4_6 {w : Cond} (h : w ∈ xt_4_6) (hg : goodWord w = true) : w ∈ XW := xin4 (by rw [xt_4]; exact List.mem_append_right _ (List.mem_append_right _ (List.mem_append_right _ (List.mem_append_right _ (List.mem_append_right _ (List.mem_append_right _ (List.mem_append_left _ h))))))) hg
theorem xm_4_7 {w : Cond} (h : w ∈ xt_4_7) (hg : goodWord w = true) : w ∈ XW := xin4 (by rw [xt_4]; exact List.mem_append_right _ (List.mem_append_right _ (List.mem_append_right _ (List.mem_append_right _ (List.mem_append_right _ (List.mem_append_right _ (List.mem_append_right _ (List.mem_append_left _ h)))))))) hg
theorem xm_4_8 {w : Cond} (h : w ∈ xt_4_8) (hg : goodWord w = true) : w ∈ XW := xin4 (by rw [xt_4]; exact List.mem_append_right _ (List.mem_append_right _ (List.mem_append_right _ (List.mem_append_right _ (List.mem_append_right _ (List.mem_append_right _ (List.mem_append_right _ (List.mem_append_right _ (List.mem_append_left _ h))))))))) hg
theorem xm_4_9 {w : Cond} (h : w ∈ xt_4_9) (hg : goodWord w = true) : w ∈ XW := xin4 (by rw [xt_4]; exact List.mem_append_right _ (List.mem_append_right _ (List.mem_append_right _ (List.mem_append_right _ (List.mem_append_right _ (List.mem_append_right _ (List.mem_append_right _ (List.mem_append_right _ (List.mem_append_right _ (List.mem_append_left _ h)))))))))) hg
theorem xm_4_10 {w : Cond} (h : w ∈ xt_4_10) (hg : goodWord w = true) : w ∈ XW := xin4 (by rw [xt_4]; exact List.mem_append_right _ (List.mem_append_right _ (List.mem_append_right _ (List.mem_append_right _ (List.mem_append_right _ (List.mem_append_right _ (List.mem_append_right _ (List.mem_append_right _ (List.mem_append_right _ (List.mem_append_right _ (List.mem_append_left _ h))))))))))) hg
theorem xm_4_11 {w : Cond} (h : w ∈ xt_4_11) (hg : goodWord w = true) : w ∈ XW := xin4 (by rw [xt_4]; exact List.mem_append_right _ (List.mem_append_right _ (List.mem_append_right _ (List.mem_append_right _ (List.mem_append_right _ (List.mem_append_right _ (List.mem_append_right _ (List.mem_append_right _ (List.mem_append_right _ (List.mem_append_right _ (List.mem_append_right _ (List.mem_append_left _ h)))))))))))) hg
theorem xm_4_12 {w : Cond} (h : w ∈ xt_4_12) (hg : goodWord w = true) : w ∈ XW := xin4 (by rw [xt_4]; exact List.mem_append_right _ (List.mem_append_right _ (List.mem_append_right _ (List.mem_append_right _ (List.mem_append_right _ (List.mem_append_right _ (List.mem_append_right _ (List.mem_append_right _ (List.mem_append_right _ (List.mem_append_right _ (List.mem_append_right _ (List.mem_append_right _ (List.mem_append_left _ h))))))))))))) hg
theorem xm_4_13 {w : Cond} (h : w ∈ xt_4_13) (hg : goodWord w = true) : w ∈ XW := xin4 (by rw [xt_4]; exact List.mem_append_right _ (List.mem_append_right _ (List.mem_append_right _ (List.mem_append_right _ (List.mem_append_right _ (List.mem_append_right _ (List.mem_append_right _ (List.mem_append_right _ (List.mem_append_right _ (List.mem_append_right _ (List.mem_append_right _ (List.mem_append_right _ (List.mem_append_right _ (h)))))))))))))) hg
theorem xw_1_0 : (Jvm.Cond.initialized "PushTrayLaw") ∈ XW := xm_1_0 (List.mem_of_getElem? (i := 0) rfl) rfl
theorem xw_1_1 : (Jvm.Cond.initialized "PushTray") ∈ XW := xm_1_0 (List.mem_of_getElem? (i := 1) rfl) rfl
theorem xw_1_2 : (Jvm.Cond.initialized "PushTray$Lays") ∈ XW := xm_1_0 (List.mem_of_getElem? (i := 2) rfl) rfl
theorem xw_1_3 : (Jvm.Cond.initialized "java/lang/Math") ∈ XW := xm_1_0 (List.mem_of_getElem? (i := 3) rfl) rfl
theorem xw_1_4 : (Jvm.Cond.initialized "java/lang/Integer") ∈ XW := xm_1_0 (List.mem_of_getElem? (i := 4) rfl) rfl
theorem xw_1_5 : (Jvm.Cond.initialized "PushTray$Spread") ∈ XW := xm_1_0 (List.mem_of_getElem? (i := 5) rfl) rfl
theorem xw_1_6 : (Jvm.Cond.initialized "PushTray$Chances") ∈ XW := xm_1_0 (List.mem_of_getElem? (i := 6) rfl) rfl
theorem xw_1_7 : (Jvm.Cond.initialized "PushTray$Standing") ∈ XW := xm_1_0 (List.mem_of_getElem? (i := 7) rfl) rfl
theorem xw_1_8 : (Jvm.Cond.initialized "PushTrayModel") ∈ XW := xm_1_0 (List.mem_of_getElem? (i := 8) rfl) rfl
theorem xw_1_9 : (Jvm.Cond.initialized "java/util/Arrays") ∈ XW := xm_1_0 (List.mem_of_getElem? (i := 9) rfl) rfl
theorem xw_1_10 : (Jvm.Cond.initialized "java/lang/System") ∈ XW := xm_1_0 (List.mem_of_getElem? (i := 10) rfl) rfl
theorem xw_1_11 : (Jvm.Cond.classLink "PushTrayLaw" (7 : Nat) "PushTray") ∈ XW := xm_1_0 (List.mem_of_getElem? (i := 11) rfl) rfl
theorem xw_1_12 : (Jvm.Cond.instantiable "PushTray" (12 : Nat)) ∈ XW := xm_1_0 (List.mem_of_getElem? (i := 12) rfl) rfl
theorem xw_1_13 : (Jvm.Cond.methodLink "PushTrayLaw" (9 : Nat) ({ cls := "PushTray", name := "<init>", desc := "()V" } : Jvm.MethodName)) ∈ XW := xm_1_0 (List.mem_of_getElem? (i := 13) rfl) rfl
theorem xw_1_14 : (Jvm.Cond.instanceMethod ({ cls := "PushTray", name := "<init>", desc := "()V" } : Jvm.MethodName)) ∈ XW := xm_1_0 (List.mem_of_getElem? (i := 14) rfl) rfl
theorem xw_1_15 : (Jvm.Cond.code ({ cls := "PushTray", name := "<init>", desc := "()V" } : Jvm.MethodName) prog_1_method_1_code (1 : Nat) (Option.none : Option Jvm.ClassFile.FieldType)) ∈ XW := xm_1_0 (List.mem_of_getElem? (i := 15) rfl) rfl
theorem xw_1_16 : (Jvm.Cond.methodLink "PushTray" (1 : Nat) ({ cls := "java/lang/Object", name := "<init>", desc := "()V" } : Jvm.MethodName)) ∈ XW := xm_1_1 (List.mem_of_getElem? (i := 0) rfl) rfl
theorem xw_1_17 : (Jvm.Cond.instanceMethod ({ cls := "java/lang/Object", name := "<init>", desc := "()V" } : Jvm.MethodName)) ∈ XW := xm_1_1 (List.mem_of_getElem? (i := 1) rfl) rfl
theorem xw_1_18 : (Jvm.Cond.code ({ cls := "java/lang/Object", name := "<init>", desc := "()V" } : Jvm.MethodName) object_method_1_code (1 : Nat) (Option.none : Option Jvm.ClassFile.FieldType)) ∈ XW := xm_1_1 (List.mem_of_getElem? (i := 2) rfl) rfl
theorem xw_1_19 : (Jvm.Cond.classLink "PushTray" (7 : Nat) "PushTray$Lays") ∈ XW := xm_1_1 (List.mem_of_getElem? (i := 3) rfl) rfl
theorem xw_1_20 : (Jvm.Cond.instantiable "PushTray$Lays" (5 : Nat)) ∈ XW := xm_1_1 (List.mem_of_getElem? (i := 4) rfl) rfl
theorem xw_1_21 : (Jvm.Cond.methodLink "PushTray" (9 : Nat) ({ cls := "PushTray$Lays", name := "<init>", desc := "()V" } : Jvm.MethodName)) ∈ XW := xm_1_1 (List.mem_of_getElem? (i := 5) rfl) rfl
theorem xw_1_22 : (Jvm.Cond.instanceMethod ({ cls := "PushTray$Lays", name := "<init>", desc := "()V" } : Jvm.MethodName)) ∈ XW := xm_1_1 (List.mem_of_getElem? (i := 6) rfl) rfl
theorem xw_1_23 : (Jvm.Cond.code ({ cls := "PushTray$Lays", name := "<init>", desc := "()V" } : Jvm.MethodName) prog_4_method_1_code (2 : Nat) (Option.none : Option Jvm.ClassFile.FieldType)) ∈ XW := xm_1_1 (List.mem_of_getElem? (i := 7) rfl) rfl
theorem xw_1_24 : (Jvm.Cond.methodLink "PushTray$Lays" (3 : Nat) ({ cls := "java/lang/Object", name := "<init>", desc := "()V" } : Jvm.MethodName)) ∈ XW := xm_1_1 (List.mem_of_getElem? (i := 8) rfl) rfl
theorem xw_1_25 : (Jvm.Cond.methodLink "PushTray$Lays" (27 : Nat) ({ cls := "PushTray$Lays", name := "spell", desc := "(I)V" } : Jvm.MethodName)) ∈ XW := xm_1_1 (List.mem_of_getElem? (i := 9) rfl) rfl
theorem xw_1_27 : (Jvm.Cond.instanceMethod ({ cls := "PushTray$Lays", name := "spell", desc := "(I)V" } : Jvm.MethodName)) ∈ XW := xm_1_1 (List.mem_of_getElem? (i := 11) rfl) rfl
theorem xw_1_28 : (Jvm.Cond.code ({ cls := "PushTray$Lays", name := "spell", desc := "(I)V" } : Jvm.MethodName) prog_4_method_3_code (6 : Nat) (Option.none : Option Jvm.ClassFile.FieldType)) ∈ XW := xm_1_1 (List.mem_of_getElem? (i := 12) rfl) rfl
theorem xw_1_31 : (Jvm.Cond.methodLink "PushTray$Lays" (43 : Nat) ({ cls := "PushTray$Lays", name := "leftSign", desc := "(II)I" } : Jvm.MethodName)) ∈ XW := xm_1_1 (List.mem_of_getElem? (i := 15) rfl) rfl
theorem xw_1_32 : (Jvm.Cond.static ({ cls := "PushTray$Lays", name := "leftSign", desc := "(II)I" } : Jvm.MethodName)) ∈ XW := xm_1_2 (List.mem_of_getElem? (i := 0) rfl) rfl
theorem xw_1_33 : (Jvm.Cond.code ({ cls := "PushTray$Lays", name := "leftSign", desc := "(II)I" } : Jvm.MethodName) prog_4_method_4_code (4 : Nat) (Option.some Jvm.ClassFile.FieldType.int)) ∈ XW := xm_1_2 (List.mem_of_getElem? (i := 1) rfl) rfl
theorem xw_1_34 : (Jvm.Cond.methodLink "PushTray$Lays" (31 : Nat) ({ cls := "PushTray$Lays", name := "link", desc := "(I)V" } : Jvm.MethodName)) ∈ XW := xm_1_2 (List.mem_of_getElem? (i := 2) rfl) rfl
theorem xw_1_36 : (Jvm.Cond.instanceMethod ({ cls := "PushTray$Lays", name := "link", desc := "(I)V" } : Jvm.MethodName)) ∈ XW := xm_1_2 (List.mem_of_getElem? (i := 4) rfl) rfl
theorem xw_1_37 : (Jvm.Cond.code ({ cls := "PushTray$Lays", name := "link", desc := "(I)V" } : Jvm.MethodName) prog_4_method_5_code (6 : Nat) (Option.none : Option Jvm.ClassFile.FieldType)) ∈ XW := xm_1_2 (List.mem_of_getElem? (i := 5) rfl) rfl
theorem xw_1_38 : (Jvm.Cond.methodLink "PushTray$Lays" (47 : Nat) ({ cls := "PushTray$Lays", name := "place", desc := "(II)I" } : Jvm.MethodName)) ∈ XW := xm_1_2 (List.mem_of_getElem? (i := 6) rfl) rfl
theorem xw_1_39 : (Jvm.Cond.instanceMethod ({ cls := "PushTray$Lays", name := "place", desc := "(II)I" } : Jvm.MethodName)) ∈ XW := xm_1_2 (List.mem_of_getElem? (i := 7) rfl) rfl
theorem xw_1_40 : (Jvm.Cond.selects "PushTray$Lays" ({ cls := "PushTray$Lays", name := "place", desc := "(II)I" } : Jvm.MethodName) ({ cls := "PushTray$Lays", name := "place", desc := "(II)I" } : Jvm.MethodName)) ∈ XW := xm_1_2 (List.mem_of_getElem? (i := 8) rfl) rfl
theorem xw_1_41 : (Jvm.Cond.code ({ cls := "PushTray$Lays", name := "place", desc := "(II)I" } : Jvm.MethodName) prog_4_method_8_code (3 : Nat) (Option.some Jvm.ClassFile.FieldType.int)) ∈ XW := xm_1_2 (List.mem_of_getElem? (i := 9) rfl) rfl
theorem xw_1_42 : (Jvm.Cond.methodLink "PushTray$Lays" (61 : Nat) ({ cls := "PushTray$Lays", name := "read", desc := "([III)I" } : Jvm.MethodName)) ∈ XW := xm_1_2 (List.mem_of_getElem? (i := 10) rfl) rfl
theorem xw_1_43 : (Jvm.Cond.static ({ cls := "PushTray$Lays", name := "read", desc := "([III)I" } : Jvm.MethodName)) ∈ XW := xm_1_2 (List.mem_of_getElem? (i := 11) rfl) rfl
theorem xw_1_44 : (Jvm.Cond.code ({ cls := "PushTray$Lays", name := "read", desc := "([III)I" } : Jvm.MethodName) prog_4_method_6_code (4 : Nat) (Option.some Jvm.ClassFile.FieldType.int)) ∈ XW := xm_1_2 (List.mem_of_getElem? (i := 12) rfl) rfl
theorem xw_1_46 : (Jvm.Cond.static ({ cls := "PushTray", name := "areNext", desc := "(II)Z" } : Jvm.MethodName)) ∈ XW := xm_1_2 (List.mem_of_getElem? (i := 14) rfl) rfl
theorem xw_1_47 : (Jvm.Cond.code ({ cls := "PushTray", name := "areNext", desc := "(II)Z" } : Jvm.MethodName) prog_1_method_36_code (3 : Nat) (Option.some Jvm.ClassFile.FieldType.boolean)) ∈ XW := xm_1_2 (List.mem_of_getElem? (i := 15) rfl) rfl
theorem xw_1_48 : (Jvm.Cond.methodLink "PushTray" (271 : Nat) ({ cls := "java/lang/Math", name := "abs", desc := "(I)I" } : Jvm.MethodName)) ∈ XW := xm_1_3 (List.mem_of_getElem? (i := 0) rfl) rfl
theorem xw_1_49 : (Jvm.Cond.static ({ cls := "java/lang/Math", name := "abs", desc := "(I)I" } : Jvm.MethodName)) ∈ XW := xm_1_3 (List.mem_of_getElem? (i := 1) rfl) rfl
theorem xw_1_50 : (Jvm.Cond.code ({ cls := "java/lang/Math", name := "abs", desc := "(I)I" } : Jvm.MethodName) prog_11_method_59_code (1 : Nat) (Option.some Jvm.ClassFile.FieldType.int)) ∈ XW := xm_1_3 (List.mem_of_getElem? (i := 2) rfl) rfl
theorem xw_1_51 : (Jvm.Cond.methodLink "PushTray" (274 : Nat) ({ cls := "PushTray", name := "isOneRow", desc := "(II)Z" } : Jvm.MethodName)) ∈ XW := xm_1_3 (List.mem_of_getElem? (i := 3) rfl) rfl
theorem xw_1_52 : (Jvm.Cond.static ({ cls := "PushTray", name := "isOneRow", desc := "(II)Z" } : Jvm.MethodName)) ∈ XW := xm_1_3 (List.mem_of_getElem? (i := 4) rfl) rfl
theorem xw_1_53 : (Jvm.Cond.code ({ cls := "PushTray", name := "isOneRow", desc := "(II)Z" } : Jvm.MethodName) prog_1_method_37_code (2 : Nat) (Option.some Jvm.ClassFile.FieldType.boolean)) ∈ XW := xm_1_3 (List.mem_of_getElem? (i := 5) rfl) rfl
theorem xw_1_54 : (Jvm.Cond.methodLink "PushTray$Lays" (54 : Nat) ({ cls := "PushTray$Lays", name := "exchanged", desc := "(III)I" } : Jvm.MethodName)) ∈ XW := xm_1_3 (List.mem_of_getElem? (i := 6) rfl) rfl
theorem xw_1_55 : (Jvm.Cond.instanceMethod ({ cls := "PushTray$Lays", name := "exchanged", desc := "(III)I" } : Jvm.MethodName)) ∈ XW := xm_1_3 (List.mem_of_getElem? (i := 7) rfl) rfl
theorem xw_1_56 : (Jvm.Cond.selects "PushTray$Lays" ({ cls := "PushTray$Lays", name := "exchanged", desc := "(III)I" } : Jvm.MethodName) ({ cls := "PushTray$Lays", name := "exchanged", desc := "(III)I" } : Jvm.MethodName)) ∈ XW := xm_1_3 (List.mem_of_getElem? (i := 8) rfl) rfl
theorem xw_1_57 : (Jvm.Cond.code ({ cls := "PushTray$Lays", name := "exchanged", desc := "(III)I" } : Jvm.MethodName) prog_4_method_10_code (6 : Nat) (Option.some Jvm.ClassFile.FieldType.int)) ∈ XW := xm_1_3 (List.mem_of_getElem? (i := 9) rfl) rfl
theorem xw_1_58 : (Jvm.Cond.methodLink "PushTray$Lays" (65 : Nat) ({ cls := "PushTray$Lays", name := "sign", desc := "(II)I" } : Jvm.MethodName)) ∈ XW := xm_1_3 (List.mem_of_getElem? (i := 10) rfl) rfl
theorem xw_1_59 : (Jvm.Cond.instanceMethod ({ cls := "PushTray$Lays", name := "sign", desc := "(II)I" } : Jvm.MethodName)) ∈ XW := xm_1_3 (List.mem_of_getElem? (i := 11) rfl) rfl
theorem xw_1_60 : (Jvm.Cond.selects "PushTray$Lays" ({ cls := "PushTray$Lays", name := "sign", desc := "(II)I" } : Jvm.MethodName) ({ cls := "PushTray$Lays", name := "sign", desc := "(II)I" } : Jvm.MethodName)) ∈ XW := xm_1_3 (List.mem_of_getElem? (i := 12) rfl) rfl
theorem xw_1_61 : (Jvm.Cond.code ({ cls := "PushTray$Lays", name := "sign", desc := "(II)I" } : Jvm.MethodName) prog_4_method_7_code (3 : Nat) (Option.some Jvm.ClassFile.FieldType.int)) ∈ XW := xm_1_3 (List.mem_of_getElem? (i := 13) rfl) rfl
theorem xw_1_62 : (Jvm.Cond.methodLink "PushTray$Lays" (68 : Nat) ({ cls := "PushTray$Lays", name := "numberOf", desc := "([I)I" } : Jvm.MethodName)) ∈ XW := xm_1_3 (List.mem_of_getElem? (i := 14) rfl) rfl
theorem xw_1_63 : (Jvm.Cond.static ({ cls := "PushTray$Lays", name := "numberOf", desc := "([I)I" } : Jvm.MethodName)) ∈ XW := xm_1_3 (List.mem_of_getElem? (i := 15) rfl) rfl
theorem xw_1_64 : (Jvm.Cond.code ({ cls := "PushTray$Lays", name := "numberOf", desc := "([I)I" } : Jvm.MethodName) prog_4_method_2_code (4 : Nat) (Option.some Jvm.ClassFile.FieldType.int)) ∈ XW := xm_1_4 (List.mem_of_getElem? (i := 0) rfl) rfl
theorem xw_1_65 : (Jvm.Cond.methodLink "PushTray$Lays" (37 : Nat) ({ cls := "java/lang/Integer", name := "bitCount", desc := "(I)I" } : Jvm.MethodName)) ∈ XW := xm_1_4 (List.mem_of_getElem? (i := 1) rfl) rfl
theorem xw_1_66 : (Jvm.Cond.static ({ cls := "java/lang/Integer", name := "bitCount", desc := "(I)I" } : Jvm.MethodName)) ∈ XW := xm_1_4 (List.mem_of_getElem? (i := 2) rfl) rfl
theorem xw_1_67 : (Jvm.Cond.code ({ cls := "java/lang/Integer", name := "bitCount", desc := "(I)I" } : Jvm.MethodName) prog_10_method_49_code (1 : Nat) (Option.some Jvm.ClassFile.FieldType.int)) ∈ XW := xm_1_4 (List.mem_of_getElem? (i := 3) rfl) rfl
theorem xw_1_68 : (Jvm.Cond.constant "java/lang/Integer" (265 : Nat) (1431655765 : Int32)) ∈ XW := xm_1_4 (List.mem_of_getElem? (i := 4) rfl) rfl
theorem xw_1_69 : (Jvm.Cond.constant "java/lang/Integer" (266 : Nat) (858993459 : Int32)) ∈ XW := xm_1_4 (List.mem_of_getElem? (i := 5) rfl) rfl
theorem xw_1_70 : (Jvm.Cond.constant "java/lang/Integer" (267 : Nat) (252645135 : Int32)) ∈ XW := xm_1_4 (List.mem_of_getElem? (i := 6) rfl) rfl
theorem xw_1_72 : (Jvm.Cond.fieldLink "PushTray$Lays" (9 : Nat) "PushTray$Lays" "signs" "[I") ∈ XW := xm_1_4 (List.mem_of_getElem? (i := 8) rfl) rfl
theorem xw_1_73 : (Jvm.Cond.fieldLink "PushTray$Lays" (15 : Nat) "PushTray$Lays" "places" "[I") ∈ XW := xm_1_4 (List.mem_of_getElem? (i := 9) rfl) rfl
theorem xw_1_74 : (Jvm.Cond.fieldLink "PushTray$Lays" (18 : Nat) "PushTray$Lays" "pushes" "[I") ∈ XW := xm_1_4 (List.mem_of_getElem? (i := 10) rfl) rfl
theorem xw_1_75 : (Jvm.Cond.fieldLink "PushTray$Lays" (21 : Nat) "PushTray$Lays" "ways" "[I") ∈ XW := xm_1_4 (List.mem_of_getElem? (i := 11) rfl) rfl
theorem xw_1_76 : (Jvm.Cond.fieldLink "PushTray$Lays" (24 : Nat) "PushTray$Lays" "row" "[I") ∈ XW := xm_1_4 (List.mem_of_getElem? (i := 12) rfl) rfl
theorem xw_1_77 : (Jvm.Cond.laysFinal "PushTray$Lays" "PushTray$Lays" "signs" "[I") ∈ XW := xm_1_4 (List.mem_of_getElem? (i := 13) rfl) rfl
theorem xw_1_79 : (Jvm.Cond.laysFinal "PushTray$Lays" "PushTray$Lays" "places" "[I") ∈ XW := xm_1_4 (List.mem_of_getElem? (i := 15) rfl) rfl
theorem xw_1_81 : (Jvm.Cond.laysFinal "PushTray$Lays" "PushTray$Lays" "pushes" "[I") ∈ XW := xm_1_5 (List.mem_of_getElem? (i := 1) rfl) rfl
theorem xw_1_83 : (Jvm.Cond.laysFinal "PushTray$Lays" "PushTray$Lays" "ways" "[I") ∈ XW := xm_1_5 (List.mem_of_getElem? (i := 3) rfl) rfl
theorem xw_1_85 : (Jvm.Cond.laysFinal "PushTray$Lays" "PushTray$Lays" "row" "[I") ∈ XW := xm_1_5 (List.mem_of_getElem? (i := 5) rfl) rfl
theorem xw_1_88 : (Jvm.Cond.arrayClass Jvm.ClassFile.FieldType.int) ∈ XW := xm_1_5 (List.mem_of_getElem? (i := 8) rfl) rfl
theorem xw_1_89 : (Jvm.Cond.classLink "PushTray" (16 : Nat) "PushTray$Spread") ∈ XW := xm_1_5 (List.mem_of_getElem? (i := 9) rfl) rfl
theorem xw_1_90 : (Jvm.Cond.instantiable "PushTray$Spread" (7 : Nat)) ∈ XW := xm_1_5 (List.mem_of_getElem? (i := 10) rfl) rfl
theorem xw_1_91 : (Jvm.Cond.methodLink "PushTray" (18 : Nat) ({ cls := "PushTray$Spread", name := "<init>", desc := "(LPushTray$Lays;)V" } : Jvm.MethodName)) ∈ XW := xm_1_5 (List.mem_of_getElem? (i := 11) rfl) rfl
theorem xw_1_92 : (Jvm.Cond.instanceMethod ({ cls := "PushTray$Spread", name := "<init>", desc := "(LPushTray$Lays;)V" } : Jvm.MethodName)) ∈ XW := xm_1_5 (List.mem_of_getElem? (i := 12) rfl) rfl
theorem xw_1_93 : (Jvm.Cond.code ({ cls := "PushTray$Spread", name := "<init>", desc := "(LPushTray$Lays;)V" } : Jvm.MethodName) prog_5_method_1_code (2 : Nat) (Option.none : Option Jvm.ClassFile.FieldType)) ∈ XW := xm_1_5 (List.mem_of_getElem? (i := 13) rfl) rfl
theorem xw_1_94 : (Jvm.Cond.methodLink "PushTray$Spread" (3 : Nat) ({ cls := "java/lang/Object", name := "<init>", desc := "()V" } : Jvm.MethodName)) ∈ XW := xm_1_5 (List.mem_of_getElem? (i := 14) rfl) rfl
theorem xw_1_95 : (Jvm.Cond.fieldLink "PushTray$Spread" (25 : Nat) "PushTray$Spread" "lays" "LPushTray$Lays;") ∈ XW := xm_1_5 (List.mem_of_getElem? (i := 15) rfl) rfl
theorem xw_1_96 : (Jvm.Cond.fieldLink "PushTray$Spread" (9 : Nat) "PushTray$Spread" "costs" "[I") ∈ XW := xm_1_6 (List.mem_of_getElem? (i := 0) rfl) rfl
theorem xw_1_97 : (Jvm.Cond.fieldLink "PushTray$Spread" (15 : Nat) "PushTray$Spread" "found" "[I") ∈ XW := xm_1_6 (List.mem_of_getElem? (i := 1) rfl) rfl
theorem xw_1_98 : (Jvm.Cond.fieldLink "PushTray$Spread" (29 : Nat) "PushTray$Spread" "size" "I") ∈ XW := xm_1_6 (List.mem_of_getElem? (i := 2) rfl) rfl
theorem xw_1_99 : (Jvm.Cond.fieldLink "PushTray$Spread" (32 : Nat) "PushTray$Spread" "most" "I") ∈ XW := xm_1_6 (List.mem_of_getElem? (i := 3) rfl) rfl
theorem xw_1_100 : (Jvm.Cond.fieldLink "PushTray$Spread" (18 : Nat) "PushTray$Spread" "start" "I") ∈ XW := xm_1_6 (List.mem_of_getElem? (i := 4) rfl) rfl
theorem xw_1_101 : (Jvm.Cond.fieldLink "PushTray$Spread" (22 : Nat) "PushTray$Spread" "kinds" "I") ∈ XW := xm_1_6 (List.mem_of_getElem? (i := 5) rfl) rfl
theorem xw_1_102 : (Jvm.Cond.laysFinal "PushTray$Spread" "PushTray$Spread" "lays" "LPushTray$Lays;") ∈ XW := xm_1_6 (List.mem_of_getElem? (i := 6) rfl) rfl
theorem xw_1_104 : (Jvm.Cond.laysFinal "PushTray$Spread" "PushTray$Spread" "costs" "[I") ∈ XW := xm_1_6 (List.mem_of_getElem? (i := 8) rfl) rfl
theorem xw_1_106 : (Jvm.Cond.laysFinal "PushTray$Spread" "PushTray$Spread" "found" "[I") ∈ XW := xm_1_6 (List.mem_of_getElem? (i := 10) rfl) rfl
theorem xw_1_108 : (Jvm.Cond.lays "PushTray$Spread" "PushTray$Spread" "size" "I") ∈ XW := xm_1_6 (List.mem_of_getElem? (i := 12) rfl) rfl
theorem xw_1_110 : (Jvm.Cond.lays "PushTray$Spread" "PushTray$Spread" "most" "I") ∈ XW := xm_1_6 (List.mem_of_getElem? (i := 14) rfl) rfl
theorem xw_1_112 : (Jvm.Cond.lays "PushTray$Spread" "PushTray$Spread" "start" "I") ∈ XW := xm_1_7 (List.mem_of_getElem? (i := 0) rfl) rfl
theorem xw_1_114 : (Jvm.Cond.lays "PushTray$Spread" "PushTray$Spread" "kinds" "I") ∈ XW := xm_1_7 (List.mem_of_getElem? (i := 2) rfl) rfl
theorem xw_1_117 : (Jvm.Cond.classLink "PushTray" (28 : Nat) "PushTray$Chances") ∈ XW := xm_1_7 (List.mem_of_getElem? (i := 5) rfl) rfl
theorem xw_1_118 : (Jvm.Cond.instantiable "PushTray$Chances" (6 : Nat)) ∈ XW := xm_1_7 (List.mem_of_getElem? (i := 6) rfl) rfl
theorem xw_1_119 : (Jvm.Cond.methodLink "PushTray" (30 : Nat) ({ cls := "PushTray$Chances", name := "<init>", desc := "(LPushTray$Lays;)V" } : Jvm.MethodName)) ∈ XW := xm_1_7 (List.mem_of_getElem? (i := 7) rfl) rfl
theorem xw_1_120 : (Jvm.Cond.instanceMethod ({ cls := "PushTray$Chances", name := "<init>", desc := "(LPushTray$Lays;)V" } : Jvm.MethodName)) ∈ XW := xm_1_7 (List.mem_of_getElem? (i := 8) rfl) rfl
theorem xw_1_121 : (Jvm.Cond.code ({ cls := "PushTray$Chances", name := "<init>", desc := "(LPushTray$Lays;)V" } : Jvm.MethodName) prog_2_method_1_code (2 : Nat) (Option.none : Option Jvm.ClassFile.FieldType)) ∈ XW := xm_1_7 (List.mem_of_getElem? (i := 9) rfl) rfl
theorem xw_1_122 : (Jvm.Cond.methodLink "PushTray$Chances" (3 : Nat) ({ cls := "java/lang/Object", name := "<init>", desc := "()V" } : Jvm.MethodName)) ∈ XW := xm_1_7 (List.mem_of_getElem? (i := 10) rfl) rfl
theorem xw_1_123 : (Jvm.Cond.fieldLink "PushTray$Chances" (25 : Nat) "PushTray$Chances" "lays" "LPushTray$Lays;") ∈ XW := xm_1_7 (List.mem_of_getElem? (i := 11) rfl) rfl
theorem xw_1_124 : (Jvm.Cond.fieldLink "PushTray$Chances" (9 : Nat) "PushTray$Chances" "parts" "[I") ∈ XW := xm_1_7 (List.mem_of_getElem? (i := 12) rfl) rfl
theorem xw_1_125 : (Jvm.Cond.fieldLink "PushTray$Chances" (15 : Nat) "PushTray$Chances" "nextParts" "[I") ∈ XW := xm_1_7 (List.mem_of_getElem? (i := 13) rfl) rfl
theorem xw_1_126 : (Jvm.Cond.fieldLink "PushTray$Chances" (18 : Nat) "PushTray$Chances" "start" "I") ∈ XW := xm_1_7 (List.mem_of_getElem? (i := 14) rfl) rfl
theorem xw_1_127 : (Jvm.Cond.fieldLink "PushTray$Chances" (22 : Nat) "PushTray$Chances" "kinds" "I") ∈ XW := xm_1_7 (List.mem_of_getElem? (i := 15) rfl) rfl
theorem xw_1_128 : (Jvm.Cond.fieldLink "PushTray$Chances" (29 : Nat) "PushTray$Chances" "pushes" "I") ∈ XW := xm_1_8 (List.mem_of_getElem? (i := 0) rfl) rfl
theorem xw_1_129 : (Jvm.Cond.laysFinal "PushTray$Chances" "PushTray$Chances" "lays" "LPushTray$Lays;") ∈ XW := xm_1_8 (List.mem_of_getElem? (i := 1) rfl) rfl
theorem xw_1_131 : (Jvm.Cond.lays "PushTray$Chances" "PushTray$Chances" "parts" "[I") ∈ XW := xm_1_8 (List.mem_of_getElem? (i := 3) rfl) rfl
theorem xw_1_133 : (Jvm.Cond.lays "PushTray$Chances" "PushTray$Chances" "nextParts" "[I") ∈ XW := xm_1_8 (List.mem_of_getElem? (i := 5) rfl) rfl
theorem xw_1_135 : (Jvm.Cond.lays "PushTray$Chances" "PushTray$Chances" "start" "I") ∈ XW := xm_1_8 (List.mem_of_getElem? (i := 7) rfl) rfl
theorem xw_1_137 : (Jvm.Cond.lays "PushTray$Chances" "PushTray$Chances" "kinds" "I") ∈ XW := xm_1_8 (List.mem_of_getElem? (i := 9) rfl) rfl
theorem xw_1_139 : (Jvm.Cond.lays "PushTray$Chances" "PushTray$Chances" "pushes" "I") ∈ XW := xm_1_8 (List.mem_of_getElem? (i := 11) rfl) rfl
theorem xw_1_142 : (Jvm.Cond.classLink "PushTray" (35 : Nat) "PushTray$Standing") ∈ XW := xm_1_8 (List.mem_of_getElem? (i := 14) rfl) rfl
theorem xw_1_143 : (Jvm.Cond.instantiable "PushTray$Standing" (7 : Nat)) ∈ XW := xm_1_8 (List.mem_of_getElem? (i := 15) rfl) rfl
theorem xw_1_145 : (Jvm.Cond.instanceMethod ({ cls := "PushTray$Standing", name := "<init>", desc := "()V" } : Jvm.MethodName)) ∈ XW := xm_1_9 (List.mem_of_getElem? (i := 1) rfl) rfl
theorem xw_1_146 : (Jvm.Cond.code ({ cls := "PushTray$Standing", name := "<init>", desc := "()V" } : Jvm.MethodName) prog_6_method_1_code (1 : Nat) (Option.none : Option Jvm.ClassFile.FieldType)) ∈ XW := xm_1_9 (List.mem_of_getElem? (i := 2) rfl) rfl
theorem xw_1_147 : (Jvm.Cond.methodLink "PushTray$Standing" (3 : Nat) ({ cls := "java/lang/Object", name := "<init>", desc := "()V" } : Jvm.MethodName)) ∈ XW := xm_1_9 (List.mem_of_getElem? (i := 3) rfl) rfl
theorem xw_1_148 : (Jvm.Cond.fieldLink "PushTray$Standing" (9 : Nat) "PushTray$Standing" "lay" "I") ∈ XW := xm_1_9 (List.mem_of_getElem? (i := 4) rfl) rfl
theorem xw_1_150 : (Jvm.Cond.fieldLink "PushTray$Standing" (15 : Nat) "PushTray$Standing" "goal" "I") ∈ XW := xm_1_9 (List.mem_of_getElem? (i := 6) rfl) rfl
theorem xw_1_152 : (Jvm.Cond.fieldLink "PushTray$Standing" (22 : Nat) "PushTray$Standing" "kinds" "I") ∈ XW := xm_1_9 (List.mem_of_getElem? (i := 8) rfl) rfl
theorem xw_1_154 : (Jvm.Cond.fieldLink "PushTray$Standing" (25 : Nat) "PushTray$Standing" "pushes" "I") ∈ XW := xm_1_9 (List.mem_of_getElem? (i := 10) rfl) rfl
theorem xw_1_156 : (Jvm.Cond.fieldLink "PushTray$Standing" (28 : Nat) "PushTray$Standing" "costs" "I") ∈ XW := xm_1_9 (List.mem_of_getElem? (i := 12) rfl) rfl
theorem xw_1_158 : (Jvm.Cond.fieldLink "PushTray$Standing" (34 : Nat) "PushTray$Standing" "seen" "I") ∈ XW := xm_1_9 (List.mem_of_getElem? (i := 14) rfl) rfl
theorem xw_1_160 : (Jvm.Cond.fieldLink "PushTray$Standing" (18 : Nat) "PushTray$Standing" "sorts" "[I") ∈ XW := xm_1_10 (List.mem_of_getElem? (i := 0) rfl) rfl
theorem xw_1_161 : (Jvm.Cond.lays "PushTray$Standing" "PushTray$Standing" "lay" "I") ∈ XW := xm_1_10 (List.mem_of_getElem? (i := 1) rfl) rfl
theorem xw_1_163 : (Jvm.Cond.lays "PushTray$Standing" "PushTray$Standing" "goal" "I") ∈ XW := xm_1_10 (List.mem_of_getElem? (i := 3) rfl) rfl
theorem xw_1_165 : (Jvm.Cond.lays "PushTray$Standing" "PushTray$Standing" "kinds" "I") ∈ XW := xm_1_10 (List.mem_of_getElem? (i := 5) rfl) rfl
theorem xw_1_167 : (Jvm.Cond.lays "PushTray$Standing" "PushTray$Standing" "pushes" "I") ∈ XW := xm_1_10 (List.mem_of_getElem? (i := 7) rfl) rfl
theorem xw_1_169 : (Jvm.Cond.lays "PushTray$Standing" "PushTray$Standing" "costs" "I") ∈ XW := xm_1_10 (List.mem_of_getElem? (i := 9) rfl) rfl
theorem xw_1_171 : (Jvm.Cond.lays "PushTray$Standing" "PushTray$Standing" "seen" "I") ∈ XW := xm_1_10 (List.mem_of_getElem? (i := 11) rfl) rfl
theorem xw_1_173 : (Jvm.Cond.laysFinal "PushTray$Standing" "PushTray$Standing" "sorts" "[I") ∈ XW := xm_1_10 (List.mem_of_getElem? (i := 13) rfl) rfl
theorem xw_1_176 : (Jvm.Cond.fieldLink "PushTray" (10 : Nat) "PushTray" "lays" "LPushTray$Lays;") ∈ XW := xm_1_11 (List.mem_of_getElem? (i := 0) rfl) rfl
theorem xw_1_177 : (Jvm.Cond.fieldLink "PushTray" (21 : Nat) "PushTray" "fromHere" "LPushTray$Spread;") ∈ XW := xm_1_11 (List.mem_of_getElem? (i := 1) rfl) rfl
theorem xw_1_178 : (Jvm.Cond.fieldLink "PushTray" (25 : Nat) "PushTray" "fromGoal" "LPushTray$Spread;") ∈ XW := xm_1_11 (List.mem_of_getElem? (i := 2) rfl) rfl
theorem xw_1_179 : (Jvm.Cond.fieldLink "PushTray" (31 : Nat) "PushTray" "chances" "LPushTray$Chances;") ∈ XW := xm_1_11 (List.mem_of_getElem? (i := 3) rfl) rfl
theorem xw_1_180 : (Jvm.Cond.fieldLink "PushTray" (38 : Nat) "PushTray" "now" "LPushTray$Standing;") ∈ XW := xm_1_11 (List.mem_of_getElem? (i := 4) rfl) rfl
theorem xw_1_181 : (Jvm.Cond.fieldLink "PushTray" (42 : Nat) "PushTray" "kept" "LPushTray$Standing;") ∈ XW := xm_1_11 (List.mem_of_getElem? (i := 5) rfl) rfl
theorem xw_1_182 : (Jvm.Cond.fieldLink "PushTray" (45 : Nat) "PushTray" "page" "[I") ∈ XW := xm_1_11 (List.mem_of_getElem? (i := 6) rfl) rfl
theorem xw_1_183 : (Jvm.Cond.fieldLink "PushTray" (49 : Nat) "PushTray" "row" "[I") ∈ XW := xm_1_11 (List.mem_of_getElem? (i := 7) rfl) rfl
theorem xw_1_184 : (Jvm.Cond.fieldLink "PushTray" (56 : Nat) "PushTray" "letters" "I") ∈ XW := xm_1_11 (List.mem_of_getElem? (i := 8) rfl) rfl
theorem xw_1_185 : (Jvm.Cond.fieldLink "PushTray" (79 : Nat) "PushTray" "traysRead" "I") ∈ XW := xm_1_11 (List.mem_of_getElem? (i := 9) rfl) rfl
theorem xw_1_186 : (Jvm.Cond.fieldLink "PushTray" (181 : Nat) "PushTray" "cheapsDone" "I") ∈ XW := xm_1_11 (List.mem_of_getElem? (i := 10) rfl) rfl
theorem xw_1_187 : (Jvm.Cond.fieldLink "PushTray" (75 : Nat) "PushTray" "imageIsKept" "Z") ∈ XW := xm_1_11 (List.mem_of_getElem? (i := 11) rfl) rfl
theorem xw_1_188 : (Jvm.Cond.laysFinal "PushTray" "PushTray" "lays" "LPushTray$Lays;") ∈ XW := xm_1_11 (List.mem_of_getElem? (i := 12) rfl) rfl
theorem xw_1_190 : (Jvm.Cond.laysFinal "PushTray" "PushTray" "fromHere" "LPushTray$Spread;") ∈ XW := xm_1_11 (List.mem_of_getElem? (i := 14) rfl) rfl
theorem xw_1_192 : (Jvm.Cond.laysFinal "PushTray" "PushTray" "fromGoal" "LPushTray$Spread;") ∈ XW := xm_1_12 (List.mem_of_getElem? (i := 0) rfl) rfl
theorem xw_1_194 : (Jvm.Cond.laysFinal "PushTray" "PushTray" "chances" "LPushTray$Chances;") ∈ XW := xm_1_12 (List.mem_of_getElem? (i := 2) rfl) rfl
theorem xw_1_196 : (Jvm.Cond.laysFinal "PushTray" "PushTray" "now" "LPushTray$Standing;") ∈ XW := xm_1_12 (List.mem_of_getElem? (i := 4) rfl) rfl
theorem xw_1_198 : (Jvm.Cond.laysFinal "PushTray" "PushTray" "kept" "LPushTray$Standing;") ∈ XW := xm_1_12 (List.mem_of_getElem? (i := 6) rfl) rfl
theorem xw_1_200 : (Jvm.Cond.laysFinal "PushTray" "PushTray" "page" "[I") ∈ XW := xm_1_12 (List.mem_of_getElem? (i := 8) rfl) rfl
theorem xw_1_202 : (Jvm.Cond.laysFinal "PushTray" "PushTray" "row" "[I") ∈ XW := xm_1_12 (List.mem_of_getElem? (i := 10) rfl) rfl
theorem xw_1_204 : (Jvm.Cond.lays "PushTray" "PushTray" "letters" "I") ∈ XW := xm_1_12 (List.mem_of_getElem? (i := 12) rfl) rfl
theorem xw_1_206 : (Jvm.Cond.lays "PushTray" "PushTray" "traysRead" "I") ∈ XW := xm_1_12 (List.mem_of_getElem? (i := 14) rfl) rfl
theorem xw_1_208 : (Jvm.Cond.lays "PushTray" "PushTray" "cheapsDone" "I") ∈ XW := xm_1_13 (List.mem_of_getElem? (i := 0) rfl) rfl
theorem xw_1_210 : (Jvm.Cond.lays "PushTray" "PushTray" "imageIsKept" "Z") ∈ XW := xm_1_13 (List.mem_of_getElem? (i := 2) rfl) rfl
theorem xw_1_213 : (Jvm.Cond.methodLink "PushTrayLaw" (13 : Nat) ({ cls := "PushTray", name := "letter", desc := "(I)I" } : Jvm.MethodName)) ∈ XW := xm_1_13 (List.mem_of_getElem? (i := 5) rfl) rfl
theorem xw_1_214 : (Jvm.Cond.instanceMethod ({ cls := "PushTray", name := "letter", desc := "(I)I" } : Jvm.MethodName)) ∈ XW := xm_1_13 (List.mem_of_getElem? (i := 6) rfl) rfl
theorem xw_1_215 : (Jvm.Cond.selects "PushTray" ({ cls := "PushTray", name := "letter", desc := "(I)I" } : Jvm.MethodName) ({ cls := "PushTray", name := "letter", desc := "(I)I" } : Jvm.MethodName)) ∈ XW := xm_1_13 (List.mem_of_getElem? (i := 7) rfl) rfl
theorem xw_1_216 : (Jvm.Cond.code ({ cls := "PushTray", name := "letter", desc := "(I)I" } : Jvm.MethodName) prog_1_method_2_code (2 : Nat) (Option.some Jvm.ClassFile.FieldType.int)) ∈ XW := xm_1_13 (List.mem_of_getElem? (i := 8) rfl) rfl
theorem xw_1_217 : (Jvm.Cond.methodLink "PushTray" (52 : Nat) ({ cls := "PushTray", name := "isWithin", desc := "(III)Z" } : Jvm.MethodName)) ∈ XW := xm_1_13 (List.mem_of_getElem? (i := 9) rfl) rfl
theorem xw_1_218 : (Jvm.Cond.static ({ cls := "PushTray", name := "isWithin", desc := "(III)Z" } : Jvm.MethodName)) ∈ XW := xm_1_13 (List.mem_of_getElem? (i := 10) rfl) rfl
theorem xw_1_219 : (Jvm.Cond.code ({ cls := "PushTray", name := "isWithin", desc := "(III)Z" } : Jvm.MethodName) prog_1_method_30_code (3 : Nat) (Option.some Jvm.ClassFile.FieldType.boolean)) ∈ XW := xm_1_13 (List.mem_of_getElem? (i := 11) rfl) rfl
theorem xw_1_220 : (Jvm.Cond.methodLink "PushTrayLaw" (18 : Nat) ({ cls := "PushTray", name := "blank", desc := "()I" } : Jvm.MethodName)) ∈ XW := xm_1_13 (List.mem_of_getElem? (i := 12) rfl) rfl
theorem xw_1_221 : (Jvm.Cond.instanceMethod ({ cls := "PushTray", name := "blank", desc := "()I" } : Jvm.MethodName)) ∈ XW := xm_1_13 (List.mem_of_getElem? (i := 13) rfl) rfl
theorem xw_1_222 : (Jvm.Cond.selects "PushTray" ({ cls := "PushTray", name := "blank", desc := "()I" } : Jvm.MethodName) ({ cls := "PushTray", name := "blank", desc := "()I" } : Jvm.MethodName)) ∈ XW := xm_1_13 (List.mem_of_getElem? (i := 14) rfl) rfl
theorem xw_1_223 : (Jvm.Cond.code ({ cls := "PushTray", name := "blank", desc := "()I" } : Jvm.MethodName) prog_1_method_3_code (2 : Nat) (Option.some Jvm.ClassFile.FieldType.int)) ∈ XW := xm_1_13 (List.mem_of_getElem? (i := 15) rfl) rfl
theorem xw_1_224 : (Jvm.Cond.methodLink "PushTrayLaw" (23 : Nat) ({ cls := "PushTray", name := "fault", desc := "()I" } : Jvm.MethodName)) ∈ XW := xm_1_14 (List.mem_of_getElem? (i := 0) rfl) rfl
theorem xw_1_225 : (Jvm.Cond.instanceMethod ({ cls := "PushTray", name := "fault", desc := "()I" } : Jvm.MethodName)) ∈ XW := xm_1_14 (List.mem_of_getElem? (i := 1) rfl) rfl
theorem xw_1_226 : (Jvm.Cond.selects "PushTray" ({ cls := "PushTray", name := "fault", desc := "()I" } : Jvm.MethodName) ({ cls := "PushTray", name := "fault", desc := "()I" } : Jvm.MethodName)) ∈ XW := xm_1_14 (List.mem_of_getElem? (i := 2) rfl) rfl
theorem xw_1_227 : (Jvm.Cond.code ({ cls := "PushTray", name := "fault", desc := "()I" } : Jvm.MethodName) prog_1_method_4_code (1 : Nat) (Option.some Jvm.ClassFile.FieldType.int)) ∈ XW := xm_1_14 (List.mem_of_getElem? (i := 3) rfl) rfl
theorem xw_1_228 : (Jvm.Cond.methodLink "PushTray" (60 : Nat) ({ cls := "PushTray", name := "firstWrongPlace", desc := "()I" } : Jvm.MethodName)) ∈ XW := xm_1_14 (List.mem_of_getElem? (i := 4) rfl) rfl
theorem xw_1_230 : (Jvm.Cond.instanceMethod ({ cls := "PushTray", name := "firstWrongPlace", desc := "()I" } : Jvm.MethodName)) ∈ XW := xm_1_14 (List.mem_of_getElem? (i := 6) rfl) rfl
theorem xw_1_231 : (Jvm.Cond.code ({ cls := "PushTray", name := "firstWrongPlace", desc := "()I" } : Jvm.MethodName) prog_1_method_41_code (2 : Nat) (Option.some Jvm.ClassFile.FieldType.int)) ∈ XW := xm_1_14 (List.mem_of_getElem? (i := 7) rfl) rfl
theorem xw_1_232 : (Jvm.Cond.methodLink "PushTray" (280 : Nat) ({ cls := "PushTray", name := "fits", desc := "(I)Z" } : Jvm.MethodName)) ∈ XW := xm_1_14 (List.mem_of_getElem? (i := 8) rfl) rfl
theorem xw_1_234 : (Jvm.Cond.instanceMethod ({ cls := "PushTray", name := "fits", desc := "(I)Z" } : Jvm.MethodName)) ∈ XW := xm_1_14 (List.mem_of_getElem? (i := 10) rfl) rfl
theorem xw_1_235 : (Jvm.Cond.code ({ cls := "PushTray", name := "fits", desc := "(I)Z" } : Jvm.MethodName) prog_1_method_42_code (3 : Nat) (Option.some Jvm.ClassFile.FieldType.boolean)) ∈ XW := xm_1_14 (List.mem_of_getElem? (i := 11) rfl) rfl
theorem xw_1_236 : (Jvm.Cond.methodLink "PushTray" (283 : Nat) ({ cls := "PushTray", name := "isNewSign", desc := "(II)Z" } : Jvm.MethodName)) ∈ XW := xm_1_14 (List.mem_of_getElem? (i := 12) rfl) rfl
theorem xw_1_238 : (Jvm.Cond.instanceMethod ({ cls := "PushTray", name := "isNewSign", desc := "(II)Z" } : Jvm.MethodName)) ∈ XW := xm_1_14 (List.mem_of_getElem? (i := 14) rfl) rfl
theorem xw_1_239 : (Jvm.Cond.code ({ cls := "PushTray", name := "isNewSign", desc := "(II)Z" } : Jvm.MethodName) prog_1_method_43_code (5 : Nat) (Option.some Jvm.ClassFile.FieldType.boolean)) ∈ XW := xm_1_14 (List.mem_of_getElem? (i := 15) rfl) rfl
theorem xw_2_0 : (Jvm.Cond.methodLink "PushTray" (286 : Nat) ({ cls := "PushTray", name := "codeAt", desc := "(I)I" } : Jvm.MethodName)) ∈ XW := xm_2_0 (List.mem_of_getElem? (i := 0) rfl) rfl
theorem xw_2_2 : (Jvm.Cond.instanceMethod ({ cls := "PushTray", name := "codeAt", desc := "(I)I" } : Jvm.MethodName)) ∈ XW := xm_2_0 (List.mem_of_getElem? (i := 2) rfl) rfl
theorem xw_2_3 : (Jvm.Cond.code ({ cls := "PushTray", name := "codeAt", desc := "(I)I" } : Jvm.MethodName) prog_1_method_44_code (2 : Nat) (Option.some Jvm.ClassFile.FieldType.int)) ∈ XW := xm_2_0 (List.mem_of_getElem? (i := 3) rfl) rfl
theorem xw_2_4 : (Jvm.Cond.methodLink "PushTray" (292 : Nat) ({ cls := "PushTray", name := "signByLetter", desc := "(I)I" } : Jvm.MethodName)) ∈ XW := xm_2_0 (List.mem_of_getElem? (i := 4) rfl) rfl
theorem xw_2_5 : (Jvm.Cond.static ({ cls := "PushTray", name := "signByLetter", desc := "(I)I" } : Jvm.MethodName)) ∈ XW := xm_2_0 (List.mem_of_getElem? (i := 5) rfl) rfl
theorem xw_2_6 : (Jvm.Cond.code ({ cls := "PushTray", name := "signByLetter", desc := "(I)I" } : Jvm.MethodName) prog_1_method_45_code (1 : Nat) (Option.some Jvm.ClassFile.FieldType.int)) ∈ XW := xm_2_0 (List.mem_of_getElem? (i := 6) rfl) rfl
theorem xw_2_7 : (Jvm.Cond.methodLink "PushTray" (289 : Nat) ({ cls := "PushTray", name := "kindByLetter", desc := "(I)I" } : Jvm.MethodName)) ∈ XW := xm_2_0 (List.mem_of_getElem? (i := 7) rfl) rfl
theorem xw_2_8 : (Jvm.Cond.static ({ cls := "PushTray", name := "kindByLetter", desc := "(I)I" } : Jvm.MethodName)) ∈ XW := xm_2_0 (List.mem_of_getElem? (i := 8) rfl) rfl
theorem xw_2_9 : (Jvm.Cond.code ({ cls := "PushTray", name := "kindByLetter", desc := "(I)I" } : Jvm.MethodName) prog_1_method_40_code (2 : Nat) (Option.some Jvm.ClassFile.FieldType.int)) ∈ XW := xm_2_0 (List.mem_of_getElem? (i := 9) rfl) rfl
theorem xw_2_10 : (Jvm.Cond.fieldLink "PushTray" (122 : Nat) "PushTray" "KINDS" "[LPushTray$Kind;") ∈ XW := xm_2_0 (List.mem_of_getElem? (i := 10) rfl) rfl
theorem xw_2_12 : (Jvm.Cond.methodLink "PushTrayLaw" (27 : Nat) ({ cls := "PushTray", name := "tray", desc := "()I" } : Jvm.MethodName)) ∈ XW := xm_2_0 (List.mem_of_getElem? (i := 12) rfl) rfl
theorem xw_2_13 : (Jvm.Cond.instanceMethod ({ cls := "PushTray", name := "tray", desc := "()I" } : Jvm.MethodName)) ∈ XW := xm_2_0 (List.mem_of_getElem? (i := 13) rfl) rfl
theorem xw_2_14 : (Jvm.Cond.selects "PushTray" ({ cls := "PushTray", name := "tray", desc := "()I" } : Jvm.MethodName) ({ cls := "PushTray", name := "tray", desc := "()I" } : Jvm.MethodName)) ∈ XW := xm_2_0 (List.mem_of_getElem? (i := 14) rfl) rfl
theorem xw_2_15 : (Jvm.Cond.code ({ cls := "PushTray", name := "tray", desc := "()I" } : Jvm.MethodName) prog_1_method_5_code (1 : Nat) (Option.some Jvm.ClassFile.FieldType.int)) ∈ XW := xm_2_0 (List.mem_of_getElem? (i := 15) rfl) rfl
theorem xw_2_16 : (Jvm.Cond.methodLink "PushTray" (64 : Nat) ({ cls := "PushTray", name := "readLay", desc := "(I)I" } : Jvm.MethodName)) ∈ XW := xm_2_1 (List.mem_of_getElem? (i := 0) rfl) rfl
theorem xw_2_18 : (Jvm.Cond.instanceMethod ({ cls := "PushTray", name := "readLay", desc := "(I)I" } : Jvm.MethodName)) ∈ XW := xm_2_1 (List.mem_of_getElem? (i := 2) rfl) rfl
theorem xw_2_19 : (Jvm.Cond.code ({ cls := "PushTray", name := "readLay", desc := "(I)I" } : Jvm.MethodName) prog_1_method_46_code (3 : Nat) (Option.some Jvm.ClassFile.FieldType.int)) ∈ XW := xm_2_1 (List.mem_of_getElem? (i := 3) rfl) rfl
theorem xw_2_20 : (Jvm.Cond.methodLink "PushTray" (295 : Nat) ({ cls := "PushTray$Lays", name := "numberOf", desc := "([I)I" } : Jvm.MethodName)) ∈ XW := xm_2_1 (List.mem_of_getElem? (i := 4) rfl) rfl
theorem xw_2_21 : (Jvm.Cond.methodLink "PushTray" (68 : Nat) ({ cls := "PushTray", name := "readKinds", desc := "()I" } : Jvm.MethodName)) ∈ XW := xm_2_1 (List.mem_of_getElem? (i := 5) rfl) rfl
theorem xw_2_23 : (Jvm.Cond.instanceMethod ({ cls := "PushTray", name := "readKinds", desc := "()I" } : Jvm.MethodName)) ∈ XW := xm_2_1 (List.mem_of_getElem? (i := 7) rfl) rfl
theorem xw_2_24 : (Jvm.Cond.code ({ cls := "PushTray", name := "readKinds", desc := "()I" } : Jvm.MethodName) prog_1_method_47_code (3 : Nat) (Option.some Jvm.ClassFile.FieldType.int)) ∈ XW := xm_2_1 (List.mem_of_getElem? (i := 8) rfl) rfl
theorem xw_2_25 : (Jvm.Cond.methodLink "PushTray" (156 : Nat) ({ cls := "PushTray", name := "withKind", desc := "(III)I" } : Jvm.MethodName)) ∈ XW := xm_2_1 (List.mem_of_getElem? (i := 9) rfl) rfl
theorem xw_2_26 : (Jvm.Cond.static ({ cls := "PushTray", name := "withKind", desc := "(III)I" } : Jvm.MethodName)) ∈ XW := xm_2_1 (List.mem_of_getElem? (i := 10) rfl) rfl
theorem xw_2_27 : (Jvm.Cond.code ({ cls := "PushTray", name := "withKind", desc := "(III)I" } : Jvm.MethodName) prog_1_method_39_code (3 : Nat) (Option.some Jvm.ClassFile.FieldType.int)) ∈ XW := xm_2_1 (List.mem_of_getElem? (i := 11) rfl) rfl
theorem xw_2_28 : (Jvm.Cond.methodLink "PushTray" (71 : Nat) ({ cls := "PushTray$Standing", name := "start", desc := "(III)V" } : Jvm.MethodName)) ∈ XW := xm_2_1 (List.mem_of_getElem? (i := 12) rfl) rfl
theorem xw_2_29 : (Jvm.Cond.instanceMethod ({ cls := "PushTray$Standing", name := "start", desc := "(III)V" } : Jvm.MethodName)) ∈ XW := xm_2_1 (List.mem_of_getElem? (i := 13) rfl) rfl
theorem xw_2_30 : (Jvm.Cond.selects "PushTray$Standing" ({ cls := "PushTray$Standing", name := "start", desc := "(III)V" } : Jvm.MethodName) ({ cls := "PushTray$Standing", name := "start", desc := "(III)V" } : Jvm.MethodName)) ∈ XW := xm_2_1 (List.mem_of_getElem? (i := 14) rfl) rfl
theorem xw_2_31 : (Jvm.Cond.code ({ cls := "PushTray$Standing", name := "start", desc := "(III)V" } : Jvm.MethodName) prog_6_method_2_code (4 : Nat) (Option.none : Option Jvm.ClassFile.FieldType)) ∈ XW := xm_2_1 (List.mem_of_getElem? (i := 15) rfl) rfl
theorem xw_2_32 : (Jvm.Cond.methodLink "PushTray$Standing" (31 : Nat) ({ cls := "PushTray$Standing", name := "forgetSeen", desc := "()V" } : Jvm.MethodName)) ∈ XW := xm_2_2 (List.mem_of_getElem? (i := 0) rfl) rfl
theorem xw_2_33 : (Jvm.Cond.instanceMethod ({ cls := "PushTray$Standing", name := "forgetSeen", desc := "()V" } : Jvm.MethodName)) ∈ XW := xm_2_2 (List.mem_of_getElem? (i := 1) rfl) rfl
theorem xw_2_34 : (Jvm.Cond.selects "PushTray$Standing" ({ cls := "PushTray$Standing", name := "forgetSeen", desc := "()V" } : Jvm.MethodName) ({ cls := "PushTray$Standing", name := "forgetSeen", desc := "()V" } : Jvm.MethodName)) ∈ XW := xm_2_2 (List.mem_of_getElem? (i := 2) rfl) rfl
theorem xw_2_35 : (Jvm.Cond.code ({ cls := "PushTray$Standing", name := "forgetSeen", desc := "()V" } : Jvm.MethodName) prog_6_method_3_code (1 : Nat) (Option.none : Option Jvm.ClassFile.FieldType)) ∈ XW := xm_2_2 (List.mem_of_getElem? (i := 3) rfl) rfl
theorem xw_2_36 : (Jvm.Cond.methodLink "PushTray$Standing" (37 : Nat) ({ cls := "java/util/Arrays", name := "fill", desc := "([II)V" } : Jvm.MethodName)) ∈ XW := xm_2_2 (List.mem_of_getElem? (i := 4) rfl) rfl
theorem xw_2_37 : (Jvm.Cond.static ({ cls := "java/util/Arrays", name := "fill", desc := "([II)V" } : Jvm.MethodName)) ∈ XW := xm_2_2 (List.mem_of_getElem? (i := 5) rfl) rfl
theorem xw_2_38 : (Jvm.Cond.code ({ cls := "java/util/Arrays", name := "fill", desc := "([II)V" } : Jvm.MethodName) prog_13_method_103_code (4 : Nat) (Option.none : Option Jvm.ClassFile.FieldType)) ∈ XW := xm_2_2 (List.mem_of_getElem? (i := 6) rfl) rfl
theorem xw_2_39 : (Jvm.Cond.methodLink "PushTray" (85 : Nat) ({ cls := "PushTray$Lays", name := "place", desc := "(II)I" } : Jvm.MethodName)) ∈ XW := xm_2_2 (List.mem_of_getElem? (i := 7) rfl) rfl
theorem xw_2_40 : (Jvm.Cond.methodLink "PushTrayLaw" (31 : Nat) ({ cls := "PushTray", name := "tile", desc := "(II)I" } : Jvm.MethodName)) ∈ XW := xm_2_2 (List.mem_of_getElem? (i := 8) rfl) rfl
theorem xw_2_41 : (Jvm.Cond.instanceMethod ({ cls := "PushTray", name := "tile", desc := "(II)I" } : Jvm.MethodName)) ∈ XW := xm_2_2 (List.mem_of_getElem? (i := 9) rfl) rfl
theorem xw_2_42 : (Jvm.Cond.selects "PushTray" ({ cls := "PushTray", name := "tile", desc := "(II)I" } : Jvm.MethodName) ({ cls := "PushTray", name := "tile", desc := "(II)I" } : Jvm.MethodName)) ∈ XW := xm_2_2 (List.mem_of_getElem? (i := 10) rfl) rfl
theorem xw_2_43 : (Jvm.Cond.code ({ cls := "PushTray", name := "tile", desc := "(II)I" } : Jvm.MethodName) prog_1_method_6_code (3 : Nat) (Option.some Jvm.ClassFile.FieldType.int)) ∈ XW := xm_2_2 (List.mem_of_getElem? (i := 11) rfl) rfl
theorem xw_2_44 : (Jvm.Cond.methodLink "PushTray" (89 : Nat) ({ cls := "PushTray", name := "isTile", desc := "(I)Z" } : Jvm.MethodName)) ∈ XW := xm_2_2 (List.mem_of_getElem? (i := 12) rfl) rfl
theorem xw_2_46 : (Jvm.Cond.instanceMethod ({ cls := "PushTray", name := "isTile", desc := "(I)Z" } : Jvm.MethodName)) ∈ XW := xm_2_2 (List.mem_of_getElem? (i := 14) rfl) rfl
theorem xw_2_47 : (Jvm.Cond.code ({ cls := "PushTray", name := "isTile", desc := "(I)Z" } : Jvm.MethodName) prog_1_method_33_code (2 : Nat) (Option.some Jvm.ClassFile.FieldType.boolean)) ∈ XW := xm_2_2 (List.mem_of_getElem? (i := 15) rfl) rfl
theorem xw_2_48 : (Jvm.Cond.methodLink "PushTray" (159 : Nat) ({ cls := "PushTray", name := "hasTray", desc := "()Z" } : Jvm.MethodName)) ∈ XW := xm_2_3 (List.mem_of_getElem? (i := 0) rfl) rfl
theorem xw_2_50 : (Jvm.Cond.instanceMethod ({ cls := "PushTray", name := "hasTray", desc := "()Z" } : Jvm.MethodName)) ∈ XW := xm_2_3 (List.mem_of_getElem? (i := 2) rfl) rfl
theorem xw_2_51 : (Jvm.Cond.code ({ cls := "PushTray", name := "hasTray", desc := "()Z" } : Jvm.MethodName) prog_1_method_32_code (1 : Nat) (Option.some Jvm.ClassFile.FieldType.boolean)) ∈ XW := xm_2_3 (List.mem_of_getElem? (i := 3) rfl) rfl
theorem xw_2_52 : (Jvm.Cond.methodLink "PushTray" (96 : Nat) ({ cls := "PushTray", name := "kindOf", desc := "(II)I" } : Jvm.MethodName)) ∈ XW := xm_2_3 (List.mem_of_getElem? (i := 4) rfl) rfl
theorem xw_2_53 : (Jvm.Cond.static ({ cls := "PushTray", name := "kindOf", desc := "(II)I" } : Jvm.MethodName)) ∈ XW := xm_2_3 (List.mem_of_getElem? (i := 5) rfl) rfl
theorem xw_2_54 : (Jvm.Cond.code ({ cls := "PushTray", name := "kindOf", desc := "(II)I" } : Jvm.MethodName) prog_1_method_38_code (3 : Nat) (Option.some Jvm.ClassFile.FieldType.int)) ∈ XW := xm_2_3 (List.mem_of_getElem? (i := 6) rfl) rfl
theorem xw_2_55 : (Jvm.Cond.methodLink "PushTray" (102 : Nat) ({ cls := "PushTray$Lays", name := "price", desc := "(III)I" } : Jvm.MethodName)) ∈ XW := xm_2_3 (List.mem_of_getElem? (i := 7) rfl) rfl
theorem xw_2_56 : (Jvm.Cond.instanceMethod ({ cls := "PushTray$Lays", name := "price", desc := "(III)I" } : Jvm.MethodName)) ∈ XW := xm_2_3 (List.mem_of_getElem? (i := 8) rfl) rfl
theorem xw_2_57 : (Jvm.Cond.selects "PushTray$Lays" ({ cls := "PushTray$Lays", name := "price", desc := "(III)I" } : Jvm.MethodName) ({ cls := "PushTray$Lays", name := "price", desc := "(III)I" } : Jvm.MethodName)) ∈ XW := xm_2_3 (List.mem_of_getElem? (i := 9) rfl) rfl
theorem xw_2_58 : (Jvm.Cond.code ({ cls := "PushTray$Lays", name := "price", desc := "(III)I" } : Jvm.MethodName) prog_4_method_11_code (6 : Nat) (Option.some Jvm.ClassFile.FieldType.int)) ∈ XW := xm_2_3 (List.mem_of_getElem? (i := 10) rfl) rfl
theorem xw_2_61 : (Jvm.Cond.methodLink "PushTray$Lays" (79 : Nat) ({ cls := "PushTray$Kind", name := "price", desc := "(I)I" } : Jvm.MethodName)) ∈ XW := xm_2_3 (List.mem_of_getElem? (i := 13) rfl) rfl
theorem xw_2_62 : (Jvm.Cond.instanceMethod ({ cls := "PushTray$Kind", name := "price", desc := "(I)I" } : Jvm.MethodName)) ∈ XW := xm_2_3 (List.mem_of_getElem? (i := 14) rfl) rfl
theorem xw_2_63 : (Jvm.Cond.selects "PushTray$Kind" ({ cls := "PushTray$Kind", name := "price", desc := "(I)I" } : Jvm.MethodName) ({ cls := "PushTray$Kind", name := "price", desc := "(I)I" } : Jvm.MethodName)) ∈ XW := xm_2_3 (List.mem_of_getElem? (i := 15) rfl) rfl
theorem xw_2_64 : (Jvm.Cond.code ({ cls := "PushTray$Kind", name := "price", desc := "(I)I" } : Jvm.MethodName) prog_3_method_4_code (2 : Nat) (Option.some Jvm.ClassFile.FieldType.int)) ∈ XW := xm_2_4 (List.mem_of_getElem? (i := 0) rfl) rfl
theorem xw_2_65 : (Jvm.Cond.methodLink "PushTray" (106 : Nat) ({ cls := "PushTray$Standing", name := "sortsOf", desc := "(I)I" } : Jvm.MethodName)) ∈ XW := xm_2_4 (List.mem_of_getElem? (i := 1) rfl) rfl
theorem xw_2_66 : (Jvm.Cond.instanceMethod ({ cls := "PushTray$Standing", name := "sortsOf", desc := "(I)I" } : Jvm.MethodName)) ∈ XW := xm_2_4 (List.mem_of_getElem? (i := 2) rfl) rfl
theorem xw_2_67 : (Jvm.Cond.selects "PushTray$Standing" ({ cls := "PushTray$Standing", name := "sortsOf", desc := "(I)I" } : Jvm.MethodName) ({ cls := "PushTray$Standing", name := "sortsOf", desc := "(I)I" } : Jvm.MethodName)) ∈ XW := xm_2_4 (List.mem_of_getElem? (i := 3) rfl) rfl
theorem xw_2_68 : (Jvm.Cond.code ({ cls := "PushTray$Standing", name := "sortsOf", desc := "(I)I" } : Jvm.MethodName) prog_6_method_5_code (2 : Nat) (Option.some Jvm.ClassFile.FieldType.int)) ∈ XW := xm_2_4 (List.mem_of_getElem? (i := 4) rfl) rfl
theorem xw_2_70 : (Jvm.Cond.methodLink "PushTray" (109 : Nat) ({ cls := "PushTray", name := "bestWay", desc := "(I)I" } : Jvm.MethodName)) ∈ XW := xm_2_4 (List.mem_of_getElem? (i := 6) rfl) rfl
theorem xw_2_71 : (Jvm.Cond.static ({ cls := "PushTray", name := "bestWay", desc := "(I)I" } : Jvm.MethodName)) ∈ XW := xm_2_4 (List.mem_of_getElem? (i := 7) rfl) rfl
theorem xw_2_72 : (Jvm.Cond.code ({ cls := "PushTray", name := "bestWay", desc := "(I)I" } : Jvm.MethodName) prog_1_method_53_code (1 : Nat) (Option.some Jvm.ClassFile.FieldType.int)) ∈ XW := xm_2_4 (List.mem_of_getElem? (i := 8) rfl) rfl
theorem xw_2_73 : (Jvm.Cond.methodLink "PushTray" (301 : Nat) ({ cls := "PushTray", name := "mostLeft", desc := "(II)I" } : Jvm.MethodName)) ∈ XW := xm_2_4 (List.mem_of_getElem? (i := 9) rfl) rfl
theorem xw_2_74 : (Jvm.Cond.static ({ cls := "PushTray", name := "mostLeft", desc := "(II)I" } : Jvm.MethodName)) ∈ XW := xm_2_4 (List.mem_of_getElem? (i := 10) rfl) rfl
theorem xw_2_75 : (Jvm.Cond.code ({ cls := "PushTray", name := "mostLeft", desc := "(II)I" } : Jvm.MethodName) prog_1_method_54_code (4 : Nat) (Option.some Jvm.ClassFile.FieldType.int)) ∈ XW := xm_2_4 (List.mem_of_getElem? (i := 11) rfl) rfl
theorem xw_2_76 : (Jvm.Cond.methodLink "PushTray" (202 : Nat) ({ cls := "PushTray", name := "sortsThatCost", desc := "(II)I" } : Jvm.MethodName)) ∈ XW := xm_2_4 (List.mem_of_getElem? (i := 12) rfl) rfl
theorem xw_2_77 : (Jvm.Cond.static ({ cls := "PushTray", name := "sortsThatCost", desc := "(II)I" } : Jvm.MethodName)) ∈ XW := xm_2_4 (List.mem_of_getElem? (i := 13) rfl) rfl
theorem xw_2_78 : (Jvm.Cond.code ({ cls := "PushTray", name := "sortsThatCost", desc := "(II)I" } : Jvm.MethodName) prog_1_method_52_code (4 : Nat) (Option.some Jvm.ClassFile.FieldType.int)) ∈ XW := xm_2_4 (List.mem_of_getElem? (i := 14) rfl) rfl
theorem xw_2_79 : (Jvm.Cond.methodLink "PushTray" (299 : Nat) ({ cls := "PushTray$Kind", name := "price", desc := "(I)I" } : Jvm.MethodName)) ∈ XW := xm_2_4 (List.mem_of_getElem? (i := 15) rfl) rfl
theorem xw_2_80 : (Jvm.Cond.methodLink "PushTray" (304 : Nat) ({ cls := "java/lang/Integer", name := "bitCount", desc := "(I)I" } : Jvm.MethodName)) ∈ XW := xm_2_5 (List.mem_of_getElem? (i := 0) rfl) rfl
theorem xw_2_81 : (Jvm.Cond.methodLink "PushTray" (194 : Nat) ({ cls := "java/lang/Math", name := "max", desc := "(II)I" } : Jvm.MethodName)) ∈ XW := xm_2_5 (List.mem_of_getElem? (i := 1) rfl) rfl
theorem xw_2_82 : (Jvm.Cond.static ({ cls := "java/lang/Math", name := "max", desc := "(II)I" } : Jvm.MethodName)) ∈ XW := xm_2_5 (List.mem_of_getElem? (i := 2) rfl) rfl
theorem xw_2_83 : (Jvm.Cond.code ({ cls := "java/lang/Math", name := "max", desc := "(II)I" } : Jvm.MethodName) prog_11_method_65_code (2 : Nat) (Option.some Jvm.ClassFile.FieldType.int)) ∈ XW := xm_2_5 (List.mem_of_getElem? (i := 3) rfl) rfl
theorem xw_2_84 : (Jvm.Cond.methodLink "PushTray" (112 : Nat) ({ cls := "PushTray$Spread", name := "searchFrom", desc := "(II)V" } : Jvm.MethodName)) ∈ XW := xm_2_5 (List.mem_of_getElem? (i := 4) rfl) rfl
theorem xw_2_85 : (Jvm.Cond.instanceMethod ({ cls := "PushTray$Spread", name := "searchFrom", desc := "(II)V" } : Jvm.MethodName)) ∈ XW := xm_2_5 (List.mem_of_getElem? (i := 5) rfl) rfl
theorem xw_2_86 : (Jvm.Cond.selects "PushTray$Spread" ({ cls := "PushTray$Spread", name := "searchFrom", desc := "(II)V" } : Jvm.MethodName) ({ cls := "PushTray$Spread", name := "searchFrom", desc := "(II)V" } : Jvm.MethodName)) ∈ XW := xm_2_5 (List.mem_of_getElem? (i := 6) rfl) rfl
theorem xw_2_87 : (Jvm.Cond.code ({ cls := "PushTray$Spread", name := "searchFrom", desc := "(II)V" } : Jvm.MethodName) prog_5_method_2_code (6 : Nat) (Option.none : Option Jvm.ClassFile.FieldType)) ∈ XW := xm_2_5 (List.mem_of_getElem? (i := 7) rfl) rfl
theorem xw_2_88 : (Jvm.Cond.methodLink "PushTray$Spread" (35 : Nat) ({ cls := "java/util/Arrays", name := "fill", desc := "([II)V" } : Jvm.MethodName)) ∈ XW := xm_2_5 (List.mem_of_getElem? (i := 8) rfl) rfl
theorem xw_2_89 : (Jvm.Cond.methodLink "PushTray$Spread" (41 : Nat) ({ cls := "PushTray$Spread", name := "note", desc := "(II)V" } : Jvm.MethodName)) ∈ XW := xm_2_5 (List.mem_of_getElem? (i := 9) rfl) rfl
theorem xw_2_91 : (Jvm.Cond.instanceMethod ({ cls := "PushTray$Spread", name := "note", desc := "(II)V" } : Jvm.MethodName)) ∈ XW := xm_2_5 (List.mem_of_getElem? (i := 11) rfl) rfl
theorem xw_2_92 : (Jvm.Cond.code ({ cls := "PushTray$Spread", name := "note", desc := "(II)V" } : Jvm.MethodName) prog_5_method_4_code (3 : Nat) (Option.none : Option Jvm.ClassFile.FieldType)) ∈ XW := xm_2_5 (List.mem_of_getElem? (i := 12) rfl) rfl
theorem xw_2_94 : (Jvm.Cond.methodLink "PushTray$Spread" (62 : Nat) ({ cls := "java/lang/Math", name := "max", desc := "(II)I" } : Jvm.MethodName)) ∈ XW := xm_2_5 (List.mem_of_getElem? (i := 14) rfl) rfl
theorem xw_2_95 : (Jvm.Cond.methodLink "PushTray$Spread" (45 : Nat) ({ cls := "PushTray$Spread", name := "noteNeighbours", desc := "(II)V" } : Jvm.MethodName)) ∈ XW := xm_2_5 (List.mem_of_getElem? (i := 15) rfl) rfl
theorem xw_2_97 : (Jvm.Cond.instanceMethod ({ cls := "PushTray$Spread", name := "noteNeighbours", desc := "(II)V" } : Jvm.MethodName)) ∈ XW := xm_2_6 (List.mem_of_getElem? (i := 1) rfl) rfl
theorem xw_2_98 : (Jvm.Cond.code ({ cls := "PushTray$Spread", name := "noteNeighbours", desc := "(II)V" } : Jvm.MethodName) prog_5_method_3_code (5 : Nat) (Option.none : Option Jvm.ClassFile.FieldType)) ∈ XW := xm_2_6 (List.mem_of_getElem? (i := 2) rfl) rfl
theorem xw_2_99 : (Jvm.Cond.methodLink "PushTray$Spread" (48 : Nat) ({ cls := "PushTray$Lays", name := "price", desc := "(III)I" } : Jvm.MethodName)) ∈ XW := xm_2_6 (List.mem_of_getElem? (i := 3) rfl) rfl
theorem xw_2_100 : (Jvm.Cond.methodLink "PushTray$Spread" (54 : Nat) ({ cls := "PushTray$Lays", name := "pushed", desc := "(II)I" } : Jvm.MethodName)) ∈ XW := xm_2_6 (List.mem_of_getElem? (i := 4) rfl) rfl
theorem xw_2_101 : (Jvm.Cond.instanceMethod ({ cls := "PushTray$Lays", name := "pushed", desc := "(II)I" } : Jvm.MethodName)) ∈ XW := xm_2_6 (List.mem_of_getElem? (i := 5) rfl) rfl
theorem xw_2_102 : (Jvm.Cond.selects "PushTray$Lays" ({ cls := "PushTray$Lays", name := "pushed", desc := "(II)I" } : Jvm.MethodName) ({ cls := "PushTray$Lays", name := "pushed", desc := "(II)I" } : Jvm.MethodName)) ∈ XW := xm_2_6 (List.mem_of_getElem? (i := 6) rfl) rfl
theorem xw_2_103 : (Jvm.Cond.code ({ cls := "PushTray$Lays", name := "pushed", desc := "(II)I" } : Jvm.MethodName) prog_4_method_9_code (3 : Nat) (Option.some Jvm.ClassFile.FieldType.int)) ∈ XW := xm_2_6 (List.mem_of_getElem? (i := 7) rfl) rfl
theorem xw_2_104 : (Jvm.Cond.methodLink "PushTray" (116 : Nat) ({ cls := "PushTray$Spread", name := "leastWith", desc := "(II)I" } : Jvm.MethodName)) ∈ XW := xm_2_6 (List.mem_of_getElem? (i := 8) rfl) rfl
theorem xw_2_105 : (Jvm.Cond.instanceMethod ({ cls := "PushTray$Spread", name := "leastWith", desc := "(II)I" } : Jvm.MethodName)) ∈ XW := xm_2_6 (List.mem_of_getElem? (i := 9) rfl) rfl
theorem xw_2_106 : (Jvm.Cond.selects "PushTray$Spread" ({ cls := "PushTray$Spread", name := "leastWith", desc := "(II)I" } : Jvm.MethodName) ({ cls := "PushTray$Spread", name := "leastWith", desc := "(II)I" } : Jvm.MethodName)) ∈ XW := xm_2_6 (List.mem_of_getElem? (i := 10) rfl) rfl
theorem xw_2_107 : (Jvm.Cond.code ({ cls := "PushTray$Spread", name := "leastWith", desc := "(II)I" } : Jvm.MethodName) prog_5_method_8_code (6 : Nat) (Option.some Jvm.ClassFile.FieldType.int)) ∈ XW := xm_2_6 (List.mem_of_getElem? (i := 11) rfl) rfl
theorem xw_2_108 : (Jvm.Cond.methodLink "PushTray$Spread" (67 : Nat) ({ cls := "PushTray$Lays", name := "place", desc := "(II)I" } : Jvm.MethodName)) ∈ XW := xm_2_6 (List.mem_of_getElem? (i := 12) rfl) rfl
theorem xw_2_109 : (Jvm.Cond.methodLink "PushTrayLaw" (36 : Nat) ({ cls := "PushTray", name := "as", desc := "(II)I" } : Jvm.MethodName)) ∈ XW := xm_2_6 (List.mem_of_getElem? (i := 13) rfl) rfl
theorem xw_2_110 : (Jvm.Cond.instanceMethod ({ cls := "PushTray", name := "as", desc := "(II)I" } : Jvm.MethodName)) ∈ XW := xm_2_6 (List.mem_of_getElem? (i := 14) rfl) rfl
theorem xw_2_111 : (Jvm.Cond.selects "PushTray" ({ cls := "PushTray", name := "as", desc := "(II)I" } : Jvm.MethodName) ({ cls := "PushTray", name := "as", desc := "(II)I" } : Jvm.MethodName)) ∈ XW := xm_2_6 (List.mem_of_getElem? (i := 15) rfl) rfl
theorem xw_2_112 : (Jvm.Cond.code ({ cls := "PushTray", name := "as", desc := "(II)I" } : Jvm.MethodName) prog_1_method_7_code (3 : Nat) (Option.some Jvm.ClassFile.FieldType.int)) ∈ XW := xm_2_7 (List.mem_of_getElem? (i := 0) rfl) rfl
theorem xw_2_113 : (Jvm.Cond.methodLink "PushTray" (119 : Nat) ({ cls := "PushTray", name := "isKind", desc := "(I)Z" } : Jvm.MethodName)) ∈ XW := xm_2_7 (List.mem_of_getElem? (i := 1) rfl) rfl
theorem xw_2_114 : (Jvm.Cond.static ({ cls := "PushTray", name := "isKind", desc := "(I)Z" } : Jvm.MethodName)) ∈ XW := xm_2_7 (List.mem_of_getElem? (i := 2) rfl) rfl
theorem xw_2_115 : (Jvm.Cond.code ({ cls := "PushTray", name := "isKind", desc := "(I)Z" } : Jvm.MethodName) prog_1_method_31_code (1 : Nat) (Option.some Jvm.ClassFile.FieldType.boolean)) ∈ XW := xm_2_7 (List.mem_of_getElem? (i := 3) rfl) rfl
theorem xw_2_116 : (Jvm.Cond.methodLink "PushTray" (126 : Nat) ({ cls := "PushTray$Kind", name := "isA", desc := "(I)Z" } : Jvm.MethodName)) ∈ XW := xm_2_7 (List.mem_of_getElem? (i := 4) rfl) rfl
theorem xw_2_117 : (Jvm.Cond.instanceMethod ({ cls := "PushTray$Kind", name := "isA", desc := "(I)Z" } : Jvm.MethodName)) ∈ XW := xm_2_7 (List.mem_of_getElem? (i := 5) rfl) rfl
theorem xw_2_118 : (Jvm.Cond.selects "PushTray$Kind" ({ cls := "PushTray$Kind", name := "isA", desc := "(I)Z" } : Jvm.MethodName) ({ cls := "PushTray$Kind", name := "isA", desc := "(I)Z" } : Jvm.MethodName)) ∈ XW := xm_2_7 (List.mem_of_getElem? (i := 6) rfl) rfl
theorem xw_2_119 : (Jvm.Cond.code ({ cls := "PushTray$Kind", name := "isA", desc := "(I)Z" } : Jvm.MethodName) prog_3_method_5_code (2 : Nat) (Option.some Jvm.ClassFile.FieldType.boolean)) ∈ XW := xm_2_7 (List.mem_of_getElem? (i := 7) rfl) rfl
theorem xw_2_120 : (Jvm.Cond.methodLink "PushTrayLaw" (40 : Nat) ({ cls := "PushTray", name := "cell", desc := "(II)I" } : Jvm.MethodName)) ∈ XW := xm_2_7 (List.mem_of_getElem? (i := 8) rfl) rfl
theorem xw_2_121 : (Jvm.Cond.instanceMethod ({ cls := "PushTray", name := "cell", desc := "(II)I" } : Jvm.MethodName)) ∈ XW := xm_2_7 (List.mem_of_getElem? (i := 9) rfl) rfl
theorem xw_2_122 : (Jvm.Cond.selects "PushTray" ({ cls := "PushTray", name := "cell", desc := "(II)I" } : Jvm.MethodName) ({ cls := "PushTray", name := "cell", desc := "(II)I" } : Jvm.MethodName)) ∈ XW := xm_2_7 (List.mem_of_getElem? (i := 10) rfl) rfl
theorem xw_2_123 : (Jvm.Cond.code ({ cls := "PushTray", name := "cell", desc := "(II)I" } : Jvm.MethodName) prog_1_method_8_code (3 : Nat) (Option.some Jvm.ClassFile.FieldType.int)) ∈ XW := xm_2_7 (List.mem_of_getElem? (i := 11) rfl) rfl
theorem xw_2_124 : (Jvm.Cond.methodLink "PushTray" (131 : Nat) ({ cls := "PushTray", name := "isCell", desc := "(I)Z" } : Jvm.MethodName)) ∈ XW := xm_2_7 (List.mem_of_getElem? (i := 12) rfl) rfl
theorem xw_2_126 : (Jvm.Cond.instanceMethod ({ cls := "PushTray", name := "isCell", desc := "(I)Z" } : Jvm.MethodName)) ∈ XW := xm_2_7 (List.mem_of_getElem? (i := 14) rfl) rfl
theorem xw_2_127 : (Jvm.Cond.code ({ cls := "PushTray", name := "isCell", desc := "(I)Z" } : Jvm.MethodName) prog_1_method_34_code (2 : Nat) (Option.some Jvm.ClassFile.FieldType.boolean)) ∈ XW := xm_2_7 (List.mem_of_getElem? (i := 15) rfl) rfl
theorem xw_2_128 : (Jvm.Cond.methodLink "PushTray" (134 : Nat) ({ cls := "PushTray$Lays", name := "sign", desc := "(II)I" } : Jvm.MethodName)) ∈ XW := xm_2_8 (List.mem_of_getElem? (i := 0) rfl) rfl
theorem xw_2_129 : (Jvm.Cond.methodLink "PushTray" (137 : Nat) ({ cls := "PushTray", name := "tileOrNone", desc := "(I)I" } : Jvm.MethodName)) ∈ XW := xm_2_8 (List.mem_of_getElem? (i := 1) rfl) rfl
theorem xw_2_130 : (Jvm.Cond.static ({ cls := "PushTray", name := "tileOrNone", desc := "(I)I" } : Jvm.MethodName)) ∈ XW := xm_2_8 (List.mem_of_getElem? (i := 2) rfl) rfl
theorem xw_2_131 : (Jvm.Cond.code ({ cls := "PushTray", name := "tileOrNone", desc := "(I)I" } : Jvm.MethodName) prog_1_method_35_code (1 : Nat) (Option.some Jvm.ClassFile.FieldType.int)) ∈ XW := xm_2_8 (List.mem_of_getElem? (i := 3) rfl) rfl
theorem xw_2_132 : (Jvm.Cond.methodLink "PushTray" (140 : Nat) ({ cls := "PushTray", name := "areNext", desc := "(II)Z" } : Jvm.MethodName)) ∈ XW := xm_2_8 (List.mem_of_getElem? (i := 4) rfl) rfl
theorem xw_2_133 : (Jvm.Cond.methodLink "PushTrayLaw" (44 : Nat) ({ cls := "PushTray", name := "push", desc := "(I)I" } : Jvm.MethodName)) ∈ XW := xm_2_8 (List.mem_of_getElem? (i := 5) rfl) rfl
theorem xw_2_134 : (Jvm.Cond.instanceMethod ({ cls := "PushTray", name := "push", desc := "(I)I" } : Jvm.MethodName)) ∈ XW := xm_2_8 (List.mem_of_getElem? (i := 6) rfl) rfl
theorem xw_2_135 : (Jvm.Cond.selects "PushTray" ({ cls := "PushTray", name := "push", desc := "(I)I" } : Jvm.MethodName) ({ cls := "PushTray", name := "push", desc := "(I)I" } : Jvm.MethodName)) ∈ XW := xm_2_8 (List.mem_of_getElem? (i := 7) rfl) rfl
theorem xw_2_136 : (Jvm.Cond.code ({ cls := "PushTray", name := "push", desc := "(I)I" } : Jvm.MethodName) prog_1_method_9_code (3 : Nat) (Option.some Jvm.ClassFile.FieldType.int)) ∈ XW := xm_2_8 (List.mem_of_getElem? (i := 8) rfl) rfl
theorem xw_2_137 : (Jvm.Cond.methodLink "PushTray" (147 : Nat) ({ cls := "PushTray$Lays", name := "pushed", desc := "(II)I" } : Jvm.MethodName)) ∈ XW := xm_2_8 (List.mem_of_getElem? (i := 9) rfl) rfl
theorem xw_2_138 : (Jvm.Cond.methodLink "PushTrayLaw" (48 : Nat) ({ cls := "PushTray", name := "exchange", desc := "(II)I" } : Jvm.MethodName)) ∈ XW := xm_2_8 (List.mem_of_getElem? (i := 10) rfl) rfl
theorem xw_2_139 : (Jvm.Cond.instanceMethod ({ cls := "PushTray", name := "exchange", desc := "(II)I" } : Jvm.MethodName)) ∈ XW := xm_2_8 (List.mem_of_getElem? (i := 11) rfl) rfl
theorem xw_2_140 : (Jvm.Cond.selects "PushTray" ({ cls := "PushTray", name := "exchange", desc := "(II)I" } : Jvm.MethodName) ({ cls := "PushTray", name := "exchange", desc := "(II)I" } : Jvm.MethodName)) ∈ XW := xm_2_8 (List.mem_of_getElem? (i := 12) rfl) rfl
theorem xw_2_141 : (Jvm.Cond.code ({ cls := "PushTray", name := "exchange", desc := "(II)I" } : Jvm.MethodName) prog_1_method_10_code (3 : Nat) (Option.some Jvm.ClassFile.FieldType.int)) ∈ XW := xm_2_8 (List.mem_of_getElem? (i := 13) rfl) rfl
theorem xw_2_142 : (Jvm.Cond.methodLink "PushTray" (153 : Nat) ({ cls := "PushTray$Lays", name := "exchanged", desc := "(III)I" } : Jvm.MethodName)) ∈ XW := xm_2_8 (List.mem_of_getElem? (i := 14) rfl) rfl
theorem xw_2_143 : (Jvm.Cond.methodLink "PushTrayLaw" (52 : Nat) ({ cls := "PushTray", name := "aim", desc := "(II)I" } : Jvm.MethodName)) ∈ XW := xm_2_8 (List.mem_of_getElem? (i := 15) rfl) rfl
theorem xw_2_144 : (Jvm.Cond.instanceMethod ({ cls := "PushTray", name := "aim", desc := "(II)I" } : Jvm.MethodName)) ∈ XW := xm_2_9 (List.mem_of_getElem? (i := 0) rfl) rfl
theorem xw_2_145 : (Jvm.Cond.selects "PushTray" ({ cls := "PushTray", name := "aim", desc := "(II)I" } : Jvm.MethodName) ({ cls := "PushTray", name := "aim", desc := "(II)I" } : Jvm.MethodName)) ∈ XW := xm_2_9 (List.mem_of_getElem? (i := 1) rfl) rfl
theorem xw_2_146 : (Jvm.Cond.code ({ cls := "PushTray", name := "aim", desc := "(II)I" } : Jvm.MethodName) prog_1_method_11_code (3 : Nat) (Option.some Jvm.ClassFile.FieldType.int)) ∈ XW := xm_2_9 (List.mem_of_getElem? (i := 2) rfl) rfl
theorem xw_2_147 : (Jvm.Cond.methodLink "PushTrayLaw" (56 : Nat) ({ cls := "PushTray", name := "recast", desc := "(II)I" } : Jvm.MethodName)) ∈ XW := xm_2_9 (List.mem_of_getElem? (i := 3) rfl) rfl
theorem xw_2_148 : (Jvm.Cond.instanceMethod ({ cls := "PushTray", name := "recast", desc := "(II)I" } : Jvm.MethodName)) ∈ XW := xm_2_9 (List.mem_of_getElem? (i := 4) rfl) rfl
theorem xw_2_149 : (Jvm.Cond.selects "PushTray" ({ cls := "PushTray", name := "recast", desc := "(II)I" } : Jvm.MethodName) ({ cls := "PushTray", name := "recast", desc := "(II)I" } : Jvm.MethodName)) ∈ XW := xm_2_9 (List.mem_of_getElem? (i := 5) rfl) rfl
theorem xw_2_150 : (Jvm.Cond.code ({ cls := "PushTray", name := "recast", desc := "(II)I" } : Jvm.MethodName) prog_1_method_12_code (4 : Nat) (Option.some Jvm.ClassFile.FieldType.int)) ∈ XW := xm_2_9 (List.mem_of_getElem? (i := 6) rfl) rfl
theorem xw_2_151 : (Jvm.Cond.methodLink "PushTrayLaw" (60 : Nat) ({ cls := "PushTray", name := "least", desc := "(I)I" } : Jvm.MethodName)) ∈ XW := xm_2_9 (List.mem_of_getElem? (i := 7) rfl) rfl
theorem xw_2_152 : (Jvm.Cond.instanceMethod ({ cls := "PushTray", name := "least", desc := "(I)I" } : Jvm.MethodName)) ∈ XW := xm_2_9 (List.mem_of_getElem? (i := 8) rfl) rfl
theorem xw_2_153 : (Jvm.Cond.selects "PushTray" ({ cls := "PushTray", name := "least", desc := "(I)I" } : Jvm.MethodName) ({ cls := "PushTray", name := "least", desc := "(I)I" } : Jvm.MethodName)) ∈ XW := xm_2_9 (List.mem_of_getElem? (i := 9) rfl) rfl
theorem xw_2_154 : (Jvm.Cond.code ({ cls := "PushTray", name := "least", desc := "(I)I" } : Jvm.MethodName) prog_1_method_13_code (2 : Nat) (Option.some Jvm.ClassFile.FieldType.int)) ∈ XW := xm_2_9 (List.mem_of_getElem? (i := 10) rfl) rfl
theorem xw_2_155 : (Jvm.Cond.methodLink "PushTray" (163 : Nat) ({ cls := "PushTray$Spread", name := "costOf", desc := "(I)I" } : Jvm.MethodName)) ∈ XW := xm_2_9 (List.mem_of_getElem? (i := 11) rfl) rfl
theorem xw_2_156 : (Jvm.Cond.instanceMethod ({ cls := "PushTray$Spread", name := "costOf", desc := "(I)I" } : Jvm.MethodName)) ∈ XW := xm_2_9 (List.mem_of_getElem? (i := 12) rfl) rfl
theorem xw_2_157 : (Jvm.Cond.selects "PushTray$Spread" ({ cls := "PushTray$Spread", name := "costOf", desc := "(I)I" } : Jvm.MethodName) ({ cls := "PushTray$Spread", name := "costOf", desc := "(I)I" } : Jvm.MethodName)) ∈ XW := xm_2_9 (List.mem_of_getElem? (i := 13) rfl) rfl
theorem xw_2_158 : (Jvm.Cond.code ({ cls := "PushTray$Spread", name := "costOf", desc := "(I)I" } : Jvm.MethodName) prog_5_method_5_code (2 : Nat) (Option.some Jvm.ClassFile.FieldType.int)) ∈ XW := xm_2_9 (List.mem_of_getElem? (i := 14) rfl) rfl
theorem xw_2_159 : (Jvm.Cond.methodLink "PushTray" (166 : Nat) ({ cls := "PushTray", name := "cheapestTile", desc := "(I)I" } : Jvm.MethodName)) ∈ XW := xm_2_9 (List.mem_of_getElem? (i := 15) rfl) rfl
theorem xw_2_161 : (Jvm.Cond.instanceMethod ({ cls := "PushTray", name := "cheapestTile", desc := "(I)I" } : Jvm.MethodName)) ∈ XW := xm_2_10 (List.mem_of_getElem? (i := 1) rfl) rfl
theorem xw_2_162 : (Jvm.Cond.code ({ cls := "PushTray", name := "cheapestTile", desc := "(I)I" } : Jvm.MethodName) prog_1_method_48_code (5 : Nat) (Option.some Jvm.ClassFile.FieldType.int)) ∈ XW := xm_2_10 (List.mem_of_getElem? (i := 2) rfl) rfl
theorem xw_2_163 : (Jvm.Cond.methodLink "PushTray" (169 : Nat) ({ cls := "PushTray", name := "pushesToGoal", desc := "()I" } : Jvm.MethodName)) ∈ XW := xm_2_10 (List.mem_of_getElem? (i := 3) rfl) rfl
theorem xw_2_165 : (Jvm.Cond.instanceMethod ({ cls := "PushTray", name := "pushesToGoal", desc := "()I" } : Jvm.MethodName)) ∈ XW := xm_2_10 (List.mem_of_getElem? (i := 5) rfl) rfl
theorem xw_2_166 : (Jvm.Cond.code ({ cls := "PushTray", name := "pushesToGoal", desc := "()I" } : Jvm.MethodName) prog_1_method_49_code (3 : Nat) (Option.some Jvm.ClassFile.FieldType.int)) ∈ XW := xm_2_10 (List.mem_of_getElem? (i := 6) rfl) rfl
theorem xw_2_167 : (Jvm.Cond.methodLink "PushTrayLaw" (64 : Nat) ({ cls := "PushTray", name := "reach", desc := "(I)I" } : Jvm.MethodName)) ∈ XW := xm_2_10 (List.mem_of_getElem? (i := 7) rfl) rfl
theorem xw_2_168 : (Jvm.Cond.instanceMethod ({ cls := "PushTray", name := "reach", desc := "(I)I" } : Jvm.MethodName)) ∈ XW := xm_2_10 (List.mem_of_getElem? (i := 8) rfl) rfl
theorem xw_2_169 : (Jvm.Cond.selects "PushTray" ({ cls := "PushTray", name := "reach", desc := "(I)I" } : Jvm.MethodName) ({ cls := "PushTray", name := "reach", desc := "(I)I" } : Jvm.MethodName)) ∈ XW := xm_2_10 (List.mem_of_getElem? (i := 9) rfl) rfl
theorem xw_2_170 : (Jvm.Cond.code ({ cls := "PushTray", name := "reach", desc := "(I)I" } : Jvm.MethodName) prog_1_method_14_code (2 : Nat) (Option.some Jvm.ClassFile.FieldType.int)) ∈ XW := xm_2_10 (List.mem_of_getElem? (i := 10) rfl) rfl
theorem xw_2_171 : (Jvm.Cond.methodLink "PushTray" (172 : Nat) ({ cls := "PushTray$Spread", name := "size", desc := "()I" } : Jvm.MethodName)) ∈ XW := xm_2_10 (List.mem_of_getElem? (i := 11) rfl) rfl
theorem xw_2_172 : (Jvm.Cond.instanceMethod ({ cls := "PushTray$Spread", name := "size", desc := "()I" } : Jvm.MethodName)) ∈ XW := xm_2_10 (List.mem_of_getElem? (i := 12) rfl) rfl
theorem xw_2_173 : (Jvm.Cond.selects "PushTray$Spread" ({ cls := "PushTray$Spread", name := "size", desc := "()I" } : Jvm.MethodName) ({ cls := "PushTray$Spread", name := "size", desc := "()I" } : Jvm.MethodName)) ∈ XW := xm_2_10 (List.mem_of_getElem? (i := 13) rfl) rfl
theorem xw_2_174 : (Jvm.Cond.code ({ cls := "PushTray$Spread", name := "size", desc := "()I" } : Jvm.MethodName) prog_5_method_6_code (1 : Nat) (Option.some Jvm.ClassFile.FieldType.int)) ∈ XW := xm_2_10 (List.mem_of_getElem? (i := 14) rfl) rfl
theorem xw_2_175 : (Jvm.Cond.methodLink "PushTray" (175 : Nat) ({ cls := "PushTray$Spread", name := "farthest", desc := "()I" } : Jvm.MethodName)) ∈ XW := xm_2_10 (List.mem_of_getElem? (i := 15) rfl) rfl
theorem xw_2_176 : (Jvm.Cond.instanceMethod ({ cls := "PushTray$Spread", name := "farthest", desc := "()I" } : Jvm.MethodName)) ∈ XW := xm_2_11 (List.mem_of_getElem? (i := 0) rfl) rfl
theorem xw_2_177 : (Jvm.Cond.selects "PushTray$Spread" ({ cls := "PushTray$Spread", name := "farthest", desc := "()I" } : Jvm.MethodName) ({ cls := "PushTray$Spread", name := "farthest", desc := "()I" } : Jvm.MethodName)) ∈ XW := xm_2_11 (List.mem_of_getElem? (i := 1) rfl) rfl
theorem xw_2_178 : (Jvm.Cond.code ({ cls := "PushTray$Spread", name := "farthest", desc := "()I" } : Jvm.MethodName) prog_5_method_7_code (3 : Nat) (Option.some Jvm.ClassFile.FieldType.int)) ∈ XW := xm_2_11 (List.mem_of_getElem? (i := 2) rfl) rfl
theorem xw_2_179 : (Jvm.Cond.methodLink "PushTrayLaw" (68 : Nat) ({ cls := "PushTray", name := "home", desc := "(II)I" } : Jvm.MethodName)) ∈ XW := xm_2_11 (List.mem_of_getElem? (i := 3) rfl) rfl
theorem xw_2_180 : (Jvm.Cond.instanceMethod ({ cls := "PushTray", name := "home", desc := "(II)I" } : Jvm.MethodName)) ∈ XW := xm_2_11 (List.mem_of_getElem? (i := 4) rfl) rfl
theorem xw_2_181 : (Jvm.Cond.selects "PushTray" ({ cls := "PushTray", name := "home", desc := "(II)I" } : Jvm.MethodName) ({ cls := "PushTray", name := "home", desc := "(II)I" } : Jvm.MethodName)) ∈ XW := xm_2_11 (List.mem_of_getElem? (i := 5) rfl) rfl
theorem xw_2_182 : (Jvm.Cond.code ({ cls := "PushTray", name := "home", desc := "(II)I" } : Jvm.MethodName) prog_1_method_15_code (3 : Nat) (Option.some Jvm.ClassFile.FieldType.int)) ∈ XW := xm_2_11 (List.mem_of_getElem? (i := 6) rfl) rfl
theorem xw_2_183 : (Jvm.Cond.methodLink "PushTrayLaw" (72 : Nat) ({ cls := "PushTray", name := "swaps", desc := "()I" } : Jvm.MethodName)) ∈ XW := xm_2_11 (List.mem_of_getElem? (i := 7) rfl) rfl
theorem xw_2_184 : (Jvm.Cond.instanceMethod ({ cls := "PushTray", name := "swaps", desc := "()I" } : Jvm.MethodName)) ∈ XW := xm_2_11 (List.mem_of_getElem? (i := 8) rfl) rfl
theorem xw_2_185 : (Jvm.Cond.selects "PushTray" ({ cls := "PushTray", name := "swaps", desc := "()I" } : Jvm.MethodName) ({ cls := "PushTray", name := "swaps", desc := "()I" } : Jvm.MethodName)) ∈ XW := xm_2_11 (List.mem_of_getElem? (i := 9) rfl) rfl
theorem xw_2_186 : (Jvm.Cond.code ({ cls := "PushTray", name := "swaps", desc := "()I" } : Jvm.MethodName) prog_1_method_16_code (1 : Nat) (Option.some Jvm.ClassFile.FieldType.int)) ∈ XW := xm_2_11 (List.mem_of_getElem? (i := 10) rfl) rfl
theorem xw_2_187 : (Jvm.Cond.methodLink "PushTray" (178 : Nat) ({ cls := "PushTray", name := "circles", desc := "()I" } : Jvm.MethodName)) ∈ XW := xm_2_11 (List.mem_of_getElem? (i := 11) rfl) rfl
theorem xw_2_189 : (Jvm.Cond.instanceMethod ({ cls := "PushTray", name := "circles", desc := "()I" } : Jvm.MethodName)) ∈ XW := xm_2_11 (List.mem_of_getElem? (i := 13) rfl) rfl
theorem xw_2_190 : (Jvm.Cond.code ({ cls := "PushTray", name := "circles", desc := "()I" } : Jvm.MethodName) prog_1_method_50_code (6 : Nat) (Option.some Jvm.ClassFile.FieldType.int)) ∈ XW := xm_2_11 (List.mem_of_getElem? (i := 14) rfl) rfl
theorem xw_2_191 : (Jvm.Cond.methodLink "PushTrayLaw" (76 : Nat) ({ cls := "PushTray", name := "cheap", desc := "(I)I" } : Jvm.MethodName)) ∈ XW := xm_2_11 (List.mem_of_getElem? (i := 15) rfl) rfl
theorem xw_2_192 : (Jvm.Cond.instanceMethod ({ cls := "PushTray", name := "cheap", desc := "(I)I" } : Jvm.MethodName)) ∈ XW := xm_2_12 (List.mem_of_getElem? (i := 0) rfl) rfl
theorem xw_2_193 : (Jvm.Cond.selects "PushTray" ({ cls := "PushTray", name := "cheap", desc := "(I)I" } : Jvm.MethodName) ({ cls := "PushTray", name := "cheap", desc := "(I)I" } : Jvm.MethodName)) ∈ XW := xm_2_12 (List.mem_of_getElem? (i := 1) rfl) rfl
theorem xw_2_194 : (Jvm.Cond.code ({ cls := "PushTray", name := "cheap", desc := "(I)I" } : Jvm.MethodName) prog_1_method_17_code (7 : Nat) (Option.some Jvm.ClassFile.FieldType.int)) ∈ XW := xm_2_12 (List.mem_of_getElem? (i := 2) rfl) rfl
theorem xw_2_195 : (Jvm.Cond.methodLink "PushTrayLaw" (80 : Nat) ({ cls := "PushTray", name := "odds", desc := "(IIII)I" } : Jvm.MethodName)) ∈ XW := xm_2_12 (List.mem_of_getElem? (i := 3) rfl) rfl
theorem xw_2_196 : (Jvm.Cond.instanceMethod ({ cls := "PushTray", name := "odds", desc := "(IIII)I" } : Jvm.MethodName)) ∈ XW := xm_2_12 (List.mem_of_getElem? (i := 4) rfl) rfl
theorem xw_2_197 : (Jvm.Cond.selects "PushTray" ({ cls := "PushTray", name := "odds", desc := "(IIII)I" } : Jvm.MethodName) ({ cls := "PushTray", name := "odds", desc := "(IIII)I" } : Jvm.MethodName)) ∈ XW := xm_2_12 (List.mem_of_getElem? (i := 5) rfl) rfl
theorem xw_2_198 : (Jvm.Cond.code ({ cls := "PushTray", name := "odds", desc := "(IIII)I" } : Jvm.MethodName) prog_1_method_18_code (7 : Nat) (Option.some Jvm.ClassFile.FieldType.int)) ∈ XW := xm_2_12 (List.mem_of_getElem? (i := 6) rfl) rfl
theorem xw_2_199 : (Jvm.Cond.methodLink "PushTray" (184 : Nat) ({ cls := "PushTray$Chances", name := "drawFrom", desc := "(III)V" } : Jvm.MethodName)) ∈ XW := xm_2_12 (List.mem_of_getElem? (i := 7) rfl) rfl
theorem xw_2_200 : (Jvm.Cond.instanceMethod ({ cls := "PushTray$Chances", name := "drawFrom", desc := "(III)V" } : Jvm.MethodName)) ∈ XW := xm_2_12 (List.mem_of_getElem? (i := 8) rfl) rfl
theorem xw_2_201 : (Jvm.Cond.selects "PushTray$Chances" ({ cls := "PushTray$Chances", name := "drawFrom", desc := "(III)V" } : Jvm.MethodName) ({ cls := "PushTray$Chances", name := "drawFrom", desc := "(III)V" } : Jvm.MethodName)) ∈ XW := xm_2_12 (List.mem_of_getElem? (i := 9) rfl) rfl
theorem xw_2_202 : (Jvm.Cond.code ({ cls := "PushTray$Chances", name := "drawFrom", desc := "(III)V" } : Jvm.MethodName) prog_2_method_2_code (6 : Nat) (Option.none : Option Jvm.ClassFile.FieldType)) ∈ XW := xm_2_12 (List.mem_of_getElem? (i := 10) rfl) rfl
theorem xw_2_203 : (Jvm.Cond.methodLink "PushTray$Chances" (32 : Nat) ({ cls := "java/util/Arrays", name := "fill", desc := "([II)V" } : Jvm.MethodName)) ∈ XW := xm_2_12 (List.mem_of_getElem? (i := 11) rfl) rfl
theorem xw_2_205 : (Jvm.Cond.constant "PushTray$Chances" (42 : Nat) (46656 : Int32)) ∈ XW := xm_2_12 (List.mem_of_getElem? (i := 13) rfl) rfl
theorem xw_2_206 : (Jvm.Cond.methodLink "PushTray$Chances" (43 : Nat) ({ cls := "PushTray$Lays", name := "choices", desc := "(II)I" } : Jvm.MethodName)) ∈ XW := xm_2_12 (List.mem_of_getElem? (i := 14) rfl) rfl
theorem xw_2_207 : (Jvm.Cond.instanceMethod ({ cls := "PushTray$Lays", name := "choices", desc := "(II)I" } : Jvm.MethodName)) ∈ XW := xm_2_12 (List.mem_of_getElem? (i := 15) rfl) rfl
theorem xw_2_208 : (Jvm.Cond.selects "PushTray$Lays" ({ cls := "PushTray$Lays", name := "choices", desc := "(II)I" } : Jvm.MethodName) ({ cls := "PushTray$Lays", name := "choices", desc := "(II)I" } : Jvm.MethodName)) ∈ XW := xm_2_13 (List.mem_of_getElem? (i := 0) rfl) rfl
theorem xw_2_209 : (Jvm.Cond.code ({ cls := "PushTray$Lays", name := "choices", desc := "(II)I" } : Jvm.MethodName) prog_4_method_12_code (5 : Nat) (Option.some Jvm.ClassFile.FieldType.int)) ∈ XW := xm_2_13 (List.mem_of_getElem? (i := 1) rfl) rfl
theorem xw_2_210 : (Jvm.Cond.methodLink "PushTray$Lays" (84 : Nat) ({ cls := "PushTray$Lays", name := "price", desc := "(III)I" } : Jvm.MethodName)) ∈ XW := xm_2_13 (List.mem_of_getElem? (i := 2) rfl) rfl
theorem xw_2_211 : (Jvm.Cond.methodLink "PushTray$Chances" (49 : Nat) ({ cls := "PushTray$Chances", name := "share", desc := "(III)V" } : Jvm.MethodName)) ∈ XW := xm_2_13 (List.mem_of_getElem? (i := 3) rfl) rfl
theorem xw_2_213 : (Jvm.Cond.instanceMethod ({ cls := "PushTray$Chances", name := "share", desc := "(III)V" } : Jvm.MethodName)) ∈ XW := xm_2_13 (List.mem_of_getElem? (i := 5) rfl) rfl
theorem xw_2_214 : (Jvm.Cond.code ({ cls := "PushTray$Chances", name := "share", desc := "(III)V" } : Jvm.MethodName) prog_2_method_3_code (5 : Nat) (Option.none : Option Jvm.ClassFile.FieldType)) ∈ XW := xm_2_13 (List.mem_of_getElem? (i := 6) rfl) rfl
theorem xw_2_215 : (Jvm.Cond.methodLink "PushTray$Chances" (53 : Nat) ({ cls := "PushTray$Chances", name := "give", desc := "(II)V" } : Jvm.MethodName)) ∈ XW := xm_2_13 (List.mem_of_getElem? (i := 7) rfl) rfl
theorem xw_2_217 : (Jvm.Cond.instanceMethod ({ cls := "PushTray$Chances", name := "give", desc := "(II)V" } : Jvm.MethodName)) ∈ XW := xm_2_13 (List.mem_of_getElem? (i := 9) rfl) rfl
theorem xw_2_218 : (Jvm.Cond.code ({ cls := "PushTray$Chances", name := "give", desc := "(II)V" } : Jvm.MethodName) prog_2_method_4_code (3 : Nat) (Option.none : Option Jvm.ClassFile.FieldType)) ∈ XW := xm_2_13 (List.mem_of_getElem? (i := 10) rfl) rfl
theorem xw_2_219 : (Jvm.Cond.methodLink "PushTray$Chances" (57 : Nat) ({ cls := "PushTray$Lays", name := "price", desc := "(III)I" } : Jvm.MethodName)) ∈ XW := xm_2_13 (List.mem_of_getElem? (i := 11) rfl) rfl
theorem xw_2_220 : (Jvm.Cond.methodLink "PushTray$Chances" (61 : Nat) ({ cls := "PushTray$Lays", name := "pushed", desc := "(II)I" } : Jvm.MethodName)) ∈ XW := xm_2_13 (List.mem_of_getElem? (i := 12) rfl) rfl
theorem xw_2_221 : (Jvm.Cond.methodLink "PushTray" (187 : Nat) ({ cls := "PushTray$Chances", name := "partsWith", desc := "(II)I" } : Jvm.MethodName)) ∈ XW := xm_2_13 (List.mem_of_getElem? (i := 13) rfl) rfl
theorem xw_2_222 : (Jvm.Cond.instanceMethod ({ cls := "PushTray$Chances", name := "partsWith", desc := "(II)I" } : Jvm.MethodName)) ∈ XW := xm_2_13 (List.mem_of_getElem? (i := 14) rfl) rfl
theorem xw_2_223 : (Jvm.Cond.selects "PushTray$Chances" ({ cls := "PushTray$Chances", name := "partsWith", desc := "(II)I" } : Jvm.MethodName) ({ cls := "PushTray$Chances", name := "partsWith", desc := "(II)I" } : Jvm.MethodName)) ∈ XW := xm_2_13 (List.mem_of_getElem? (i := 15) rfl) rfl
theorem xw_2_224 : (Jvm.Cond.code ({ cls := "PushTray$Chances", name := "partsWith", desc := "(II)I" } : Jvm.MethodName) prog_2_method_5_code (5 : Nat) (Option.some Jvm.ClassFile.FieldType.int)) ∈ XW := xm_2_14 (List.mem_of_getElem? (i := 0) rfl) rfl
theorem xw_2_225 : (Jvm.Cond.methodLink "PushTray$Chances" (64 : Nat) ({ cls := "PushTray$Lays", name := "place", desc := "(II)I" } : Jvm.MethodName)) ∈ XW := xm_2_14 (List.mem_of_getElem? (i := 1) rfl) rfl
theorem xw_2_226 : (Jvm.Cond.constant "PushTray" (190 : Nat) (46656 : Int32)) ∈ XW := xm_2_14 (List.mem_of_getElem? (i := 2) rfl) rfl
theorem xw_2_227 : (Jvm.Cond.methodLink "PushTray" (191 : Nat) ({ cls := "PushTray", name := "greatestDivisor", desc := "(II)I" } : Jvm.MethodName)) ∈ XW := xm_2_14 (List.mem_of_getElem? (i := 3) rfl) rfl
theorem xw_2_228 : (Jvm.Cond.static ({ cls := "PushTray", name := "greatestDivisor", desc := "(II)I" } : Jvm.MethodName)) ∈ XW := xm_2_14 (List.mem_of_getElem? (i := 4) rfl) rfl
theorem xw_2_229 : (Jvm.Cond.code ({ cls := "PushTray", name := "greatestDivisor", desc := "(II)I" } : Jvm.MethodName) prog_1_method_56_code (6 : Nat) (Option.some Jvm.ClassFile.FieldType.int)) ∈ XW := xm_2_14 (List.mem_of_getElem? (i := 5) rfl) rfl
theorem xw_2_230 : (Jvm.Cond.methodLink "PushTrayLaw" (85 : Nat) ({ cls := "PushTray", name := "see", desc := "(III)I" } : Jvm.MethodName)) ∈ XW := xm_2_14 (List.mem_of_getElem? (i := 6) rfl) rfl
theorem xw_2_231 : (Jvm.Cond.instanceMethod ({ cls := "PushTray", name := "see", desc := "(III)I" } : Jvm.MethodName)) ∈ XW := xm_2_14 (List.mem_of_getElem? (i := 7) rfl) rfl
theorem xw_2_232 : (Jvm.Cond.selects "PushTray" ({ cls := "PushTray", name := "see", desc := "(III)I" } : Jvm.MethodName) ({ cls := "PushTray", name := "see", desc := "(III)I" } : Jvm.MethodName)) ∈ XW := xm_2_14 (List.mem_of_getElem? (i := 8) rfl) rfl
theorem xw_2_233 : (Jvm.Cond.code ({ cls := "PushTray", name := "see", desc := "(III)I" } : Jvm.MethodName) prog_1_method_19_code (4 : Nat) (Option.some Jvm.ClassFile.FieldType.int)) ∈ XW := xm_2_14 (List.mem_of_getElem? (i := 9) rfl) rfl
theorem xw_2_234 : (Jvm.Cond.methodLink "PushTray" (205 : Nat) ({ cls := "PushTray$Standing", name := "narrow", desc := "(II)V" } : Jvm.MethodName)) ∈ XW := xm_2_14 (List.mem_of_getElem? (i := 10) rfl) rfl
theorem xw_2_235 : (Jvm.Cond.instanceMethod ({ cls := "PushTray$Standing", name := "narrow", desc := "(II)V" } : Jvm.MethodName)) ∈ XW := xm_2_14 (List.mem_of_getElem? (i := 11) rfl) rfl
theorem xw_2_236 : (Jvm.Cond.selects "PushTray$Standing" ({ cls := "PushTray$Standing", name := "narrow", desc := "(II)V" } : Jvm.MethodName) ({ cls := "PushTray$Standing", name := "narrow", desc := "(II)V" } : Jvm.MethodName)) ∈ XW := xm_2_14 (List.mem_of_getElem? (i := 12) rfl) rfl
theorem xw_2_237 : (Jvm.Cond.code ({ cls := "PushTray$Standing", name := "narrow", desc := "(II)V" } : Jvm.MethodName) prog_6_method_4_code (3 : Nat) (Option.none : Option Jvm.ClassFile.FieldType)) ∈ XW := xm_2_14 (List.mem_of_getElem? (i := 13) rfl) rfl
theorem xw_2_238 : (Jvm.Cond.methodLink "PushTrayLaw" (90 : Nat) ({ cls := "PushTray", name := "forget", desc := "()I" } : Jvm.MethodName)) ∈ XW := xm_2_14 (List.mem_of_getElem? (i := 14) rfl) rfl
theorem xw_2_239 : (Jvm.Cond.instanceMethod ({ cls := "PushTray", name := "forget", desc := "()I" } : Jvm.MethodName)) ∈ XW := xm_2_14 (List.mem_of_getElem? (i := 15) rfl) rfl
theorem xw_3_0 : (Jvm.Cond.selects "PushTray" ({ cls := "PushTray", name := "forget", desc := "()I" } : Jvm.MethodName) ({ cls := "PushTray", name := "forget", desc := "()I" } : Jvm.MethodName)) ∈ XW := xm_3_0 (List.mem_of_getElem? (i := 0) rfl) rfl
theorem xw_3_1 : (Jvm.Cond.code ({ cls := "PushTray", name := "forget", desc := "()I" } : Jvm.MethodName) prog_1_method_20_code (2 : Nat) (Option.some Jvm.ClassFile.FieldType.int)) ∈ XW := xm_3_0 (List.mem_of_getElem? (i := 1) rfl) rfl
theorem xw_3_2 : (Jvm.Cond.methodLink "PushTray" (208 : Nat) ({ cls := "PushTray$Standing", name := "forgetSeen", desc := "()V" } : Jvm.MethodName)) ∈ XW := xm_3_0 (List.mem_of_getElem? (i := 2) rfl) rfl
theorem xw_3_3 : (Jvm.Cond.methodLink "PushTrayLaw" (94 : Nat) ({ cls := "PushTray", name := "runs", desc := "(III)I" } : Jvm.MethodName)) ∈ XW := xm_3_0 (List.mem_of_getElem? (i := 3) rfl) rfl
theorem xw_3_4 : (Jvm.Cond.instanceMethod ({ cls := "PushTray", name := "runs", desc := "(III)I" } : Jvm.MethodName)) ∈ XW := xm_3_0 (List.mem_of_getElem? (i := 4) rfl) rfl
theorem xw_3_5 : (Jvm.Cond.selects "PushTray" ({ cls := "PushTray", name := "runs", desc := "(III)I" } : Jvm.MethodName) ({ cls := "PushTray", name := "runs", desc := "(III)I" } : Jvm.MethodName)) ∈ XW := xm_3_0 (List.mem_of_getElem? (i := 5) rfl) rfl
theorem xw_3_6 : (Jvm.Cond.code ({ cls := "PushTray", name := "runs", desc := "(III)I" } : Jvm.MethodName) prog_1_method_21_code (10 : Nat) (Option.some Jvm.ClassFile.FieldType.int)) ∈ XW := xm_3_0 (List.mem_of_getElem? (i := 6) rfl) rfl
theorem xw_3_7 : (Jvm.Cond.methodLink "PushTray" (211 : Nat) ({ cls := "PushTray$Lays", name := "choices", desc := "(II)I" } : Jvm.MethodName)) ∈ XW := xm_3_0 (List.mem_of_getElem? (i := 7) rfl) rfl
theorem xw_3_8 : (Jvm.Cond.methodLink "PushTray" (214 : Nat) ({ cls := "PushTray", name := "nextSeed", desc := "(I)I" } : Jvm.MethodName)) ∈ XW := xm_3_0 (List.mem_of_getElem? (i := 8) rfl) rfl
theorem xw_3_9 : (Jvm.Cond.static ({ cls := "PushTray", name := "nextSeed", desc := "(I)I" } : Jvm.MethodName)) ∈ XW := xm_3_0 (List.mem_of_getElem? (i := 9) rfl) rfl
theorem xw_3_10 : (Jvm.Cond.code ({ cls := "PushTray", name := "nextSeed", desc := "(I)I" } : Jvm.MethodName) prog_1_method_55_code (1 : Nat) (Option.some Jvm.ClassFile.FieldType.int)) ∈ XW := xm_3_0 (List.mem_of_getElem? (i := 10) rfl) rfl
theorem xw_3_11 : (Jvm.Cond.constantLong "PushTray" (309 : Nat) (1103515245 : Int64)) ∈ XW := xm_3_0 (List.mem_of_getElem? (i := 11) rfl) rfl
theorem xw_3_12 : (Jvm.Cond.constantLong "PushTray" (311 : Nat) (12345 : Int64)) ∈ XW := xm_3_0 (List.mem_of_getElem? (i := 12) rfl) rfl
theorem xw_3_13 : (Jvm.Cond.constantLong "PushTray" (313 : Nat) (2147483648 : Int64)) ∈ XW := xm_3_0 (List.mem_of_getElem? (i := 13) rfl) rfl
theorem xw_3_14 : (Jvm.Cond.constant "PushTray" (217 : Nat) (65536 : Int32)) ∈ XW := xm_3_0 (List.mem_of_getElem? (i := 14) rfl) rfl
theorem xw_3_15 : (Jvm.Cond.methodLink "PushTray" (218 : Nat) ({ cls := "PushTray$Lays", name := "choice", desc := "(III)I" } : Jvm.MethodName)) ∈ XW := xm_3_0 (List.mem_of_getElem? (i := 15) rfl) rfl
theorem xw_3_16 : (Jvm.Cond.instanceMethod ({ cls := "PushTray$Lays", name := "choice", desc := "(III)I" } : Jvm.MethodName)) ∈ XW := xm_3_1 (List.mem_of_getElem? (i := 0) rfl) rfl
theorem xw_3_17 : (Jvm.Cond.selects "PushTray$Lays" ({ cls := "PushTray$Lays", name := "choice", desc := "(III)I" } : Jvm.MethodName) ({ cls := "PushTray$Lays", name := "choice", desc := "(III)I" } : Jvm.MethodName)) ∈ XW := xm_3_1 (List.mem_of_getElem? (i := 1) rfl) rfl
theorem xw_3_18 : (Jvm.Cond.code ({ cls := "PushTray$Lays", name := "choice", desc := "(III)I" } : Jvm.MethodName) prog_4_method_13_code (6 : Nat) (Option.some Jvm.ClassFile.FieldType.int)) ∈ XW := xm_3_1 (List.mem_of_getElem? (i := 2) rfl) rfl
theorem xw_3_19 : (Jvm.Cond.methodLink "PushTray" (221 : Nat) ({ cls := "PushTray", name := "cellsAlike", desc := "(II)I" } : Jvm.MethodName)) ∈ XW := xm_3_1 (List.mem_of_getElem? (i := 3) rfl) rfl
theorem xw_3_21 : (Jvm.Cond.instanceMethod ({ cls := "PushTray", name := "cellsAlike", desc := "(II)I" } : Jvm.MethodName)) ∈ XW := xm_3_1 (List.mem_of_getElem? (i := 5) rfl) rfl
theorem xw_3_22 : (Jvm.Cond.code ({ cls := "PushTray", name := "cellsAlike", desc := "(II)I" } : Jvm.MethodName) prog_1_method_51_code (5 : Nat) (Option.some Jvm.ClassFile.FieldType.int)) ∈ XW := xm_3_1 (List.mem_of_getElem? (i := 6) rfl) rfl
theorem xw_3_23 : (Jvm.Cond.methodLink "PushTrayLaw" (98 : Nat) ({ cls := "PushTray", name := "image", desc := "()I" } : Jvm.MethodName)) ∈ XW := xm_3_1 (List.mem_of_getElem? (i := 7) rfl) rfl
theorem xw_3_24 : (Jvm.Cond.instanceMethod ({ cls := "PushTray", name := "image", desc := "()I" } : Jvm.MethodName)) ∈ XW := xm_3_1 (List.mem_of_getElem? (i := 8) rfl) rfl
theorem xw_3_25 : (Jvm.Cond.selects "PushTray" ({ cls := "PushTray", name := "image", desc := "()I" } : Jvm.MethodName) ({ cls := "PushTray", name := "image", desc := "()I" } : Jvm.MethodName)) ∈ XW := xm_3_1 (List.mem_of_getElem? (i := 9) rfl) rfl
theorem xw_3_26 : (Jvm.Cond.code ({ cls := "PushTray", name := "image", desc := "()I" } : Jvm.MethodName) prog_1_method_22_code (1 : Nat) (Option.some Jvm.ClassFile.FieldType.int)) ∈ XW := xm_3_1 (List.mem_of_getElem? (i := 10) rfl) rfl
theorem xw_3_27 : (Jvm.Cond.methodLink "PushTray" (224 : Nat) ({ cls := "PushTray$Standing", name := "copy", desc := "(LPushTray$Standing;)V" } : Jvm.MethodName)) ∈ XW := xm_3_1 (List.mem_of_getElem? (i := 11) rfl) rfl
theorem xw_3_28 : (Jvm.Cond.instanceMethod ({ cls := "PushTray$Standing", name := "copy", desc := "(LPushTray$Standing;)V" } : Jvm.MethodName)) ∈ XW := xm_3_1 (List.mem_of_getElem? (i := 12) rfl) rfl
theorem xw_3_29 : (Jvm.Cond.selects "PushTray$Standing" ({ cls := "PushTray$Standing", name := "copy", desc := "(LPushTray$Standing;)V" } : Jvm.MethodName) ({ cls := "PushTray$Standing", name := "copy", desc := "(LPushTray$Standing;)V" } : Jvm.MethodName)) ∈ XW := xm_3_1 (List.mem_of_getElem? (i := 13) rfl) rfl
theorem xw_3_30 : (Jvm.Cond.code ({ cls := "PushTray$Standing", name := "copy", desc := "(LPushTray$Standing;)V" } : Jvm.MethodName) prog_6_method_6_code (2 : Nat) (Option.none : Option Jvm.ClassFile.FieldType)) ∈ XW := xm_3_1 (List.mem_of_getElem? (i := 14) rfl) rfl
theorem xw_3_31 : (Jvm.Cond.methodLink "PushTray$Standing" (47 : Nat) ({ cls := "PushTray$Standing", name := "start", desc := "(III)V" } : Jvm.MethodName)) ∈ XW := xm_3_1 (List.mem_of_getElem? (i := 15) rfl) rfl
theorem xw_3_32 : (Jvm.Cond.methodLink "PushTray$Standing" (51 : Nat) ({ cls := "java/lang/System", name := "arraycopy", desc := "(Ljava/lang/Object;ILjava/lang/Object;II)V" } : Jvm.MethodName)) ∈ XW := xm_3_2 (List.mem_of_getElem? (i := 0) rfl) rfl
theorem xw_3_33 : (Jvm.Cond.static ({ cls := "java/lang/System", name := "arraycopy", desc := "(Ljava/lang/Object;ILjava/lang/Object;II)V" } : Jvm.MethodName)) ∈ XW := xm_3_2 (List.mem_of_getElem? (i := 1) rfl) rfl
theorem xw_3_34 : (Jvm.Cond.native ({ cls := "java/lang/System", name := "arraycopy", desc := "(Ljava/lang/Object;ILjava/lang/Object;II)V" } : Jvm.MethodName)) ∈ XW := xm_3_2 (List.mem_of_getElem? (i := 2) rfl) rfl
theorem xw_3_35 : (Jvm.Cond.methodLink "PushTrayLaw" (102 : Nat) ({ cls := "PushTray", name := "restore", desc := "()I" } : Jvm.MethodName)) ∈ XW := xm_3_2 (List.mem_of_getElem? (i := 3) rfl) rfl
theorem xw_3_36 : (Jvm.Cond.instanceMethod ({ cls := "PushTray", name := "restore", desc := "()I" } : Jvm.MethodName)) ∈ XW := xm_3_2 (List.mem_of_getElem? (i := 4) rfl) rfl
theorem xw_3_37 : (Jvm.Cond.selects "PushTray" ({ cls := "PushTray", name := "restore", desc := "()I" } : Jvm.MethodName) ({ cls := "PushTray", name := "restore", desc := "()I" } : Jvm.MethodName)) ∈ XW := xm_3_2 (List.mem_of_getElem? (i := 5) rfl) rfl
theorem xw_3_38 : (Jvm.Cond.code ({ cls := "PushTray", name := "restore", desc := "()I" } : Jvm.MethodName) prog_1_method_23_code (1 : Nat) (Option.some Jvm.ClassFile.FieldType.int)) ∈ XW := xm_3_2 (List.mem_of_getElem? (i := 6) rfl) rfl
theorem xw_3_39 : (Jvm.Cond.methodLink "PushTrayLaw" (106 : Nat) ({ cls := "PushTray", name := "count", desc := "(I)I" } : Jvm.MethodName)) ∈ XW := xm_3_2 (List.mem_of_getElem? (i := 7) rfl) rfl
theorem xw_3_40 : (Jvm.Cond.instanceMethod ({ cls := "PushTray", name := "count", desc := "(I)I" } : Jvm.MethodName)) ∈ XW := xm_3_2 (List.mem_of_getElem? (i := 8) rfl) rfl
theorem xw_3_41 : (Jvm.Cond.selects "PushTray" ({ cls := "PushTray", name := "count", desc := "(I)I" } : Jvm.MethodName) ({ cls := "PushTray", name := "count", desc := "(I)I" } : Jvm.MethodName)) ∈ XW := xm_3_2 (List.mem_of_getElem? (i := 9) rfl) rfl
theorem xw_3_42 : (Jvm.Cond.code ({ cls := "PushTray", name := "count", desc := "(I)I" } : Jvm.MethodName) prog_1_method_24_code (2 : Nat) (Option.some Jvm.ClassFile.FieldType.int)) ∈ XW := xm_3_2 (List.mem_of_getElem? (i := 10) rfl) rfl
theorem xw_3_43 : (Jvm.Cond.methodLink "PushTrayLaw" (110 : Nat) ({ cls := "PushTray", name := "digest", desc := "()J" } : Jvm.MethodName)) ∈ XW := xm_3_2 (List.mem_of_getElem? (i := 11) rfl) rfl
theorem xw_3_44 : (Jvm.Cond.instanceMethod ({ cls := "PushTray", name := "digest", desc := "()J" } : Jvm.MethodName)) ∈ XW := xm_3_2 (List.mem_of_getElem? (i := 12) rfl) rfl
theorem xw_3_45 : (Jvm.Cond.selects "PushTray" ({ cls := "PushTray", name := "digest", desc := "()J" } : Jvm.MethodName) ({ cls := "PushTray", name := "digest", desc := "()J" } : Jvm.MethodName)) ∈ XW := xm_3_2 (List.mem_of_getElem? (i := 13) rfl) rfl
theorem xw_3_46 : (Jvm.Cond.code ({ cls := "PushTray", name := "digest", desc := "()J" } : Jvm.MethodName) prog_1_method_25_code (4 : Nat) (Option.some Jvm.ClassFile.FieldType.long)) ∈ XW := xm_3_2 (List.mem_of_getElem? (i := 14) rfl) rfl
theorem xw_3_47 : (Jvm.Cond.constantLong "PushTray" (228 : Nat) (1291 : Int64)) ∈ XW := xm_3_2 (List.mem_of_getElem? (i := 15) rfl) rfl
theorem xw_3_48 : (Jvm.Cond.methodLink "PushTray" (230 : Nat) ({ cls := "PushTray", name := "mixTiles", desc := "(J)J" } : Jvm.MethodName)) ∈ XW := xm_3_3 (List.mem_of_getElem? (i := 0) rfl) rfl
theorem xw_3_50 : (Jvm.Cond.instanceMethod ({ cls := "PushTray", name := "mixTiles", desc := "(J)J" } : Jvm.MethodName)) ∈ XW := xm_3_3 (List.mem_of_getElem? (i := 2) rfl) rfl
theorem xw_3_51 : (Jvm.Cond.code ({ cls := "PushTray", name := "mixTiles", desc := "(J)J" } : Jvm.MethodName) prog_1_method_26_code (7 : Nat) (Option.some Jvm.ClassFile.FieldType.long)) ∈ XW := xm_3_3 (List.mem_of_getElem? (i := 3) rfl) rfl
theorem xw_3_52 : (Jvm.Cond.methodLink "PushTray" (247 : Nat) ({ cls := "PushTray", name := "tile", desc := "(II)I" } : Jvm.MethodName)) ∈ XW := xm_3_3 (List.mem_of_getElem? (i := 4) rfl) rfl
theorem xw_3_53 : (Jvm.Cond.methodLink "PushTray" (240 : Nat) ({ cls := "PushTray", name := "mix", desc := "(JJ)J" } : Jvm.MethodName)) ∈ XW := xm_3_3 (List.mem_of_getElem? (i := 5) rfl) rfl
theorem xw_3_54 : (Jvm.Cond.static ({ cls := "PushTray", name := "mix", desc := "(JJ)J" } : Jvm.MethodName)) ∈ XW := xm_3_3 (List.mem_of_getElem? (i := 6) rfl) rfl
theorem xw_3_55 : (Jvm.Cond.code ({ cls := "PushTray", name := "mix", desc := "(JJ)J" } : Jvm.MethodName) prog_1_method_29_code (4 : Nat) (Option.some Jvm.ClassFile.FieldType.long)) ∈ XW := xm_3_3 (List.mem_of_getElem? (i := 7) rfl) rfl
theorem xw_3_56 : (Jvm.Cond.constantLong "PushTray" (269 : Nat) (31 : Int64)) ∈ XW := xm_3_3 (List.mem_of_getElem? (i := 8) rfl) rfl
theorem xw_3_57 : (Jvm.Cond.methodLink "PushTray" (250 : Nat) ({ cls := "PushTray", name := "home", desc := "(II)I" } : Jvm.MethodName)) ∈ XW := xm_3_3 (List.mem_of_getElem? (i := 9) rfl) rfl
theorem xw_3_58 : (Jvm.Cond.methodLink "PushTray" (253 : Nat) ({ cls := "PushTray", name := "odds", desc := "(IIII)I" } : Jvm.MethodName)) ∈ XW := xm_3_3 (List.mem_of_getElem? (i := 10) rfl) rfl
theorem xw_3_59 : (Jvm.Cond.methodLink "PushTray" (234 : Nat) ({ cls := "PushTray", name := "mixCells", desc := "(J)J" } : Jvm.MethodName)) ∈ XW := xm_3_3 (List.mem_of_getElem? (i := 11) rfl) rfl
theorem xw_3_61 : (Jvm.Cond.instanceMethod ({ cls := "PushTray", name := "mixCells", desc := "(J)J" } : Jvm.MethodName)) ∈ XW := xm_3_3 (List.mem_of_getElem? (i := 13) rfl) rfl
theorem xw_3_62 : (Jvm.Cond.code ({ cls := "PushTray", name := "mixCells", desc := "(J)J" } : Jvm.MethodName) prog_1_method_27_code (7 : Nat) (Option.some Jvm.ClassFile.FieldType.long)) ∈ XW := xm_3_3 (List.mem_of_getElem? (i := 14) rfl) rfl
theorem xw_3_63 : (Jvm.Cond.methodLink "PushTray" (257 : Nat) ({ cls := "PushTray", name := "cell", desc := "(II)I" } : Jvm.MethodName)) ∈ XW := xm_3_3 (List.mem_of_getElem? (i := 15) rfl) rfl
theorem xw_3_64 : (Jvm.Cond.methodLink "PushTray" (237 : Nat) ({ cls := "PushTray", name := "mixCosts", desc := "(J)J" } : Jvm.MethodName)) ∈ XW := xm_3_4 (List.mem_of_getElem? (i := 0) rfl) rfl
theorem xw_3_66 : (Jvm.Cond.instanceMethod ({ cls := "PushTray", name := "mixCosts", desc := "(J)J" } : Jvm.MethodName)) ∈ XW := xm_3_4 (List.mem_of_getElem? (i := 2) rfl) rfl
theorem xw_3_67 : (Jvm.Cond.code ({ cls := "PushTray", name := "mixCosts", desc := "(J)J" } : Jvm.MethodName) prog_1_method_28_code (6 : Nat) (Option.some Jvm.ClassFile.FieldType.long)) ∈ XW := xm_3_4 (List.mem_of_getElem? (i := 3) rfl) rfl
theorem xw_3_68 : (Jvm.Cond.methodLink "PushTray" (260 : Nat) ({ cls := "PushTray", name := "least", desc := "(I)I" } : Jvm.MethodName)) ∈ XW := xm_3_4 (List.mem_of_getElem? (i := 4) rfl) rfl
theorem xw_3_69 : (Jvm.Cond.methodLink "PushTray" (263 : Nat) ({ cls := "PushTray", name := "reach", desc := "(I)I" } : Jvm.MethodName)) ∈ XW := xm_3_4 (List.mem_of_getElem? (i := 5) rfl) rfl
theorem xw_3_70 : (Jvm.Cond.methodLink "PushTray" (266 : Nat) ({ cls := "PushTray", name := "swaps", desc := "()I" } : Jvm.MethodName)) ∈ XW := xm_3_4 (List.mem_of_getElem? (i := 6) rfl) rfl
theorem xw_3_71 : (Jvm.Cond.methodLink "PushTray" (244 : Nat) ({ cls := "PushTray", name := "count", desc := "(I)I" } : Jvm.MethodName)) ∈ XW := xm_3_4 (List.mem_of_getElem? (i := 7) rfl) rfl
theorem xw_3_72 : (Jvm.Cond.classLink "PushTrayLaw" (10 : Nat) "PushTrayModel") ∈ XW := xm_3_4 (List.mem_of_getElem? (i := 8) rfl) rfl
theorem xw_3_73 : (Jvm.Cond.instantiable "PushTrayModel" (30 : Nat)) ∈ XW := xm_3_4 (List.mem_of_getElem? (i := 9) rfl) rfl
theorem xw_3_74 : (Jvm.Cond.methodLink "PushTrayLaw" (12 : Nat) ({ cls := "PushTrayModel", name := "<init>", desc := "()V" } : Jvm.MethodName)) ∈ XW := xm_3_4 (List.mem_of_getElem? (i := 10) rfl) rfl
theorem xw_3_75 : (Jvm.Cond.instanceMethod ({ cls := "PushTrayModel", name := "<init>", desc := "()V" } : Jvm.MethodName)) ∈ XW := xm_3_4 (List.mem_of_getElem? (i := 11) rfl) rfl
theorem xw_3_76 : (Jvm.Cond.code ({ cls := "PushTrayModel", name := "<init>", desc := "()V" } : Jvm.MethodName) prog_8_method_1_code (1 : Nat) (Option.none : Option Jvm.ClassFile.FieldType)) ∈ XW := xm_3_4 (List.mem_of_getElem? (i := 12) rfl) rfl
theorem xw_3_77 : (Jvm.Cond.methodLink "PushTrayModel" (1 : Nat) ({ cls := "java/lang/Object", name := "<init>", desc := "()V" } : Jvm.MethodName)) ∈ XW := xm_3_4 (List.mem_of_getElem? (i := 13) rfl) rfl
theorem xw_3_78 : (Jvm.Cond.fieldLink "PushTrayModel" (95 : Nat) "PushTrayModel" "trays" "I") ∈ XW := xm_3_4 (List.mem_of_getElem? (i := 14) rfl) rfl
theorem xw_3_79 : (Jvm.Cond.fieldLink "PushTrayModel" (83 : Nat) "PushTrayModel" "lies" "I") ∈ XW := xm_3_4 (List.mem_of_getElem? (i := 15) rfl) rfl
theorem xw_3_80 : (Jvm.Cond.fieldLink "PushTrayModel" (86 : Nat) "PushTrayModel" "goal" "I") ∈ XW := xm_3_5 (List.mem_of_getElem? (i := 0) rfl) rfl
theorem xw_3_81 : (Jvm.Cond.fieldLink "PushTrayModel" (7 : Nat) "PushTrayModel" "kindOf" "[I") ∈ XW := xm_3_5 (List.mem_of_getElem? (i := 1) rfl) rfl
theorem xw_3_82 : (Jvm.Cond.fieldLink "PushTrayModel" (89 : Nat) "PushTrayModel" "pushes" "I") ∈ XW := xm_3_5 (List.mem_of_getElem? (i := 2) rfl) rfl
theorem xw_3_83 : (Jvm.Cond.fieldLink "PushTrayModel" (92 : Nat) "PushTrayModel" "costs" "I") ∈ XW := xm_3_5 (List.mem_of_getElem? (i := 3) rfl) rfl
theorem xw_3_84 : (Jvm.Cond.fieldLink "PushTrayModel" (181 : Nat) "PushTrayModel" "asks" "I") ∈ XW := xm_3_5 (List.mem_of_getElem? (i := 4) rfl) rfl
theorem xw_3_85 : (Jvm.Cond.fieldLink "PushTrayModel" (98 : Nat) "PushTrayModel" "seen" "I") ∈ XW := xm_3_5 (List.mem_of_getElem? (i := 5) rfl) rfl
theorem xw_3_86 : (Jvm.Cond.fieldLink "PushTrayModel" (13 : Nat) "PushTrayModel" "seenTile" "[I") ∈ XW := xm_3_5 (List.mem_of_getElem? (i := 6) rfl) rfl
theorem xw_3_87 : (Jvm.Cond.fieldLink "PushTrayModel" (16 : Nat) "PushTrayModel" "seenWay" "[I") ∈ XW := xm_3_5 (List.mem_of_getElem? (i := 7) rfl) rfl
theorem xw_3_88 : (Jvm.Cond.fieldLink "PushTrayModel" (19 : Nat) "PushTrayModel" "seenCost" "[I") ∈ XW := xm_3_5 (List.mem_of_getElem? (i := 8) rfl) rfl
theorem xw_3_89 : (Jvm.Cond.fieldLink "PushTrayModel" (51 : Nat) "PushTrayModel" "pageLength" "I") ∈ XW := xm_3_5 (List.mem_of_getElem? (i := 9) rfl) rfl
theorem xw_3_90 : (Jvm.Cond.fieldLink "PushTrayModel" (22 : Nat) "PushTrayModel" "page" "[B") ∈ XW := xm_3_5 (List.mem_of_getElem? (i := 10) rfl) rfl
theorem xw_3_91 : (Jvm.Cond.fieldLink "PushTrayModel" (66 : Nat) "PushTrayModel" "isWhole" "Z") ∈ XW := xm_3_5 (List.mem_of_getElem? (i := 11) rfl) rfl
theorem xw_3_92 : (Jvm.Cond.fieldLink "PushTrayModel" (26 : Nat) "PushTrayModel" "costTo" "[I") ∈ XW := xm_3_5 (List.mem_of_getElem? (i := 12) rfl) rfl
theorem xw_3_93 : (Jvm.Cond.fieldLink "PushTrayModel" (29 : Nat) "PushTrayModel" "partsOf" "[I") ∈ XW := xm_3_5 (List.mem_of_getElem? (i := 13) rfl) rfl
theorem xw_3_94 : (Jvm.Cond.fieldLink "PushTrayModel" (32 : Nat) "PushTrayModel" "partsNext" "[I") ∈ XW := xm_3_5 (List.mem_of_getElem? (i := 14) rfl) rfl
theorem xw_3_95 : (Jvm.Cond.fieldLink "PushTrayModel" (209 : Nat) "PushTrayModel" "seedNow" "J") ∈ XW := xm_3_5 (List.mem_of_getElem? (i := 15) rfl) rfl
theorem xw_3_96 : (Jvm.Cond.fieldLink "PushTrayModel" (231 : Nat) "PushTrayModel" "isKept" "Z") ∈ XW := xm_3_6 (List.mem_of_getElem? (i := 0) rfl) rfl
theorem xw_3_97 : (Jvm.Cond.fieldLink "PushTrayModel" (234 : Nat) "PushTrayModel" "keptTray" "I") ∈ XW := xm_3_6 (List.mem_of_getElem? (i := 1) rfl) rfl
theorem xw_3_98 : (Jvm.Cond.fieldLink "PushTrayModel" (237 : Nat) "PushTrayModel" "keptLies" "I") ∈ XW := xm_3_6 (List.mem_of_getElem? (i := 2) rfl) rfl
theorem xw_3_99 : (Jvm.Cond.fieldLink "PushTrayModel" (240 : Nat) "PushTrayModel" "keptGoal" "I") ∈ XW := xm_3_6 (List.mem_of_getElem? (i := 3) rfl) rfl
theorem xw_3_100 : (Jvm.Cond.fieldLink "PushTrayModel" (243 : Nat) "PushTrayModel" "keptPushes" "I") ∈ XW := xm_3_6 (List.mem_of_getElem? (i := 4) rfl) rfl
theorem xw_3_101 : (Jvm.Cond.fieldLink "PushTrayModel" (246 : Nat) "PushTrayModel" "keptCosts" "I") ∈ XW := xm_3_6 (List.mem_of_getElem? (i := 5) rfl) rfl
theorem xw_3_102 : (Jvm.Cond.fieldLink "PushTrayModel" (249 : Nat) "PushTrayModel" "keptSeen" "I") ∈ XW := xm_3_6 (List.mem_of_getElem? (i := 6) rfl) rfl
theorem xw_3_103 : (Jvm.Cond.fieldLink "PushTrayModel" (35 : Nat) "PushTrayModel" "keptKind" "[I") ∈ XW := xm_3_6 (List.mem_of_getElem? (i := 7) rfl) rfl
theorem xw_3_104 : (Jvm.Cond.fieldLink "PushTrayModel" (38 : Nat) "PushTrayModel" "keptTile" "[I") ∈ XW := xm_3_6 (List.mem_of_getElem? (i := 8) rfl) rfl
theorem xw_3_105 : (Jvm.Cond.fieldLink "PushTrayModel" (41 : Nat) "PushTrayModel" "keptWay" "[I") ∈ XW := xm_3_6 (List.mem_of_getElem? (i := 9) rfl) rfl
theorem xw_3_106 : (Jvm.Cond.fieldLink "PushTrayModel" (44 : Nat) "PushTrayModel" "keptCost" "[I") ∈ XW := xm_3_6 (List.mem_of_getElem? (i := 10) rfl) rfl
theorem xw_3_107 : (Jvm.Cond.fieldLink "PushTrayModel" (260 : Nat) "PushTrayModel" "h" "J") ∈ XW := xm_3_6 (List.mem_of_getElem? (i := 11) rfl) rfl
theorem xw_3_108 : (Jvm.Cond.lays "PushTrayModel" "PushTrayModel" "trays" "I") ∈ XW := xm_3_6 (List.mem_of_getElem? (i := 12) rfl) rfl
theorem xw_3_110 : (Jvm.Cond.lays "PushTrayModel" "PushTrayModel" "lies" "I") ∈ XW := xm_3_6 (List.mem_of_getElem? (i := 14) rfl) rfl
theorem xw_3_112 : (Jvm.Cond.lays "PushTrayModel" "PushTrayModel" "goal" "I") ∈ XW := xm_3_7 (List.mem_of_getElem? (i := 0) rfl) rfl
theorem xw_3_114 : (Jvm.Cond.laysFinal "PushTrayModel" "PushTrayModel" "kindOf" "[I") ∈ XW := xm_3_7 (List.mem_of_getElem? (i := 2) rfl) rfl
theorem xw_3_116 : (Jvm.Cond.lays "PushTrayModel" "PushTrayModel" "pushes" "I") ∈ XW := xm_3_7 (List.mem_of_getElem? (i := 4) rfl) rfl
theorem xw_3_118 : (Jvm.Cond.lays "PushTrayModel" "PushTrayModel" "costs" "I") ∈ XW := xm_3_7 (List.mem_of_getElem? (i := 6) rfl) rfl
theorem xw_3_120 : (Jvm.Cond.lays "PushTrayModel" "PushTrayModel" "asks" "I") ∈ XW := xm_3_7 (List.mem_of_getElem? (i := 8) rfl) rfl
theorem xw_3_122 : (Jvm.Cond.lays "PushTrayModel" "PushTrayModel" "seen" "I") ∈ XW := xm_3_7 (List.mem_of_getElem? (i := 10) rfl) rfl
theorem xw_3_124 : (Jvm.Cond.laysFinal "PushTrayModel" "PushTrayModel" "seenTile" "[I") ∈ XW := xm_3_7 (List.mem_of_getElem? (i := 12) rfl) rfl
theorem xw_3_126 : (Jvm.Cond.laysFinal "PushTrayModel" "PushTrayModel" "seenWay" "[I") ∈ XW := xm_3_7 (List.mem_of_getElem? (i := 14) rfl) rfl
theorem xw_3_128 : (Jvm.Cond.laysFinal "PushTrayModel" "PushTrayModel" "seenCost" "[I") ∈ XW := xm_3_8 (List.mem_of_getElem? (i := 0) rfl) rfl
theorem xw_3_130 : (Jvm.Cond.lays "PushTrayModel" "PushTrayModel" "pageLength" "I") ∈ XW := xm_3_8 (List.mem_of_getElem? (i := 2) rfl) rfl
theorem xw_3_132 : (Jvm.Cond.laysFinal "PushTrayModel" "PushTrayModel" "page" "[B") ∈ XW := xm_3_8 (List.mem_of_getElem? (i := 4) rfl) rfl
theorem xw_3_134 : (Jvm.Cond.lays "PushTrayModel" "PushTrayModel" "isWhole" "Z") ∈ XW := xm_3_8 (List.mem_of_getElem? (i := 6) rfl) rfl
theorem xw_3_136 : (Jvm.Cond.laysFinal "PushTrayModel" "PushTrayModel" "costTo" "[I") ∈ XW := xm_3_8 (List.mem_of_getElem? (i := 8) rfl) rfl
theorem xw_3_138 : (Jvm.Cond.laysFinal "PushTrayModel" "PushTrayModel" "partsOf" "[I") ∈ XW := xm_3_8 (List.mem_of_getElem? (i := 10) rfl) rfl
theorem xw_3_140 : (Jvm.Cond.laysFinal "PushTrayModel" "PushTrayModel" "partsNext" "[I") ∈ XW := xm_3_8 (List.mem_of_getElem? (i := 12) rfl) rfl
theorem xw_3_142 : (Jvm.Cond.lays "PushTrayModel" "PushTrayModel" "seedNow" "J") ∈ XW := xm_3_8 (List.mem_of_getElem? (i := 14) rfl) rfl
theorem xw_3_144 : (Jvm.Cond.lays "PushTrayModel" "PushTrayModel" "isKept" "Z") ∈ XW := xm_3_9 (List.mem_of_getElem? (i := 0) rfl) rfl
theorem xw_3_146 : (Jvm.Cond.lays "PushTrayModel" "PushTrayModel" "keptTray" "I") ∈ XW := xm_3_9 (List.mem_of_getElem? (i := 2) rfl) rfl
theorem xw_3_148 : (Jvm.Cond.lays "PushTrayModel" "PushTrayModel" "keptLies" "I") ∈ XW := xm_3_9 (List.mem_of_getElem? (i := 4) rfl) rfl
theorem xw_3_150 : (Jvm.Cond.lays "PushTrayModel" "PushTrayModel" "keptGoal" "I") ∈ XW := xm_3_9 (List.mem_of_getElem? (i := 6) rfl) rfl
theorem xw_3_152 : (Jvm.Cond.lays "PushTrayModel" "PushTrayModel" "keptPushes" "I") ∈ XW := xm_3_9 (List.mem_of_getElem? (i := 8) rfl) rfl
theorem xw_3_154 : (Jvm.Cond.lays "PushTrayModel" "PushTrayModel" "keptCosts" "I") ∈ XW := xm_3_9 (List.mem_of_getElem? (i := 10) rfl) rfl
theorem xw_3_156 : (Jvm.Cond.lays "PushTrayModel" "PushTrayModel" "keptSeen" "I") ∈ XW := xm_3_9 (List.mem_of_getElem? (i := 12) rfl) rfl
theorem xw_3_158 : (Jvm.Cond.laysFinal "PushTrayModel" "PushTrayModel" "keptKind" "[I") ∈ XW := xm_3_9 (List.mem_of_getElem? (i := 14) rfl) rfl
theorem xw_3_160 : (Jvm.Cond.laysFinal "PushTrayModel" "PushTrayModel" "keptTile" "[I") ∈ XW := xm_3_10 (List.mem_of_getElem? (i := 0) rfl) rfl
theorem xw_3_162 : (Jvm.Cond.laysFinal "PushTrayModel" "PushTrayModel" "keptWay" "[I") ∈ XW := xm_3_10 (List.mem_of_getElem? (i := 2) rfl) rfl
theorem xw_3_164 : (Jvm.Cond.laysFinal "PushTrayModel" "PushTrayModel" "keptCost" "[I") ∈ XW := xm_3_10 (List.mem_of_getElem? (i := 4) rfl) rfl
theorem xw_3_166 : (Jvm.Cond.lays "PushTrayModel" "PushTrayModel" "h" "J") ∈ XW := xm_3_10 (List.mem_of_getElem? (i := 6) rfl) rfl
theorem xw_3_169 : (Jvm.Cond.arrayClass Jvm.ClassFile.FieldType.byte) ∈ XW := xm_3_10 (List.mem_of_getElem? (i := 9) rfl) rfl
theorem xw_3_170 : (Jvm.Cond.methodLink "PushTrayLaw" (17 : Nat) ({ cls := "PushTrayModel", name := "letter", desc := "(I)I" } : Jvm.MethodName)) ∈ XW := xm_3_10 (List.mem_of_getElem? (i := 10) rfl) rfl
theorem xw_3_171 : (Jvm.Cond.instanceMethod ({ cls := "PushTrayModel", name := "letter", desc := "(I)I" } : Jvm.MethodName)) ∈ XW := xm_3_10 (List.mem_of_getElem? (i := 11) rfl) rfl
theorem xw_3_172 : (Jvm.Cond.selects "PushTrayModel" ({ cls := "PushTrayModel", name := "letter", desc := "(I)I" } : Jvm.MethodName) ({ cls := "PushTrayModel", name := "letter", desc := "(I)I" } : Jvm.MethodName)) ∈ XW := xm_3_10 (List.mem_of_getElem? (i := 12) rfl) rfl
theorem xw_3_173 : (Jvm.Cond.code ({ cls := "PushTrayModel", name := "letter", desc := "(I)I" } : Jvm.MethodName) prog_8_method_7_code (2 : Nat) (Option.some Jvm.ClassFile.FieldType.int)) ∈ XW := xm_3_10 (List.mem_of_getElem? (i := 13) rfl) rfl
theorem xw_3_174 : (Jvm.Cond.methodLink "PushTrayModel" (47 : Nat) ({ cls := "PushTrayModel", name := "within", desc := "(III)Z" } : Jvm.MethodName)) ∈ XW := xm_3_10 (List.mem_of_getElem? (i := 14) rfl) rfl
theorem xw_3_175 : (Jvm.Cond.static ({ cls := "PushTrayModel", name := "within", desc := "(III)Z" } : Jvm.MethodName)) ∈ XW := xm_3_10 (List.mem_of_getElem? (i := 15) rfl) rfl
theorem xw_3_176 : (Jvm.Cond.code ({ cls := "PushTrayModel", name := "within", desc := "(III)Z" } : Jvm.MethodName) prog_8_method_3_code (3 : Nat) (Option.some Jvm.ClassFile.FieldType.boolean)) ∈ XW := xm_3_11 (List.mem_of_getElem? (i := 0) rfl) rfl
theorem xw_3_177 : (Jvm.Cond.methodLink "PushTrayLaw" (22 : Nat) ({ cls := "PushTrayModel", name := "blank", desc := "()I" } : Jvm.MethodName)) ∈ XW := xm_3_11 (List.mem_of_getElem? (i := 1) rfl) rfl
theorem xw_3_178 : (Jvm.Cond.instanceMethod ({ cls := "PushTrayModel", name := "blank", desc := "()I" } : Jvm.MethodName)) ∈ XW := xm_3_11 (List.mem_of_getElem? (i := 2) rfl) rfl
theorem xw_3_179 : (Jvm.Cond.selects "PushTrayModel" ({ cls := "PushTrayModel", name := "blank", desc := "()I" } : Jvm.MethodName) ({ cls := "PushTrayModel", name := "blank", desc := "()I" } : Jvm.MethodName)) ∈ XW := xm_3_11 (List.mem_of_getElem? (i := 3) rfl) rfl
theorem xw_3_180 : (Jvm.Cond.code ({ cls := "PushTrayModel", name := "blank", desc := "()I" } : Jvm.MethodName) prog_8_method_8_code (2 : Nat) (Option.some Jvm.ClassFile.FieldType.int)) ∈ XW := xm_3_11 (List.mem_of_getElem? (i := 4) rfl) rfl
theorem xw_3_181 : (Jvm.Cond.methodLink "PushTrayLaw" (26 : Nat) ({ cls := "PushTrayModel", name := "fault", desc := "()I" } : Jvm.MethodName)) ∈ XW := xm_3_11 (List.mem_of_getElem? (i := 5) rfl) rfl
theorem xw_3_182 : (Jvm.Cond.instanceMethod ({ cls := "PushTrayModel", name := "fault", desc := "()I" } : Jvm.MethodName)) ∈ XW := xm_3_11 (List.mem_of_getElem? (i := 6) rfl) rfl
theorem xw_3_183 : (Jvm.Cond.selects "PushTrayModel" ({ cls := "PushTrayModel", name := "fault", desc := "()I" } : Jvm.MethodName) ({ cls := "PushTrayModel", name := "fault", desc := "()I" } : Jvm.MethodName)) ∈ XW := xm_3_11 (List.mem_of_getElem? (i := 7) rfl) rfl
theorem xw_3_184 : (Jvm.Cond.code ({ cls := "PushTrayModel", name := "fault", desc := "()I" } : Jvm.MethodName) prog_8_method_14_code (1 : Nat) (Option.some Jvm.ClassFile.FieldType.int)) ∈ XW := xm_3_11 (List.mem_of_getElem? (i := 8) rfl) rfl
theorem xw_3_185 : (Jvm.Cond.methodLink "PushTrayModel" (76 : Nat) ({ cls := "PushTrayModel", name := "read", desc := "()I" } : Jvm.MethodName)) ∈ XW := xm_3_11 (List.mem_of_getElem? (i := 9) rfl) rfl
theorem xw_3_187 : (Jvm.Cond.instanceMethod ({ cls := "PushTrayModel", name := "read", desc := "()I" } : Jvm.MethodName)) ∈ XW := xm_3_11 (List.mem_of_getElem? (i := 11) rfl) rfl
theorem xw_3_188 : (Jvm.Cond.code ({ cls := "PushTrayModel", name := "read", desc := "()I" } : Jvm.MethodName) prog_8_method_13_code (2 : Nat) (Option.some Jvm.ClassFile.FieldType.int)) ∈ XW := xm_3_11 (List.mem_of_getElem? (i := 12) rfl) rfl
theorem xw_3_189 : (Jvm.Cond.methodLink "PushTrayModel" (70 : Nat) ({ cls := "PushTrayModel", name := "readCells", desc := "(I)I" } : Jvm.MethodName)) ∈ XW := xm_3_11 (List.mem_of_getElem? (i := 13) rfl) rfl
theorem xw_3_191 : (Jvm.Cond.instanceMethod ({ cls := "PushTrayModel", name := "readCells", desc := "(I)I" } : Jvm.MethodName)) ∈ XW := xm_3_11 (List.mem_of_getElem? (i := 15) rfl) rfl
theorem xw_3_192 : (Jvm.Cond.code ({ cls := "PushTrayModel", name := "readCells", desc := "(I)I" } : Jvm.MethodName) prog_8_method_12_code (5 : Nat) (Option.some Jvm.ClassFile.FieldType.int)) ∈ XW := xm_3_12 (List.mem_of_getElem? (i := 0) rfl) rfl
theorem xw_3_193 : (Jvm.Cond.methodLink "PushTrayModel" (59 : Nat) ({ cls := "PushTrayModel", name := "signAt", desc := "(I)I" } : Jvm.MethodName)) ∈ XW := xm_3_12 (List.mem_of_getElem? (i := 1) rfl) rfl
theorem xw_3_195 : (Jvm.Cond.instanceMethod ({ cls := "PushTrayModel", name := "signAt", desc := "(I)I" } : Jvm.MethodName)) ∈ XW := xm_3_12 (List.mem_of_getElem? (i := 3) rfl) rfl
theorem xw_3_196 : (Jvm.Cond.code ({ cls := "PushTrayModel", name := "signAt", desc := "(I)I" } : Jvm.MethodName) prog_8_method_11_code (3 : Nat) (Option.some Jvm.ClassFile.FieldType.int)) ∈ XW := xm_3_12 (List.mem_of_getElem? (i := 4) rfl) rfl
theorem xw_3_197 : (Jvm.Cond.methodLink "PushTrayModel" (55 : Nat) ({ cls := "PushTrayModel", name := "at", desc := "(I)I" } : Jvm.MethodName)) ∈ XW := xm_3_12 (List.mem_of_getElem? (i := 5) rfl) rfl
theorem xw_3_199 : (Jvm.Cond.instanceMethod ({ cls := "PushTrayModel", name := "at", desc := "(I)I" } : Jvm.MethodName)) ∈ XW := xm_3_12 (List.mem_of_getElem? (i := 7) rfl) rfl
theorem xw_3_200 : (Jvm.Cond.code ({ cls := "PushTrayModel", name := "at", desc := "(I)I" } : Jvm.MethodName) prog_8_method_10_code (2 : Nat) (Option.some Jvm.ClassFile.FieldType.int)) ∈ XW := xm_3_12 (List.mem_of_getElem? (i := 8) rfl) rfl
theorem xw_3_201 : (Jvm.Cond.methodLink "PushTrayModel" (62 : Nat) ({ cls := "PushTrayModel", name := "isIn", desc := "(II)Z" } : Jvm.MethodName)) ∈ XW := xm_3_12 (List.mem_of_getElem? (i := 9) rfl) rfl
theorem xw_3_202 : (Jvm.Cond.static ({ cls := "PushTrayModel", name := "isIn", desc := "(II)Z" } : Jvm.MethodName)) ∈ XW := xm_3_12 (List.mem_of_getElem? (i := 10) rfl) rfl
theorem xw_3_203 : (Jvm.Cond.code ({ cls := "PushTrayModel", name := "isIn", desc := "(II)Z" } : Jvm.MethodName) prog_8_method_4_code (2 : Nat) (Option.some Jvm.ClassFile.FieldType.boolean)) ∈ XW := xm_3_12 (List.mem_of_getElem? (i := 11) rfl) rfl
theorem xw_3_204 : (Jvm.Cond.methodLink "PushTrayModel" (73 : Nat) ({ cls := "PushTrayModel", name := "kindBy", desc := "(I)I" } : Jvm.MethodName)) ∈ XW := xm_3_12 (List.mem_of_getElem? (i := 12) rfl) rfl
theorem xw_3_205 : (Jvm.Cond.static ({ cls := "PushTrayModel", name := "kindBy", desc := "(I)I" } : Jvm.MethodName)) ∈ XW := xm_3_12 (List.mem_of_getElem? (i := 13) rfl) rfl
theorem xw_3_206 : (Jvm.Cond.code ({ cls := "PushTrayModel", name := "kindBy", desc := "(I)I" } : Jvm.MethodName) prog_8_method_9_code (1 : Nat) (Option.some Jvm.ClassFile.FieldType.int)) ∈ XW := xm_3_12 (List.mem_of_getElem? (i := 14) rfl) rfl
theorem xw_3_207 : (Jvm.Cond.methodLink "PushTrayLaw" (30 : Nat) ({ cls := "PushTrayModel", name := "tray", desc := "()I" } : Jvm.MethodName)) ∈ XW := xm_3_12 (List.mem_of_getElem? (i := 15) rfl) rfl
theorem xw_3_208 : (Jvm.Cond.instanceMethod ({ cls := "PushTrayModel", name := "tray", desc := "()I" } : Jvm.MethodName)) ∈ XW := xm_3_13 (List.mem_of_getElem? (i := 0) rfl) rfl
theorem xw_3_209 : (Jvm.Cond.selects "PushTrayModel" ({ cls := "PushTrayModel", name := "tray", desc := "()I" } : Jvm.MethodName) ({ cls := "PushTrayModel", name := "tray", desc := "()I" } : Jvm.MethodName)) ∈ XW := xm_3_13 (List.mem_of_getElem? (i := 1) rfl) rfl
theorem xw_3_210 : (Jvm.Cond.code ({ cls := "PushTrayModel", name := "tray", desc := "()I" } : Jvm.MethodName) prog_8_method_16_code (2 : Nat) (Option.some Jvm.ClassFile.FieldType.int)) ∈ XW := xm_3_13 (List.mem_of_getElem? (i := 2) rfl) rfl
theorem xw_3_211 : (Jvm.Cond.methodLink "PushTrayModel" (80 : Nat) ({ cls := "PushTrayModel", name := "cellsAt", desc := "(I)I" } : Jvm.MethodName)) ∈ XW := xm_3_13 (List.mem_of_getElem? (i := 3) rfl) rfl
theorem xw_3_213 : (Jvm.Cond.instanceMethod ({ cls := "PushTrayModel", name := "cellsAt", desc := "(I)I" } : Jvm.MethodName)) ∈ XW := xm_3_13 (List.mem_of_getElem? (i := 5) rfl) rfl
theorem xw_3_214 : (Jvm.Cond.code ({ cls := "PushTrayModel", name := "cellsAt", desc := "(I)I" } : Jvm.MethodName) prog_8_method_15_code (4 : Nat) (Option.some Jvm.ClassFile.FieldType.int)) ∈ XW := xm_3_13 (List.mem_of_getElem? (i := 6) rfl) rfl
theorem xw_3_215 : (Jvm.Cond.methodLink "PushTrayModel" (101 : Nat) ({ cls := "PushTrayModel", name := "whereIs", desc := "(II)I" } : Jvm.MethodName)) ∈ XW := xm_3_13 (List.mem_of_getElem? (i := 7) rfl) rfl
theorem xw_3_216 : (Jvm.Cond.static ({ cls := "PushTrayModel", name := "whereIs", desc := "(II)I" } : Jvm.MethodName)) ∈ XW := xm_3_13 (List.mem_of_getElem? (i := 8) rfl) rfl
theorem xw_3_217 : (Jvm.Cond.code ({ cls := "PushTrayModel", name := "whereIs", desc := "(II)I" } : Jvm.MethodName) prog_8_method_20_code (3 : Nat) (Option.some Jvm.ClassFile.FieldType.int)) ∈ XW := xm_3_13 (List.mem_of_getElem? (i := 9) rfl) rfl
theorem xw_3_218 : (Jvm.Cond.methodLink "PushTrayModel" (105 : Nat) ({ cls := "PushTrayModel", name := "isAt", desc := "(II)I" } : Jvm.MethodName)) ∈ XW := xm_3_13 (List.mem_of_getElem? (i := 10) rfl) rfl
theorem xw_3_219 : (Jvm.Cond.static ({ cls := "PushTrayModel", name := "isAt", desc := "(II)I" } : Jvm.MethodName)) ∈ XW := xm_3_13 (List.mem_of_getElem? (i := 11) rfl) rfl
theorem xw_3_220 : (Jvm.Cond.code ({ cls := "PushTrayModel", name := "isAt", desc := "(II)I" } : Jvm.MethodName) prog_8_method_19_code (2 : Nat) (Option.some Jvm.ClassFile.FieldType.int)) ∈ XW := xm_3_13 (List.mem_of_getElem? (i := 12) rfl) rfl
theorem xw_3_221 : (Jvm.Cond.methodLink "PushTrayLaw" (35 : Nat) ({ cls := "PushTrayModel", name := "tile", desc := "(II)I" } : Jvm.MethodName)) ∈ XW := xm_3_13 (List.mem_of_getElem? (i := 13) rfl) rfl
theorem xw_3_222 : (Jvm.Cond.instanceMethod ({ cls := "PushTrayModel", name := "tile", desc := "(II)I" } : Jvm.MethodName)) ∈ XW := xm_3_13 (List.mem_of_getElem? (i := 14) rfl) rfl
theorem xw_3_223 : (Jvm.Cond.selects "PushTrayModel" ({ cls := "PushTrayModel", name := "tile", desc := "(II)I" } : Jvm.MethodName) ({ cls := "PushTrayModel", name := "tile", desc := "(II)I" } : Jvm.MethodName)) ∈ XW := xm_3_13 (List.mem_of_getElem? (i := 15) rfl) rfl
theorem xw_3_224 : (Jvm.Cond.code ({ cls := "PushTrayModel", name := "tile", desc := "(II)I" } : Jvm.MethodName) prog_8_method_29_code (3 : Nat) (Option.some Jvm.ClassFile.FieldType.int)) ∈ XW := xm_3_14 (List.mem_of_getElem? (i := 0) rfl) rfl
theorem xw_3_225 : (Jvm.Cond.methodLink "PushTrayModel" (133 : Nat) ({ cls := "PushTrayModel", name := "isTile", desc := "(I)Z" } : Jvm.MethodName)) ∈ XW := xm_3_14 (List.mem_of_getElem? (i := 1) rfl) rfl
theorem xw_3_227 : (Jvm.Cond.instanceMethod ({ cls := "PushTrayModel", name := "isTile", desc := "(I)Z" } : Jvm.MethodName)) ∈ XW := xm_3_14 (List.mem_of_getElem? (i := 3) rfl) rfl
theorem xw_3_228 : (Jvm.Cond.code ({ cls := "PushTrayModel", name := "isTile", desc := "(I)Z" } : Jvm.MethodName) prog_8_method_17_code (2 : Nat) (Option.some Jvm.ClassFile.FieldType.boolean)) ∈ XW := xm_3_14 (List.mem_of_getElem? (i := 4) rfl) rfl
theorem xw_3_229 : (Jvm.Cond.methodLink "PushTrayModel" (137 : Nat) ({ cls := "PushTrayModel", name := "tileNow", desc := "(II)I" } : Jvm.MethodName)) ∈ XW := xm_3_14 (List.mem_of_getElem? (i := 5) rfl) rfl
theorem xw_3_231 : (Jvm.Cond.instanceMethod ({ cls := "PushTrayModel", name := "tileNow", desc := "(II)I" } : Jvm.MethodName)) ∈ XW := xm_3_14 (List.mem_of_getElem? (i := 7) rfl) rfl
theorem xw_3_232 : (Jvm.Cond.code ({ cls := "PushTrayModel", name := "tileNow", desc := "(II)I" } : Jvm.MethodName) prog_8_method_28_code (3 : Nat) (Option.some Jvm.ClassFile.FieldType.int)) ∈ XW := xm_3_14 (List.mem_of_getElem? (i := 8) rfl) rfl
theorem xw_3_233 : (Jvm.Cond.methodLink "PushTrayModel" (121 : Nat) ({ cls := "PushTrayModel", name := "costIn", desc := "(II)I" } : Jvm.MethodName)) ∈ XW := xm_3_14 (List.mem_of_getElem? (i := 9) rfl) rfl
theorem xw_3_235 : (Jvm.Cond.instanceMethod ({ cls := "PushTrayModel", name := "costIn", desc := "(II)I" } : Jvm.MethodName)) ∈ XW := xm_3_14 (List.mem_of_getElem? (i := 11) rfl) rfl
theorem xw_3_236 : (Jvm.Cond.code ({ cls := "PushTrayModel", name := "costIn", desc := "(II)I" } : Jvm.MethodName) prog_8_method_25_code (5 : Nat) (Option.some Jvm.ClassFile.FieldType.int)) ∈ XW := xm_3_14 (List.mem_of_getElem? (i := 12) rfl) rfl
theorem xw_3_237 : (Jvm.Cond.methodLink "PushTrayModel" (111 : Nat) ({ cls := "PushTrayModel", name := "areNext", desc := "(II)Z" } : Jvm.MethodName)) ∈ XW := xm_3_14 (List.mem_of_getElem? (i := 13) rfl) rfl
theorem xw_3_238 : (Jvm.Cond.static ({ cls := "PushTrayModel", name := "areNext", desc := "(II)Z" } : Jvm.MethodName)) ∈ XW := xm_3_14 (List.mem_of_getElem? (i := 14) rfl) rfl
theorem xw_3_239 : (Jvm.Cond.code ({ cls := "PushTrayModel", name := "areNext", desc := "(II)Z" } : Jvm.MethodName) prog_8_method_23_code (3 : Nat) (Option.some Jvm.ClassFile.FieldType.boolean)) ∈ XW := xm_3_14 (List.mem_of_getElem? (i := 15) rfl) rfl
theorem xw_4_0 : (Jvm.Cond.methodLink "PushTrayModel" (108 : Nat) ({ cls := "PushTrayModel", name := "sameRow", desc := "(II)Z" } : Jvm.MethodName)) ∈ XW := xm_4_0 (List.mem_of_getElem? (i := 0) rfl) rfl
theorem xw_4_1 : (Jvm.Cond.static ({ cls := "PushTrayModel", name := "sameRow", desc := "(II)Z" } : Jvm.MethodName)) ∈ XW := xm_4_0 (List.mem_of_getElem? (i := 1) rfl) rfl
theorem xw_4_2 : (Jvm.Cond.code ({ cls := "PushTrayModel", name := "sameRow", desc := "(II)Z" } : Jvm.MethodName) prog_8_method_22_code (2 : Nat) (Option.some Jvm.ClassFile.FieldType.boolean)) ∈ XW := xm_4_0 (List.mem_of_getElem? (i := 2) rfl) rfl
theorem xw_4_3 : (Jvm.Cond.methodLink "PushTrayModel" (114 : Nat) ({ cls := "PushTrayModel", name := "costBy", desc := "(II)I" } : Jvm.MethodName)) ∈ XW := xm_4_0 (List.mem_of_getElem? (i := 3) rfl) rfl
theorem xw_4_4 : (Jvm.Cond.static ({ cls := "PushTrayModel", name := "costBy", desc := "(II)I" } : Jvm.MethodName)) ∈ XW := xm_4_0 (List.mem_of_getElem? (i := 4) rfl) rfl
theorem xw_4_5 : (Jvm.Cond.code ({ cls := "PushTrayModel", name := "costBy", desc := "(II)I" } : Jvm.MethodName) prog_8_method_24_code (2 : Nat) (Option.some Jvm.ClassFile.FieldType.int)) ∈ XW := xm_4_0 (List.mem_of_getElem? (i := 5) rfl) rfl
theorem xw_4_6 : (Jvm.Cond.methodLink "PushTrayModel" (124 : Nat) ({ cls := "PushTrayModel", name := "sortsOf", desc := "(I)I" } : Jvm.MethodName)) ∈ XW := xm_4_0 (List.mem_of_getElem? (i := 6) rfl) rfl
theorem xw_4_8 : (Jvm.Cond.instanceMethod ({ cls := "PushTrayModel", name := "sortsOf", desc := "(I)I" } : Jvm.MethodName)) ∈ XW := xm_4_0 (List.mem_of_getElem? (i := 8) rfl) rfl
theorem xw_4_9 : (Jvm.Cond.code ({ cls := "PushTrayModel", name := "sortsOf", desc := "(I)I" } : Jvm.MethodName) prog_8_method_59_code (6 : Nat) (Option.some Jvm.ClassFile.FieldType.int)) ∈ XW := xm_4_0 (List.mem_of_getElem? (i := 9) rfl) rfl
theorem xw_4_10 : (Jvm.Cond.methodLink "PushTrayModel" (127 : Nat) ({ cls := "PushTrayModel", name := "wayFor", desc := "(I)I" } : Jvm.MethodName)) ∈ XW := xm_4_0 (List.mem_of_getElem? (i := 10) rfl) rfl
theorem xw_4_12 : (Jvm.Cond.instanceMethod ({ cls := "PushTrayModel", name := "wayFor", desc := "(I)I" } : Jvm.MethodName)) ∈ XW := xm_4_0 (List.mem_of_getElem? (i := 12) rfl) rfl
theorem xw_4_13 : (Jvm.Cond.code ({ cls := "PushTrayModel", name := "wayFor", desc := "(I)I" } : Jvm.MethodName) prog_8_method_61_code (3 : Nat) (Option.some Jvm.ClassFile.FieldType.int)) ∈ XW := xm_4_0 (List.mem_of_getElem? (i := 13) rfl) rfl
theorem xw_4_14 : (Jvm.Cond.methodLink "PushTrayModel" (204 : Nat) ({ cls := "PushTrayModel", name := "worstBy", desc := "(II)I" } : Jvm.MethodName)) ∈ XW := xm_4_0 (List.mem_of_getElem? (i := 14) rfl) rfl
theorem xw_4_15 : (Jvm.Cond.static ({ cls := "PushTrayModel", name := "worstBy", desc := "(II)I" } : Jvm.MethodName)) ∈ XW := xm_4_0 (List.mem_of_getElem? (i := 15) rfl) rfl
theorem xw_4_16 : (Jvm.Cond.code ({ cls := "PushTrayModel", name := "worstBy", desc := "(II)I" } : Jvm.MethodName) prog_8_method_60_code (6 : Nat) (Option.some Jvm.ClassFile.FieldType.int)) ∈ XW := xm_4_1 (List.mem_of_getElem? (i := 0) rfl) rfl
theorem xw_4_17 : (Jvm.Cond.methodLink "PushTrayModel" (130 : Nat) ({ cls := "PushTrayModel", name := "homeNow", desc := "(II)I" } : Jvm.MethodName)) ∈ XW := xm_4_1 (List.mem_of_getElem? (i := 1) rfl) rfl
theorem xw_4_19 : (Jvm.Cond.instanceMethod ({ cls := "PushTrayModel", name := "homeNow", desc := "(II)I" } : Jvm.MethodName)) ∈ XW := xm_4_1 (List.mem_of_getElem? (i := 3) rfl) rfl
theorem xw_4_20 : (Jvm.Cond.code ({ cls := "PushTrayModel", name := "homeNow", desc := "(II)I" } : Jvm.MethodName) prog_8_method_47_code (6 : Nat) (Option.some Jvm.ClassFile.FieldType.int)) ∈ XW := xm_4_1 (List.mem_of_getElem? (i := 4) rfl) rfl
theorem xw_4_21 : (Jvm.Cond.methodLink "PushTrayModel" (166 : Nat) ({ cls := "PushTrayModel", name := "layCosts", desc := "(I)I" } : Jvm.MethodName)) ∈ XW := xm_4_1 (List.mem_of_getElem? (i := 5) rfl) rfl
theorem xw_4_23 : (Jvm.Cond.instanceMethod ({ cls := "PushTrayModel", name := "layCosts", desc := "(I)I" } : Jvm.MethodName)) ∈ XW := xm_4_1 (List.mem_of_getElem? (i := 7) rfl) rfl
theorem xw_4_24 : (Jvm.Cond.code ({ cls := "PushTrayModel", name := "layCosts", desc := "(I)I" } : Jvm.MethodName) prog_8_method_40_code (5 : Nat) (Option.some Jvm.ClassFile.FieldType.int)) ∈ XW := xm_4_1 (List.mem_of_getElem? (i := 8) rfl) rfl
theorem xw_4_25 : (Jvm.Cond.constant "PushTrayModel" (155 : Nat) (268435456 : Int32)) ∈ XW := xm_4_1 (List.mem_of_getElem? (i := 9) rfl) rfl
theorem xw_4_26 : (Jvm.Cond.methodLink "PushTrayModel" (152 : Nat) ({ cls := "PushTrayModel", name := "rankOf", desc := "(I)I" } : Jvm.MethodName)) ∈ XW := xm_4_1 (List.mem_of_getElem? (i := 10) rfl) rfl
theorem xw_4_27 : (Jvm.Cond.static ({ cls := "PushTrayModel", name := "rankOf", desc := "(I)I" } : Jvm.MethodName)) ∈ XW := xm_4_1 (List.mem_of_getElem? (i := 11) rfl) rfl
theorem xw_4_28 : (Jvm.Cond.code ({ cls := "PushTrayModel", name := "rankOf", desc := "(I)I" } : Jvm.MethodName) prog_8_method_37_code (5 : Nat) (Option.some Jvm.ClassFile.FieldType.int)) ∈ XW := xm_4_1 (List.mem_of_getElem? (i := 12) rfl) rfl
theorem xw_4_29 : (Jvm.Cond.methodLink "PushTrayModel" (156 : Nat) ({ cls := "PushTrayModel", name := "trayOf", desc := "(I)I" } : Jvm.MethodName)) ∈ XW := xm_4_1 (List.mem_of_getElem? (i := 13) rfl) rfl
theorem xw_4_30 : (Jvm.Cond.static ({ cls := "PushTrayModel", name := "trayOf", desc := "(I)I" } : Jvm.MethodName)) ∈ XW := xm_4_1 (List.mem_of_getElem? (i := 14) rfl) rfl
theorem xw_4_31 : (Jvm.Cond.code ({ cls := "PushTrayModel", name := "trayOf", desc := "(I)I" } : Jvm.MethodName) prog_8_method_38_code (8 : Nat) (Option.some Jvm.ClassFile.FieldType.int)) ∈ XW := xm_4_1 (List.mem_of_getElem? (i := 15) rfl) rfl
theorem xw_4_32 : (Jvm.Cond.methodLink "PushTrayModel" (159 : Nat) ({ cls := "PushTrayModel", name := "comeFrom", desc := "(II)V" } : Jvm.MethodName)) ∈ XW := xm_4_2 (List.mem_of_getElem? (i := 0) rfl) rfl
theorem xw_4_34 : (Jvm.Cond.instanceMethod ({ cls := "PushTrayModel", name := "comeFrom", desc := "(II)V" } : Jvm.MethodName)) ∈ XW := xm_4_2 (List.mem_of_getElem? (i := 2) rfl) rfl
theorem xw_4_35 : (Jvm.Cond.code ({ cls := "PushTrayModel", name := "comeFrom", desc := "(II)V" } : Jvm.MethodName) prog_8_method_39_code (7 : Nat) (Option.none : Option Jvm.ClassFile.FieldType)) ∈ XW := xm_4_2 (List.mem_of_getElem? (i := 3) rfl) rfl
theorem xw_4_36 : (Jvm.Cond.methodLink "PushTrayModel" (149 : Nat) ({ cls := "PushTrayModel", name := "mayBePushed", desc := "(I)I" } : Jvm.MethodName)) ∈ XW := xm_4_2 (List.mem_of_getElem? (i := 4) rfl) rfl
theorem xw_4_38 : (Jvm.Cond.instanceMethod ({ cls := "PushTrayModel", name := "mayBePushed", desc := "(I)I" } : Jvm.MethodName)) ∈ XW := xm_4_2 (List.mem_of_getElem? (i := 6) rfl) rfl
theorem xw_4_39 : (Jvm.Cond.code ({ cls := "PushTrayModel", name := "mayBePushed", desc := "(I)I" } : Jvm.MethodName) prog_8_method_27_code (4 : Nat) (Option.some Jvm.ClassFile.FieldType.int)) ∈ XW := xm_4_2 (List.mem_of_getElem? (i := 7) rfl) rfl
theorem xw_4_40 : (Jvm.Cond.methodLink "PushTrayModel" (146 : Nat) ({ cls := "PushTrayModel", name := "pushed", desc := "(II)I" } : Jvm.MethodName)) ∈ XW := xm_4_2 (List.mem_of_getElem? (i := 8) rfl) rfl
theorem xw_4_41 : (Jvm.Cond.static ({ cls := "PushTrayModel", name := "pushed", desc := "(II)I" } : Jvm.MethodName)) ∈ XW := xm_4_2 (List.mem_of_getElem? (i := 9) rfl) rfl
theorem xw_4_42 : (Jvm.Cond.code ({ cls := "PushTrayModel", name := "pushed", desc := "(II)I" } : Jvm.MethodName) prog_8_method_26_code (2 : Nat) (Option.some Jvm.ClassFile.FieldType.int)) ∈ XW := xm_4_2 (List.mem_of_getElem? (i := 10) rfl) rfl
theorem xw_4_43 : (Jvm.Cond.methodLink "PushTrayModel" (117 : Nat) ({ cls := "PushTrayModel", name := "exchanged", desc := "(III)I" } : Jvm.MethodName)) ∈ XW := xm_4_2 (List.mem_of_getElem? (i := 11) rfl) rfl
theorem xw_4_44 : (Jvm.Cond.static ({ cls := "PushTrayModel", name := "exchanged", desc := "(III)I" } : Jvm.MethodName)) ∈ XW := xm_4_2 (List.mem_of_getElem? (i := 12) rfl) rfl
theorem xw_4_45 : (Jvm.Cond.code ({ cls := "PushTrayModel", name := "exchanged", desc := "(III)I" } : Jvm.MethodName) prog_8_method_21_code (4 : Nat) (Option.some Jvm.ClassFile.FieldType.int)) ∈ XW := xm_4_2 (List.mem_of_getElem? (i := 13) rfl) rfl
theorem xw_4_46 : (Jvm.Cond.methodLink "PushTrayLaw" (39 : Nat) ({ cls := "PushTrayModel", name := "as", desc := "(II)I" } : Jvm.MethodName)) ∈ XW := xm_4_2 (List.mem_of_getElem? (i := 14) rfl) rfl
theorem xw_4_47 : (Jvm.Cond.instanceMethod ({ cls := "PushTrayModel", name := "as", desc := "(II)I" } : Jvm.MethodName)) ∈ XW := xm_4_2 (List.mem_of_getElem? (i := 15) rfl) rfl
theorem xw_4_48 : (Jvm.Cond.selects "PushTrayModel" ({ cls := "PushTrayModel", name := "as", desc := "(II)I" } : Jvm.MethodName) ({ cls := "PushTrayModel", name := "as", desc := "(II)I" } : Jvm.MethodName)) ∈ XW := xm_4_3 (List.mem_of_getElem? (i := 0) rfl) rfl
theorem xw_4_49 : (Jvm.Cond.code ({ cls := "PushTrayModel", name := "as", desc := "(II)I" } : Jvm.MethodName) prog_8_method_30_code (4 : Nat) (Option.some Jvm.ClassFile.FieldType.int)) ∈ XW := xm_4_3 (List.mem_of_getElem? (i := 1) rfl) rfl
theorem xw_4_50 : (Jvm.Cond.methodLink "PushTrayLaw" (43 : Nat) ({ cls := "PushTrayModel", name := "cell", desc := "(II)I" } : Jvm.MethodName)) ∈ XW := xm_4_3 (List.mem_of_getElem? (i := 2) rfl) rfl
theorem xw_4_51 : (Jvm.Cond.instanceMethod ({ cls := "PushTrayModel", name := "cell", desc := "(II)I" } : Jvm.MethodName)) ∈ XW := xm_4_3 (List.mem_of_getElem? (i := 3) rfl) rfl
theorem xw_4_52 : (Jvm.Cond.selects "PushTrayModel" ({ cls := "PushTrayModel", name := "cell", desc := "(II)I" } : Jvm.MethodName) ({ cls := "PushTrayModel", name := "cell", desc := "(II)I" } : Jvm.MethodName)) ∈ XW := xm_4_3 (List.mem_of_getElem? (i := 4) rfl) rfl
theorem xw_4_53 : (Jvm.Cond.code ({ cls := "PushTrayModel", name := "cell", desc := "(II)I" } : Jvm.MethodName) prog_8_method_32_code (3 : Nat) (Option.some Jvm.ClassFile.FieldType.int)) ∈ XW := xm_4_3 (List.mem_of_getElem? (i := 5) rfl) rfl
theorem xw_4_54 : (Jvm.Cond.methodLink "PushTrayModel" (140 : Nat) ({ cls := "PushTrayModel", name := "isCell", desc := "(I)Z" } : Jvm.MethodName)) ∈ XW := xm_4_3 (List.mem_of_getElem? (i := 6) rfl) rfl
theorem xw_4_56 : (Jvm.Cond.instanceMethod ({ cls := "PushTrayModel", name := "isCell", desc := "(I)Z" } : Jvm.MethodName)) ∈ XW := xm_4_3 (List.mem_of_getElem? (i := 8) rfl) rfl
theorem xw_4_57 : (Jvm.Cond.code ({ cls := "PushTrayModel", name := "isCell", desc := "(I)Z" } : Jvm.MethodName) prog_8_method_18_code (2 : Nat) (Option.some Jvm.ClassFile.FieldType.boolean)) ∈ XW := xm_4_3 (List.mem_of_getElem? (i := 9) rfl) rfl
theorem xw_4_58 : (Jvm.Cond.methodLink "PushTrayModel" (143 : Nat) ({ cls := "PushTrayModel", name := "cellNow", desc := "(II)I" } : Jvm.MethodName)) ∈ XW := xm_4_3 (List.mem_of_getElem? (i := 10) rfl) rfl
theorem xw_4_60 : (Jvm.Cond.instanceMethod ({ cls := "PushTrayModel", name := "cellNow", desc := "(II)I" } : Jvm.MethodName)) ∈ XW := xm_4_3 (List.mem_of_getElem? (i := 12) rfl) rfl
theorem xw_4_61 : (Jvm.Cond.code ({ cls := "PushTrayModel", name := "cellNow", desc := "(II)I" } : Jvm.MethodName) prog_8_method_31_code (4 : Nat) (Option.some Jvm.ClassFile.FieldType.int)) ∈ XW := xm_4_3 (List.mem_of_getElem? (i := 13) rfl) rfl
theorem xw_4_62 : (Jvm.Cond.methodLink "PushTrayLaw" (47 : Nat) ({ cls := "PushTrayModel", name := "push", desc := "(I)I" } : Jvm.MethodName)) ∈ XW := xm_4_3 (List.mem_of_getElem? (i := 14) rfl) rfl
theorem xw_4_63 : (Jvm.Cond.instanceMethod ({ cls := "PushTrayModel", name := "push", desc := "(I)I" } : Jvm.MethodName)) ∈ XW := xm_4_3 (List.mem_of_getElem? (i := 15) rfl) rfl
theorem xw_4_64 : (Jvm.Cond.selects "PushTrayModel" ({ cls := "PushTrayModel", name := "push", desc := "(I)I" } : Jvm.MethodName) ({ cls := "PushTrayModel", name := "push", desc := "(I)I" } : Jvm.MethodName)) ∈ XW := xm_4_4 (List.mem_of_getElem? (i := 0) rfl) rfl
theorem xw_4_65 : (Jvm.Cond.code ({ cls := "PushTrayModel", name := "push", desc := "(I)I" } : Jvm.MethodName) prog_8_method_33_code (3 : Nat) (Option.some Jvm.ClassFile.FieldType.int)) ∈ XW := xm_4_4 (List.mem_of_getElem? (i := 1) rfl) rfl
theorem xw_4_66 : (Jvm.Cond.methodLink "PushTrayLaw" (51 : Nat) ({ cls := "PushTrayModel", name := "exchange", desc := "(II)I" } : Jvm.MethodName)) ∈ XW := xm_4_4 (List.mem_of_getElem? (i := 2) rfl) rfl
theorem xw_4_67 : (Jvm.Cond.instanceMethod ({ cls := "PushTrayModel", name := "exchange", desc := "(II)I" } : Jvm.MethodName)) ∈ XW := xm_4_4 (List.mem_of_getElem? (i := 3) rfl) rfl
theorem xw_4_68 : (Jvm.Cond.selects "PushTrayModel" ({ cls := "PushTrayModel", name := "exchange", desc := "(II)I" } : Jvm.MethodName) ({ cls := "PushTrayModel", name := "exchange", desc := "(II)I" } : Jvm.MethodName)) ∈ XW := xm_4_4 (List.mem_of_getElem? (i := 4) rfl) rfl
theorem xw_4_69 : (Jvm.Cond.code ({ cls := "PushTrayModel", name := "exchange", desc := "(II)I" } : Jvm.MethodName) prog_8_method_34_code (3 : Nat) (Option.some Jvm.ClassFile.FieldType.int)) ∈ XW := xm_4_4 (List.mem_of_getElem? (i := 5) rfl) rfl
theorem xw_4_70 : (Jvm.Cond.methodLink "PushTrayLaw" (55 : Nat) ({ cls := "PushTrayModel", name := "aim", desc := "(II)I" } : Jvm.MethodName)) ∈ XW := xm_4_4 (List.mem_of_getElem? (i := 6) rfl) rfl
theorem xw_4_71 : (Jvm.Cond.instanceMethod ({ cls := "PushTrayModel", name := "aim", desc := "(II)I" } : Jvm.MethodName)) ∈ XW := xm_4_4 (List.mem_of_getElem? (i := 7) rfl) rfl
theorem xw_4_72 : (Jvm.Cond.selects "PushTrayModel" ({ cls := "PushTrayModel", name := "aim", desc := "(II)I" } : Jvm.MethodName) ({ cls := "PushTrayModel", name := "aim", desc := "(II)I" } : Jvm.MethodName)) ∈ XW := xm_4_4 (List.mem_of_getElem? (i := 8) rfl) rfl
theorem xw_4_73 : (Jvm.Cond.code ({ cls := "PushTrayModel", name := "aim", desc := "(II)I" } : Jvm.MethodName) prog_8_method_35_code (3 : Nat) (Option.some Jvm.ClassFile.FieldType.int)) ∈ XW := xm_4_4 (List.mem_of_getElem? (i := 9) rfl) rfl
theorem xw_4_74 : (Jvm.Cond.methodLink "PushTrayLaw" (59 : Nat) ({ cls := "PushTrayModel", name := "recast", desc := "(II)I" } : Jvm.MethodName)) ∈ XW := xm_4_4 (List.mem_of_getElem? (i := 10) rfl) rfl
theorem xw_4_75 : (Jvm.Cond.instanceMethod ({ cls := "PushTrayModel", name := "recast", desc := "(II)I" } : Jvm.MethodName)) ∈ XW := xm_4_4 (List.mem_of_getElem? (i := 11) rfl) rfl
theorem xw_4_76 : (Jvm.Cond.selects "PushTrayModel" ({ cls := "PushTrayModel", name := "recast", desc := "(II)I" } : Jvm.MethodName) ({ cls := "PushTrayModel", name := "recast", desc := "(II)I" } : Jvm.MethodName)) ∈ XW := xm_4_4 (List.mem_of_getElem? (i := 12) rfl) rfl
theorem xw_4_77 : (Jvm.Cond.code ({ cls := "PushTrayModel", name := "recast", desc := "(II)I" } : Jvm.MethodName) prog_8_method_36_code (4 : Nat) (Option.some Jvm.ClassFile.FieldType.int)) ∈ XW := xm_4_4 (List.mem_of_getElem? (i := 13) rfl) rfl
theorem xw_4_78 : (Jvm.Cond.methodLink "PushTrayLaw" (63 : Nat) ({ cls := "PushTrayModel", name := "least", desc := "(I)I" } : Jvm.MethodName)) ∈ XW := xm_4_4 (List.mem_of_getElem? (i := 14) rfl) rfl
theorem xw_4_79 : (Jvm.Cond.instanceMethod ({ cls := "PushTrayModel", name := "least", desc := "(I)I" } : Jvm.MethodName)) ∈ XW := xm_4_4 (List.mem_of_getElem? (i := 15) rfl) rfl
theorem xw_4_80 : (Jvm.Cond.selects "PushTrayModel" ({ cls := "PushTrayModel", name := "least", desc := "(I)I" } : Jvm.MethodName) ({ cls := "PushTrayModel", name := "least", desc := "(I)I" } : Jvm.MethodName)) ∈ XW := xm_4_5 (List.mem_of_getElem? (i := 0) rfl) rfl
theorem xw_4_81 : (Jvm.Cond.code ({ cls := "PushTrayModel", name := "least", desc := "(I)I" } : Jvm.MethodName) prog_8_method_44_code (2 : Nat) (Option.some Jvm.ClassFile.FieldType.int)) ∈ XW := xm_4_5 (List.mem_of_getElem? (i := 1) rfl) rfl
theorem xw_4_82 : (Jvm.Cond.methodLink "PushTrayModel" (172 : Nat) ({ cls := "PushTrayModel", name := "leastNow", desc := "(I)I" } : Jvm.MethodName)) ∈ XW := xm_4_5 (List.mem_of_getElem? (i := 2) rfl) rfl
theorem xw_4_84 : (Jvm.Cond.instanceMethod ({ cls := "PushTrayModel", name := "leastNow", desc := "(I)I" } : Jvm.MethodName)) ∈ XW := xm_4_5 (List.mem_of_getElem? (i := 4) rfl) rfl
theorem xw_4_85 : (Jvm.Cond.code ({ cls := "PushTrayModel", name := "leastNow", desc := "(I)I" } : Jvm.MethodName) prog_8_method_43_code (6 : Nat) (Option.some Jvm.ClassFile.FieldType.int)) ∈ XW := xm_4_5 (List.mem_of_getElem? (i := 5) rfl) rfl
theorem xw_4_86 : (Jvm.Cond.methodLink "PushTrayModel" (163 : Nat) ({ cls := "PushTrayModel", name := "costOf", desc := "(I)I" } : Jvm.MethodName)) ∈ XW := xm_4_5 (List.mem_of_getElem? (i := 6) rfl) rfl
theorem xw_4_88 : (Jvm.Cond.instanceMethod ({ cls := "PushTrayModel", name := "costOf", desc := "(I)I" } : Jvm.MethodName)) ∈ XW := xm_4_5 (List.mem_of_getElem? (i := 8) rfl) rfl
theorem xw_4_89 : (Jvm.Cond.code ({ cls := "PushTrayModel", name := "costOf", desc := "(I)I" } : Jvm.MethodName) prog_8_method_41_code (3 : Nat) (Option.some Jvm.ClassFile.FieldType.int)) ∈ XW := xm_4_5 (List.mem_of_getElem? (i := 9) rfl) rfl
theorem xw_4_90 : (Jvm.Cond.methodLink "PushTrayModel" (169 : Nat) ({ cls := "PushTrayModel", name := "firstOf", desc := "(I)I" } : Jvm.MethodName)) ∈ XW := xm_4_5 (List.mem_of_getElem? (i := 10) rfl) rfl
theorem xw_4_92 : (Jvm.Cond.instanceMethod ({ cls := "PushTrayModel", name := "firstOf", desc := "(I)I" } : Jvm.MethodName)) ∈ XW := xm_4_5 (List.mem_of_getElem? (i := 12) rfl) rfl
theorem xw_4_93 : (Jvm.Cond.code ({ cls := "PushTrayModel", name := "firstOf", desc := "(I)I" } : Jvm.MethodName) prog_8_method_42_code (4 : Nat) (Option.some Jvm.ClassFile.FieldType.int)) ∈ XW := xm_4_5 (List.mem_of_getElem? (i := 13) rfl) rfl
theorem xw_4_94 : (Jvm.Cond.methodLink "PushTrayLaw" (67 : Nat) ({ cls := "PushTrayModel", name := "reach", desc := "(I)I" } : Jvm.MethodName)) ∈ XW := xm_4_5 (List.mem_of_getElem? (i := 14) rfl) rfl
theorem xw_4_95 : (Jvm.Cond.instanceMethod ({ cls := "PushTrayModel", name := "reach", desc := "(I)I" } : Jvm.MethodName)) ∈ XW := xm_4_5 (List.mem_of_getElem? (i := 15) rfl) rfl
theorem xw_4_96 : (Jvm.Cond.selects "PushTrayModel" ({ cls := "PushTrayModel", name := "reach", desc := "(I)I" } : Jvm.MethodName) ({ cls := "PushTrayModel", name := "reach", desc := "(I)I" } : Jvm.MethodName)) ∈ XW := xm_4_6 (List.mem_of_getElem? (i := 0) rfl) rfl
theorem xw_4_97 : (Jvm.Cond.code ({ cls := "PushTrayModel", name := "reach", desc := "(I)I" } : Jvm.MethodName) prog_8_method_46_code (2 : Nat) (Option.some Jvm.ClassFile.FieldType.int)) ∈ XW := xm_4_6 (List.mem_of_getElem? (i := 1) rfl) rfl
theorem xw_4_98 : (Jvm.Cond.methodLink "PushTrayModel" (175 : Nat) ({ cls := "PushTrayModel", name := "reachNow", desc := "(I)I" } : Jvm.MethodName)) ∈ XW := xm_4_6 (List.mem_of_getElem? (i := 2) rfl) rfl
theorem xw_4_100 : (Jvm.Cond.instanceMethod ({ cls := "PushTrayModel", name := "reachNow", desc := "(I)I" } : Jvm.MethodName)) ∈ XW := xm_4_6 (List.mem_of_getElem? (i := 4) rfl) rfl
theorem xw_4_101 : (Jvm.Cond.code ({ cls := "PushTrayModel", name := "reachNow", desc := "(I)I" } : Jvm.MethodName) prog_8_method_45_code (5 : Nat) (Option.some Jvm.ClassFile.FieldType.int)) ∈ XW := xm_4_6 (List.mem_of_getElem? (i := 5) rfl) rfl
theorem xw_4_102 : (Jvm.Cond.methodLink "PushTrayLaw" (71 : Nat) ({ cls := "PushTrayModel", name := "home", desc := "(II)I" } : Jvm.MethodName)) ∈ XW := xm_4_6 (List.mem_of_getElem? (i := 6) rfl) rfl
theorem xw_4_103 : (Jvm.Cond.instanceMethod ({ cls := "PushTrayModel", name := "home", desc := "(II)I" } : Jvm.MethodName)) ∈ XW := xm_4_6 (List.mem_of_getElem? (i := 7) rfl) rfl
theorem xw_4_104 : (Jvm.Cond.selects "PushTrayModel" ({ cls := "PushTrayModel", name := "home", desc := "(II)I" } : Jvm.MethodName) ({ cls := "PushTrayModel", name := "home", desc := "(II)I" } : Jvm.MethodName)) ∈ XW := xm_4_6 (List.mem_of_getElem? (i := 8) rfl) rfl
theorem xw_4_105 : (Jvm.Cond.code ({ cls := "PushTrayModel", name := "home", desc := "(II)I" } : Jvm.MethodName) prog_8_method_48_code (3 : Nat) (Option.some Jvm.ClassFile.FieldType.int)) ∈ XW := xm_4_6 (List.mem_of_getElem? (i := 9) rfl) rfl
theorem xw_4_106 : (Jvm.Cond.methodLink "PushTrayLaw" (75 : Nat) ({ cls := "PushTrayModel", name := "swaps", desc := "()I" } : Jvm.MethodName)) ∈ XW := xm_4_6 (List.mem_of_getElem? (i := 10) rfl) rfl
theorem xw_4_107 : (Jvm.Cond.instanceMethod ({ cls := "PushTrayModel", name := "swaps", desc := "()I" } : Jvm.MethodName)) ∈ XW := xm_4_6 (List.mem_of_getElem? (i := 11) rfl) rfl
theorem xw_4_108 : (Jvm.Cond.selects "PushTrayModel" ({ cls := "PushTrayModel", name := "swaps", desc := "()I" } : Jvm.MethodName) ({ cls := "PushTrayModel", name := "swaps", desc := "()I" } : Jvm.MethodName)) ∈ XW := xm_4_6 (List.mem_of_getElem? (i := 12) rfl) rfl
theorem xw_4_109 : (Jvm.Cond.code ({ cls := "PushTrayModel", name := "swaps", desc := "()I" } : Jvm.MethodName) prog_8_method_50_code (1 : Nat) (Option.some Jvm.ClassFile.FieldType.int)) ∈ XW := xm_4_6 (List.mem_of_getElem? (i := 13) rfl) rfl
theorem xw_4_110 : (Jvm.Cond.methodLink "PushTrayModel" (178 : Nat) ({ cls := "PushTrayModel", name := "swapsNow", desc := "()I" } : Jvm.MethodName)) ∈ XW := xm_4_6 (List.mem_of_getElem? (i := 14) rfl) rfl
theorem xw_4_112 : (Jvm.Cond.instanceMethod ({ cls := "PushTrayModel", name := "swapsNow", desc := "()I" } : Jvm.MethodName)) ∈ XW := xm_4_7 (List.mem_of_getElem? (i := 0) rfl) rfl
theorem xw_4_113 : (Jvm.Cond.code ({ cls := "PushTrayModel", name := "swapsNow", desc := "()I" } : Jvm.MethodName) prog_8_method_49_code (5 : Nat) (Option.some Jvm.ClassFile.FieldType.int)) ∈ XW := xm_4_7 (List.mem_of_getElem? (i := 1) rfl) rfl
theorem xw_4_114 : (Jvm.Cond.methodLink "PushTrayLaw" (79 : Nat) ({ cls := "PushTrayModel", name := "cheap", desc := "(I)I" } : Jvm.MethodName)) ∈ XW := xm_4_7 (List.mem_of_getElem? (i := 2) rfl) rfl
theorem xw_4_115 : (Jvm.Cond.instanceMethod ({ cls := "PushTrayModel", name := "cheap", desc := "(I)I" } : Jvm.MethodName)) ∈ XW := xm_4_7 (List.mem_of_getElem? (i := 3) rfl) rfl
theorem xw_4_116 : (Jvm.Cond.selects "PushTrayModel" ({ cls := "PushTrayModel", name := "cheap", desc := "(I)I" } : Jvm.MethodName) ({ cls := "PushTrayModel", name := "cheap", desc := "(I)I" } : Jvm.MethodName)) ∈ XW := xm_4_7 (List.mem_of_getElem? (i := 4) rfl) rfl
theorem xw_4_117 : (Jvm.Cond.code ({ cls := "PushTrayModel", name := "cheap", desc := "(I)I" } : Jvm.MethodName) prog_8_method_52_code (2 : Nat) (Option.some Jvm.ClassFile.FieldType.int)) ∈ XW := xm_4_7 (List.mem_of_getElem? (i := 5) rfl) rfl
theorem xw_4_118 : (Jvm.Cond.methodLink "PushTrayModel" (184 : Nat) ({ cls := "PushTrayModel", name := "cheapNow", desc := "(I)I" } : Jvm.MethodName)) ∈ XW := xm_4_7 (List.mem_of_getElem? (i := 6) rfl) rfl
theorem xw_4_120 : (Jvm.Cond.instanceMethod ({ cls := "PushTrayModel", name := "cheapNow", desc := "(I)I" } : Jvm.MethodName)) ∈ XW := xm_4_7 (List.mem_of_getElem? (i := 8) rfl) rfl
theorem xw_4_121 : (Jvm.Cond.code ({ cls := "PushTrayModel", name := "cheapNow", desc := "(I)I" } : Jvm.MethodName) prog_8_method_51_code (7 : Nat) (Option.some Jvm.ClassFile.FieldType.int)) ∈ XW := xm_4_7 (List.mem_of_getElem? (i := 9) rfl) rfl
theorem xw_4_122 : (Jvm.Cond.methodLink "PushTrayLaw" (84 : Nat) ({ cls := "PushTrayModel", name := "odds", desc := "(IIII)I" } : Jvm.MethodName)) ∈ XW := xm_4_7 (List.mem_of_getElem? (i := 10) rfl) rfl
theorem xw_4_123 : (Jvm.Cond.instanceMethod ({ cls := "PushTrayModel", name := "odds", desc := "(IIII)I" } : Jvm.MethodName)) ∈ XW := xm_4_7 (List.mem_of_getElem? (i := 11) rfl) rfl
theorem xw_4_124 : (Jvm.Cond.selects "PushTrayModel" ({ cls := "PushTrayModel", name := "odds", desc := "(IIII)I" } : Jvm.MethodName) ({ cls := "PushTrayModel", name := "odds", desc := "(IIII)I" } : Jvm.MethodName)) ∈ XW := xm_4_7 (List.mem_of_getElem? (i := 12) rfl) rfl
theorem xw_4_125 : (Jvm.Cond.code ({ cls := "PushTrayModel", name := "odds", desc := "(IIII)I" } : Jvm.MethodName) prog_8_method_56_code (5 : Nat) (Option.some Jvm.ClassFile.FieldType.int)) ∈ XW := xm_4_7 (List.mem_of_getElem? (i := 13) rfl) rfl
theorem xw_4_126 : (Jvm.Cond.methodLink "PushTrayModel" (200 : Nat) ({ cls := "PushTrayModel", name := "oddsNow", desc := "(IIII)I" } : Jvm.MethodName)) ∈ XW := xm_4_7 (List.mem_of_getElem? (i := 14) rfl) rfl
theorem xw_4_128 : (Jvm.Cond.instanceMethod ({ cls := "PushTrayModel", name := "oddsNow", desc := "(IIII)I" } : Jvm.MethodName)) ∈ XW := xm_4_8 (List.mem_of_getElem? (i := 0) rfl) rfl
theorem xw_4_129 : (Jvm.Cond.code ({ cls := "PushTrayModel", name := "oddsNow", desc := "(IIII)I" } : Jvm.MethodName) prog_8_method_55_code (8 : Nat) (Option.some Jvm.ClassFile.FieldType.int)) ∈ XW := xm_4_8 (List.mem_of_getElem? (i := 1) rfl) rfl
theorem xw_4_130 : (Jvm.Cond.methodLink "PushTrayModel" (194 : Nat) ({ cls := "PushTrayModel", name := "layParts", desc := "(I)V" } : Jvm.MethodName)) ∈ XW := xm_4_8 (List.mem_of_getElem? (i := 2) rfl) rfl
theorem xw_4_132 : (Jvm.Cond.instanceMethod ({ cls := "PushTrayModel", name := "layParts", desc := "(I)V" } : Jvm.MethodName)) ∈ XW := xm_4_8 (List.mem_of_getElem? (i := 4) rfl) rfl
theorem xw_4_133 : (Jvm.Cond.code ({ cls := "PushTrayModel", name := "layParts", desc := "(I)V" } : Jvm.MethodName) prog_8_method_54_code (4 : Nat) (Option.none : Option Jvm.ClassFile.FieldType)) ∈ XW := xm_4_8 (List.mem_of_getElem? (i := 5) rfl) rfl
theorem xw_4_134 : (Jvm.Cond.methodLink "PushTrayModel" (190 : Nat) ({ cls := "PushTrayModel", name := "drawPush", desc := "(I)V" } : Jvm.MethodName)) ∈ XW := xm_4_8 (List.mem_of_getElem? (i := 6) rfl) rfl
theorem xw_4_136 : (Jvm.Cond.instanceMethod ({ cls := "PushTrayModel", name := "drawPush", desc := "(I)V" } : Jvm.MethodName)) ∈ XW := xm_4_8 (List.mem_of_getElem? (i := 8) rfl) rfl
theorem xw_4_137 : (Jvm.Cond.code ({ cls := "PushTrayModel", name := "drawPush", desc := "(I)V" } : Jvm.MethodName) prog_8_method_53_code (6 : Nat) (Option.none : Option Jvm.ClassFile.FieldType)) ∈ XW := xm_4_8 (List.mem_of_getElem? (i := 9) rfl) rfl
theorem xw_4_138 : (Jvm.Cond.methodLink "PushTrayModel" (187 : Nat) ({ cls := "PushTrayModel", name := "size", desc := "(I)I" } : Jvm.MethodName)) ∈ XW := xm_4_8 (List.mem_of_getElem? (i := 10) rfl) rfl
theorem xw_4_139 : (Jvm.Cond.static ({ cls := "PushTrayModel", name := "size", desc := "(I)I" } : Jvm.MethodName)) ∈ XW := xm_4_8 (List.mem_of_getElem? (i := 11) rfl) rfl
theorem xw_4_140 : (Jvm.Cond.code ({ cls := "PushTrayModel", name := "size", desc := "(I)I" } : Jvm.MethodName) prog_8_method_5_code (3 : Nat) (Option.some Jvm.ClassFile.FieldType.int)) ∈ XW := xm_4_8 (List.mem_of_getElem? (i := 12) rfl) rfl
theorem xw_4_141 : (Jvm.Cond.methodLink "PushTrayModel" (197 : Nat) ({ cls := "PushTrayModel", name := "divisor", desc := "(II)I" } : Jvm.MethodName)) ∈ XW := xm_4_8 (List.mem_of_getElem? (i := 13) rfl) rfl
theorem xw_4_142 : (Jvm.Cond.static ({ cls := "PushTrayModel", name := "divisor", desc := "(II)I" } : Jvm.MethodName)) ∈ XW := xm_4_8 (List.mem_of_getElem? (i := 14) rfl) rfl
theorem xw_4_143 : (Jvm.Cond.code ({ cls := "PushTrayModel", name := "divisor", desc := "(II)I" } : Jvm.MethodName) prog_8_method_6_code (5 : Nat) (Option.some Jvm.ClassFile.FieldType.int)) ∈ XW := xm_4_8 (List.mem_of_getElem? (i := 15) rfl) rfl
theorem xw_4_144 : (Jvm.Cond.methodLink "PushTrayLaw" (89 : Nat) ({ cls := "PushTrayModel", name := "see", desc := "(III)I" } : Jvm.MethodName)) ∈ XW := xm_4_9 (List.mem_of_getElem? (i := 0) rfl) rfl
theorem xw_4_145 : (Jvm.Cond.instanceMethod ({ cls := "PushTrayModel", name := "see", desc := "(III)I" } : Jvm.MethodName)) ∈ XW := xm_4_9 (List.mem_of_getElem? (i := 1) rfl) rfl
theorem xw_4_146 : (Jvm.Cond.selects "PushTrayModel" ({ cls := "PushTrayModel", name := "see", desc := "(III)I" } : Jvm.MethodName) ({ cls := "PushTrayModel", name := "see", desc := "(III)I" } : Jvm.MethodName)) ∈ XW := xm_4_9 (List.mem_of_getElem? (i := 2) rfl) rfl
theorem xw_4_147 : (Jvm.Cond.code ({ cls := "PushTrayModel", name := "see", desc := "(III)I" } : Jvm.MethodName) prog_8_method_57_code (4 : Nat) (Option.some Jvm.ClassFile.FieldType.int)) ∈ XW := xm_4_9 (List.mem_of_getElem? (i := 3) rfl) rfl
theorem xw_4_148 : (Jvm.Cond.methodLink "PushTrayLaw" (93 : Nat) ({ cls := "PushTrayModel", name := "forget", desc := "()I" } : Jvm.MethodName)) ∈ XW := xm_4_9 (List.mem_of_getElem? (i := 4) rfl) rfl
theorem xw_4_149 : (Jvm.Cond.instanceMethod ({ cls := "PushTrayModel", name := "forget", desc := "()I" } : Jvm.MethodName)) ∈ XW := xm_4_9 (List.mem_of_getElem? (i := 5) rfl) rfl
theorem xw_4_150 : (Jvm.Cond.selects "PushTrayModel" ({ cls := "PushTrayModel", name := "forget", desc := "()I" } : Jvm.MethodName) ({ cls := "PushTrayModel", name := "forget", desc := "()I" } : Jvm.MethodName)) ∈ XW := xm_4_9 (List.mem_of_getElem? (i := 6) rfl) rfl
theorem xw_4_151 : (Jvm.Cond.code ({ cls := "PushTrayModel", name := "forget", desc := "()I" } : Jvm.MethodName) prog_8_method_58_code (2 : Nat) (Option.some Jvm.ClassFile.FieldType.int)) ∈ XW := xm_4_9 (List.mem_of_getElem? (i := 7) rfl) rfl
theorem xw_4_152 : (Jvm.Cond.methodLink "PushTrayLaw" (97 : Nat) ({ cls := "PushTrayModel", name := "runs", desc := "(III)I" } : Jvm.MethodName)) ∈ XW := xm_4_9 (List.mem_of_getElem? (i := 8) rfl) rfl
theorem xw_4_153 : (Jvm.Cond.instanceMethod ({ cls := "PushTrayModel", name := "runs", desc := "(III)I" } : Jvm.MethodName)) ∈ XW := xm_4_9 (List.mem_of_getElem? (i := 9) rfl) rfl
theorem xw_4_154 : (Jvm.Cond.selects "PushTrayModel" ({ cls := "PushTrayModel", name := "runs", desc := "(III)I" } : Jvm.MethodName) ({ cls := "PushTrayModel", name := "runs", desc := "(III)I" } : Jvm.MethodName)) ∈ XW := xm_4_9 (List.mem_of_getElem? (i := 10) rfl) rfl
theorem xw_4_155 : (Jvm.Cond.code ({ cls := "PushTrayModel", name := "runs", desc := "(III)I" } : Jvm.MethodName) prog_8_method_66_code (4 : Nat) (Option.some Jvm.ClassFile.FieldType.int)) ∈ XW := xm_4_9 (List.mem_of_getElem? (i := 11) rfl) rfl
theorem xw_4_156 : (Jvm.Cond.methodLink "PushTrayModel" (228 : Nat) ({ cls := "PushTrayModel", name := "runsNow", desc := "(III)I" } : Jvm.MethodName)) ∈ XW := xm_4_9 (List.mem_of_getElem? (i := 12) rfl) rfl
theorem xw_4_158 : (Jvm.Cond.instanceMethod ({ cls := "PushTrayModel", name := "runsNow", desc := "(III)I" } : Jvm.MethodName)) ∈ XW := xm_4_9 (List.mem_of_getElem? (i := 14) rfl) rfl
theorem xw_4_159 : (Jvm.Cond.code ({ cls := "PushTrayModel", name := "runsNow", desc := "(III)I" } : Jvm.MethodName) prog_8_method_65_code (9 : Nat) (Option.some Jvm.ClassFile.FieldType.int)) ∈ XW := xm_4_9 (List.mem_of_getElem? (i := 15) rfl) rfl
theorem xw_4_160 : (Jvm.Cond.methodLink "PushTrayModel" (219 : Nat) ({ cls := "PushTrayModel", name := "draw", desc := "(I)I" } : Jvm.MethodName)) ∈ XW := xm_4_10 (List.mem_of_getElem? (i := 0) rfl) rfl
theorem xw_4_162 : (Jvm.Cond.instanceMethod ({ cls := "PushTrayModel", name := "draw", desc := "(I)I" } : Jvm.MethodName)) ∈ XW := xm_4_10 (List.mem_of_getElem? (i := 2) rfl) rfl
theorem xw_4_163 : (Jvm.Cond.code ({ cls := "PushTrayModel", name := "draw", desc := "(I)I" } : Jvm.MethodName) prog_8_method_62_code (2 : Nat) (Option.some Jvm.ClassFile.FieldType.int)) ∈ XW := xm_4_10 (List.mem_of_getElem? (i := 3) rfl) rfl
theorem xw_4_164 : (Jvm.Cond.constantLong "PushTrayModel" (207 : Nat) (1103515245 : Int64)) ∈ XW := xm_4_10 (List.mem_of_getElem? (i := 4) rfl) rfl
theorem xw_4_165 : (Jvm.Cond.constantLong "PushTrayModel" (213 : Nat) (12345 : Int64)) ∈ XW := xm_4_10 (List.mem_of_getElem? (i := 5) rfl) rfl
theorem xw_4_166 : (Jvm.Cond.constantLong "PushTrayModel" (215 : Nat) (2147483647 : Int64)) ∈ XW := xm_4_10 (List.mem_of_getElem? (i := 6) rfl) rfl
theorem xw_4_167 : (Jvm.Cond.constantLong "PushTrayModel" (217 : Nat) (65536 : Int64)) ∈ XW := xm_4_10 (List.mem_of_getElem? (i := 7) rfl) rfl
theorem xw_4_168 : (Jvm.Cond.methodLink "PushTrayModel" (222 : Nat) ({ cls := "PushTrayModel", name := "ofSet", desc := "(II)I" } : Jvm.MethodName)) ∈ XW := xm_4_10 (List.mem_of_getElem? (i := 8) rfl) rfl
theorem xw_4_169 : (Jvm.Cond.static ({ cls := "PushTrayModel", name := "ofSet", desc := "(II)I" } : Jvm.MethodName)) ∈ XW := xm_4_10 (List.mem_of_getElem? (i := 9) rfl) rfl
theorem xw_4_170 : (Jvm.Cond.code ({ cls := "PushTrayModel", name := "ofSet", desc := "(II)I" } : Jvm.MethodName) prog_8_method_63_code (4 : Nat) (Option.some Jvm.ClassFile.FieldType.int)) ∈ XW := xm_4_10 (List.mem_of_getElem? (i := 10) rfl) rfl
theorem xw_4_171 : (Jvm.Cond.methodLink "PushTrayModel" (225 : Nat) ({ cls := "PushTrayModel", name := "alikeIn", desc := "(I)I" } : Jvm.MethodName)) ∈ XW := xm_4_10 (List.mem_of_getElem? (i := 11) rfl) rfl
theorem xw_4_173 : (Jvm.Cond.instanceMethod ({ cls := "PushTrayModel", name := "alikeIn", desc := "(I)I" } : Jvm.MethodName)) ∈ XW := xm_4_10 (List.mem_of_getElem? (i := 13) rfl) rfl
theorem xw_4_174 : (Jvm.Cond.code ({ cls := "PushTrayModel", name := "alikeIn", desc := "(I)I" } : Jvm.MethodName) prog_8_method_64_code (4 : Nat) (Option.some Jvm.ClassFile.FieldType.int)) ∈ XW := xm_4_10 (List.mem_of_getElem? (i := 14) rfl) rfl
theorem xw_4_175 : (Jvm.Cond.methodLink "PushTrayLaw" (101 : Nat) ({ cls := "PushTrayModel", name := "image", desc := "()I" } : Jvm.MethodName)) ∈ XW := xm_4_10 (List.mem_of_getElem? (i := 15) rfl) rfl
theorem xw_4_176 : (Jvm.Cond.instanceMethod ({ cls := "PushTrayModel", name := "image", desc := "()I" } : Jvm.MethodName)) ∈ XW := xm_4_11 (List.mem_of_getElem? (i := 0) rfl) rfl
theorem xw_4_177 : (Jvm.Cond.selects "PushTrayModel" ({ cls := "PushTrayModel", name := "image", desc := "()I" } : Jvm.MethodName) ({ cls := "PushTrayModel", name := "image", desc := "()I" } : Jvm.MethodName)) ∈ XW := xm_4_11 (List.mem_of_getElem? (i := 1) rfl) rfl
theorem xw_4_178 : (Jvm.Cond.code ({ cls := "PushTrayModel", name := "image", desc := "()I" } : Jvm.MethodName) prog_8_method_67_code (2 : Nat) (Option.some Jvm.ClassFile.FieldType.int)) ∈ XW := xm_4_11 (List.mem_of_getElem? (i := 2) rfl) rfl
theorem xw_4_179 : (Jvm.Cond.methodLink "PushTrayLaw" (105 : Nat) ({ cls := "PushTrayModel", name := "restore", desc := "()I" } : Jvm.MethodName)) ∈ XW := xm_4_11 (List.mem_of_getElem? (i := 3) rfl) rfl
theorem xw_4_180 : (Jvm.Cond.instanceMethod ({ cls := "PushTrayModel", name := "restore", desc := "()I" } : Jvm.MethodName)) ∈ XW := xm_4_11 (List.mem_of_getElem? (i := 4) rfl) rfl
theorem xw_4_181 : (Jvm.Cond.selects "PushTrayModel" ({ cls := "PushTrayModel", name := "restore", desc := "()I" } : Jvm.MethodName) ({ cls := "PushTrayModel", name := "restore", desc := "()I" } : Jvm.MethodName)) ∈ XW := xm_4_11 (List.mem_of_getElem? (i := 5) rfl) rfl
theorem xw_4_182 : (Jvm.Cond.code ({ cls := "PushTrayModel", name := "restore", desc := "()I" } : Jvm.MethodName) prog_8_method_68_code (2 : Nat) (Option.some Jvm.ClassFile.FieldType.int)) ∈ XW := xm_4_11 (List.mem_of_getElem? (i := 6) rfl) rfl
theorem xw_4_183 : (Jvm.Cond.methodLink "PushTrayLaw" (109 : Nat) ({ cls := "PushTrayModel", name := "count", desc := "(I)I" } : Jvm.MethodName)) ∈ XW := xm_4_11 (List.mem_of_getElem? (i := 7) rfl) rfl
theorem xw_4_184 : (Jvm.Cond.instanceMethod ({ cls := "PushTrayModel", name := "count", desc := "(I)I" } : Jvm.MethodName)) ∈ XW := xm_4_11 (List.mem_of_getElem? (i := 8) rfl) rfl
theorem xw_4_185 : (Jvm.Cond.selects "PushTrayModel" ({ cls := "PushTrayModel", name := "count", desc := "(I)I" } : Jvm.MethodName) ({ cls := "PushTrayModel", name := "count", desc := "(I)I" } : Jvm.MethodName)) ∈ XW := xm_4_11 (List.mem_of_getElem? (i := 9) rfl) rfl
theorem xw_4_186 : (Jvm.Cond.code ({ cls := "PushTrayModel", name := "count", desc := "(I)I" } : Jvm.MethodName) prog_8_method_71_code (2 : Nat) (Option.some Jvm.ClassFile.FieldType.int)) ∈ XW := xm_4_11 (List.mem_of_getElem? (i := 10) rfl) rfl
theorem xw_4_187 : (Jvm.Cond.methodLink "PushTrayModel" (255 : Nat) ({ cls := "PushTrayModel", name := "howMany", desc := "(I)I" } : Jvm.MethodName)) ∈ XW := xm_4_11 (List.mem_of_getElem? (i := 11) rfl) rfl
theorem xw_4_189 : (Jvm.Cond.instanceMethod ({ cls := "PushTrayModel", name := "howMany", desc := "(I)I" } : Jvm.MethodName)) ∈ XW := xm_4_11 (List.mem_of_getElem? (i := 13) rfl) rfl
theorem xw_4_190 : (Jvm.Cond.code ({ cls := "PushTrayModel", name := "howMany", desc := "(I)I" } : Jvm.MethodName) prog_8_method_70_code (2 : Nat) (Option.some Jvm.ClassFile.FieldType.int)) ∈ XW := xm_4_11 (List.mem_of_getElem? (i := 14) rfl) rfl
theorem xw_4_191 : (Jvm.Cond.methodLink "PushTrayModel" (252 : Nat) ({ cls := "PushTrayModel", name := "ofTray", desc := "(I)I" } : Jvm.MethodName)) ∈ XW := xm_4_11 (List.mem_of_getElem? (i := 15) rfl) rfl
theorem xw_4_193 : (Jvm.Cond.instanceMethod ({ cls := "PushTrayModel", name := "ofTray", desc := "(I)I" } : Jvm.MethodName)) ∈ XW := xm_4_12 (List.mem_of_getElem? (i := 1) rfl) rfl
theorem xw_4_194 : (Jvm.Cond.code ({ cls := "PushTrayModel", name := "ofTray", desc := "(I)I" } : Jvm.MethodName) prog_8_method_69_code (2 : Nat) (Option.some Jvm.ClassFile.FieldType.int)) ∈ XW := xm_4_12 (List.mem_of_getElem? (i := 2) rfl) rfl
theorem xw_4_195 : (Jvm.Cond.methodLink "PushTrayLaw" (114 : Nat) ({ cls := "PushTrayModel", name := "digest", desc := "()J" } : Jvm.MethodName)) ∈ XW := xm_4_12 (List.mem_of_getElem? (i := 3) rfl) rfl
theorem xw_4_196 : (Jvm.Cond.instanceMethod ({ cls := "PushTrayModel", name := "digest", desc := "()J" } : Jvm.MethodName)) ∈ XW := xm_4_12 (List.mem_of_getElem? (i := 4) rfl) rfl
theorem xw_4_197 : (Jvm.Cond.selects "PushTrayModel" ({ cls := "PushTrayModel", name := "digest", desc := "()J" } : Jvm.MethodName) ({ cls := "PushTrayModel", name := "digest", desc := "()J" } : Jvm.MethodName)) ∈ XW := xm_4_12 (List.mem_of_getElem? (i := 5) rfl) rfl
theorem xw_4_198 : (Jvm.Cond.code ({ cls := "PushTrayModel", name := "digest", desc := "()J" } : Jvm.MethodName) prog_8_method_74_code (2 : Nat) (Option.some Jvm.ClassFile.FieldType.long)) ∈ XW := xm_4_12 (List.mem_of_getElem? (i := 6) rfl) rfl
theorem xw_4_199 : (Jvm.Cond.constantLong "PushTrayModel" (267 : Nat) (1291 : Int64)) ∈ XW := xm_4_12 (List.mem_of_getElem? (i := 7) rfl) rfl
theorem xw_4_200 : (Jvm.Cond.methodLink "PushTrayModel" (269 : Nat) ({ cls := "PushTrayModel", name := "mixTray", desc := "()V" } : Jvm.MethodName)) ∈ XW := xm_4_12 (List.mem_of_getElem? (i := 8) rfl) rfl
theorem xw_4_202 : (Jvm.Cond.instanceMethod ({ cls := "PushTrayModel", name := "mixTray", desc := "()V" } : Jvm.MethodName)) ∈ XW := xm_4_12 (List.mem_of_getElem? (i := 10) rfl) rfl
theorem xw_4_203 : (Jvm.Cond.code ({ cls := "PushTrayModel", name := "mixTray", desc := "()V" } : Jvm.MethodName) prog_8_method_73_code (3 : Nat) (Option.none : Option Jvm.ClassFile.FieldType)) ∈ XW := xm_4_12 (List.mem_of_getElem? (i := 11) rfl) rfl
theorem xw_4_204 : (Jvm.Cond.methodLink "PushTrayModel" (263 : Nat) ({ cls := "PushTrayModel", name := "mix", desc := "(J)V" } : Jvm.MethodName)) ∈ XW := xm_4_12 (List.mem_of_getElem? (i := 12) rfl) rfl
theorem xw_4_206 : (Jvm.Cond.instanceMethod ({ cls := "PushTrayModel", name := "mix", desc := "(J)V" } : Jvm.MethodName)) ∈ XW := xm_4_12 (List.mem_of_getElem? (i := 14) rfl) rfl
theorem xw_4_207 : (Jvm.Cond.code ({ cls := "PushTrayModel", name := "mix", desc := "(J)V" } : Jvm.MethodName) prog_8_method_72_code (3 : Nat) (Option.none : Option Jvm.ClassFile.FieldType)) ∈ XW := xm_4_12 (List.mem_of_getElem? (i := 15) rfl) rfl
theorem xw_4_208 : (Jvm.Cond.constantLong "PushTrayModel" (258 : Nat) (31 : Int64)) ∈ XW := xm_4_13 (List.mem_of_getElem? (i := 0) rfl) rfl
theorem xw_4_210 : (Jvm.Cond.fieldLink "PushTray$Kind" (44 : Nat) "PushTray$Kind" "priceWithinRow" "I") ∈ XW := xm_4_13 (List.mem_of_getElem? (i := 2) rfl) rfl
theorem xw_4_211 : (Jvm.Cond.fieldLink "PushTray$Kind" (47 : Nat) "PushTray$Kind" "priceBetweenRows" "I") ∈ XW := xm_4_13 (List.mem_of_getElem? (i := 3) rfl) rfl
theorem xw_4_212 : (Jvm.Cond.fieldLink "PushTray$Kind" (50 : Nat) "PushTray$Kind" "kinds" "I") ∈ XW := xm_4_13 (List.mem_of_getElem? (i := 4) rfl) rfl
theorem xs_0 : Cond.selects "PushTray$Lays" ⟨"PushTray$Lays", "spell", "(I)V"⟩ ⟨"PushTray$Lays", "spell", "(I)V"⟩ ∈ XW := xin0 (List.mem_map.mpr ⟨(⟨"PushTray$Lays", "spell", "(I)V"⟩, 5), (by have h0 : ((⟨"PushTray$Lays", "spell", "(I)V"⟩, 5) : MethodName × Nat) ∈ lw_privs_1 := List.mem_of_getElem? (i := 0) rfl; exact List.mem_append_left _ h0), rfl⟩) rfl
theorem xs_1 : Cond.selects "PushTray$Lays" ⟨"PushTray$Lays", "link", "(I)V"⟩ ⟨"PushTray$Lays", "link", "(I)V"⟩ ∈ XW := xin0 (List.mem_map.mpr ⟨(⟨"PushTray$Lays", "link", "(I)V"⟩, 5), (by have h0 : ((⟨"PushTray$Lays", "link", "(I)V"⟩, 5) : MethodName × Nat) ∈ lw_privs_1 := List.mem_of_getElem? (i := 1) rfl; exact List.mem_append_left _ h0), rfl⟩) rfl
theorem xs_2 : Cond.selects "PushTray" ⟨"PushTray", "firstWrongPlace", "()I"⟩ ⟨"PushTray", "firstWrongPlace", "()I"⟩ ∈ XW := xin0 (List.mem_map.mpr ⟨(⟨"PushTray", "firstWrongPlace", "()I"⟩, 12), (by have h0 : ((⟨"PushTray", "firstWrongPlace", "()I"⟩, 12) : MethodName × Nat) ∈ lw_privs_1 := List.mem_of_getElem? (i := 2) rfl; exact List.mem_append_left _ h0), rfl⟩) rfl
theorem xs_3 : Cond.selects "PushTray" ⟨"PushTray", "fits", "(I)Z"⟩ ⟨"PushTray", "fits", "(I)Z"⟩ ∈ XW := xin0 (List.mem_map.mpr ⟨(⟨"PushTray", "fits", "(I)Z"⟩, 12), (by have h0 : ((⟨"PushTray", "fits", "(I)Z"⟩, 12) : MethodName × Nat) ∈ lw_privs_1 := List.mem_of_getElem? (i := 3) rfl; exact List.mem_append_left _ h0), rfl⟩) rfl
theorem xs_4 : Cond.selects "PushTray" ⟨"PushTray", "isNewSign", "(II)Z"⟩ ⟨"PushTray", "isNewSign", "(II)Z"⟩ ∈ XW := xin0 (List.mem_map.mpr ⟨(⟨"PushTray", "isNewSign", "(II)Z"⟩, 12), (by have h0 : ((⟨"PushTray", "isNewSign", "(II)Z"⟩, 12) : MethodName × Nat) ∈ lw_privs_1 := List.mem_of_getElem? (i := 4) rfl; exact List.mem_append_left _ h0), rfl⟩) rfl
theorem xs_5 : Cond.selects "PushTray" ⟨"PushTray", "codeAt", "(I)I"⟩ ⟨"PushTray", "codeAt", "(I)I"⟩ ∈ XW := xin0 (List.mem_map.mpr ⟨(⟨"PushTray", "codeAt", "(I)I"⟩, 12), (by have h0 : ((⟨"PushTray", "codeAt", "(I)I"⟩, 12) : MethodName × Nat) ∈ lw_privs_1 := List.mem_of_getElem? (i := 5) rfl; exact List.mem_append_left _ h0), rfl⟩) rfl
theorem xs_6 : Cond.selects "PushTray" ⟨"PushTray", "readLay", "(I)I"⟩ ⟨"PushTray", "readLay", "(I)I"⟩ ∈ XW := xin0 (List.mem_map.mpr ⟨(⟨"PushTray", "readLay", "(I)I"⟩, 12), (by have h0 : ((⟨"PushTray", "readLay", "(I)I"⟩, 12) : MethodName × Nat) ∈ lw_privs_1 := List.mem_of_getElem? (i := 6) rfl; exact List.mem_append_left _ h0), rfl⟩) rfl
theorem xs_7 : Cond.selects "PushTray" ⟨"PushTray", "readKinds", "()I"⟩ ⟨"PushTray", "readKinds", "()I"⟩ ∈ XW := xin0 (List.mem_map.mpr ⟨(⟨"PushTray", "readKinds", "()I"⟩, 12), (by have h0 : ((⟨"PushTray", "readKinds", "()I"⟩, 12) : MethodName × Nat) ∈ lw_privs_1 := List.mem_of_getElem? (i := 7) rfl; exact List.mem_append_left _ h0), rfl⟩) rfl
theorem xs_8 : Cond.selects "PushTray" ⟨"PushTray", "isTile", "(I)Z"⟩ ⟨"PushTray", "isTile", "(I)Z"⟩ ∈ XW := xin0 (List.mem_map.mpr ⟨(⟨"PushTray", "isTile", "(I)Z"⟩, 12), (by have h0 : ((⟨"PushTray", "isTile", "(I)Z"⟩, 12) : MethodName × Nat) ∈ lw_privs_1 := List.mem_of_getElem? (i := 8) rfl; exact List.mem_append_left _ h0), rfl⟩) rfl
theorem xs_9 : Cond.selects "PushTray" ⟨"PushTray", "hasTray", "()Z"⟩ ⟨"PushTray", "hasTray", "()Z"⟩ ∈ XW := xin0 (List.mem_map.mpr ⟨(⟨"PushTray", "hasTray", "()Z"⟩, 12), (by have h0 : ((⟨"PushTray", "hasTray", "()Z"⟩, 12) : MethodName × Nat) ∈ lw_privs_1 := List.mem_of_getElem? (i := 9) rfl; exact List.mem_append_left _ h0), rfl⟩) rfl
theorem xs_10 : Cond.selects "PushTray$Spread" ⟨"PushTray$Spread", "note", "(II)V"⟩ ⟨"PushTray$Spread", "note", "(II)V"⟩ ∈ XW := xin0 (List.mem_map.mpr ⟨(⟨"PushTray$Spread", "note", "(II)V"⟩, 7), (by have h0 : ((⟨"PushTray$Spread", "note", "(II)V"⟩, 7) : MethodName × Nat) ∈ lw_privs_1 := List.mem_of_getElem? (i := 10) rfl; exact List.mem_append_left _ h0), rfl⟩) rfl
theorem xs_11 : Cond.selects "PushTray$Spread" ⟨"PushTray$Spread", "noteNeighbours", "(II)V"⟩ ⟨"PushTray$Spread", "noteNeighbours", "(II)V"⟩ ∈ XW := xin0 (List.mem_map.mpr ⟨(⟨"PushTray$Spread", "noteNeighbours", "(II)V"⟩, 7), (by have h0 : ((⟨"PushTray$Spread", "noteNeighbours", "(II)V"⟩, 7) : MethodName × Nat) ∈ lw_privs_1 := List.mem_of_getElem? (i := 11) rfl; exact List.mem_append_left _ h0), rfl⟩) rfl
theorem xs_12 : Cond.selects "PushTray" ⟨"PushTray", "isCell", "(I)Z"⟩ ⟨"PushTray", "isCell", "(I)Z"⟩ ∈ XW := xin0 (List.mem_map.mpr ⟨(⟨"PushTray", "isCell", "(I)Z"⟩, 12), (by have h0 : ((⟨"PushTray", "isCell", "(I)Z"⟩, 12) : MethodName × Nat) ∈ lw_privs_1 := List.mem_of_getElem? (i := 12) rfl; exact List.mem_append_left _ h0), rfl⟩) rfl
theorem xs_13 : Cond.selects "PushTray" ⟨"PushTray", "cheapestTile", "(I)I"⟩ ⟨"PushTray", "cheapestTile", "(I)I"⟩ ∈ XW := xin0 (List.mem_map.mpr ⟨(⟨"PushTray", "cheapestTile", "(I)I"⟩, 12), (by have h0 : ((⟨"PushTray", "cheapestTile", "(I)I"⟩, 12) : MethodName × Nat) ∈ lw_privs_1 := List.mem_of_getElem? (i := 13) rfl; exact List.mem_append_left _ h0), rfl⟩) rfl
theorem xs_14 : Cond.selects "PushTray" ⟨"PushTray", "pushesToGoal", "()I"⟩ ⟨"PushTray", "pushesToGoal", "()I"⟩ ∈ XW := xin0 (List.mem_map.mpr ⟨(⟨"PushTray", "pushesToGoal", "()I"⟩, 12), (by have h0 : ((⟨"PushTray", "pushesToGoal", "()I"⟩, 12) : MethodName × Nat) ∈ lw_privs_1 := List.mem_of_getElem? (i := 14) rfl; exact List.mem_append_left _ h0), rfl⟩) rfl
theorem xs_15 : Cond.selects "PushTray" ⟨"PushTray", "circles", "()I"⟩ ⟨"PushTray", "circles", "()I"⟩ ∈ XW := xin0 (List.mem_map.mpr ⟨(⟨"PushTray", "circles", "()I"⟩, 12), (by have h0 : ((⟨"PushTray", "circles", "()I"⟩, 12) : MethodName × Nat) ∈ lw_privs_1 := List.mem_of_getElem? (i := 15) rfl; exact List.mem_append_left _ h0), rfl⟩) rfl
theorem xs_16 : Cond.selects "PushTray$Chances" ⟨"PushTray$Chances", "share", "(III)V"⟩ ⟨"PushTray$Chances", "share", "(III)V"⟩ ∈ XW := xin0 (List.mem_map.mpr ⟨(⟨"PushTray$Chances", "share", "(III)V"⟩, 6), (by have h0 : ((⟨"PushTray$Chances", "share", "(III)V"⟩, 6) : MethodName × Nat) ∈ lw_privs_2 := List.mem_of_getElem? (i := 0) rfl; exact List.mem_append_right _ (List.mem_append_left _ h0)), rfl⟩) rfl
theorem xs_17 : Cond.selects "PushTray$Chances" ⟨"PushTray$Chances", "give", "(II)V"⟩ ⟨"PushTray$Chances", "give", "(II)V"⟩ ∈ XW := xin0 (List.mem_map.mpr ⟨(⟨"PushTray$Chances", "give", "(II)V"⟩, 6), (by have h0 : ((⟨"PushTray$Chances", "give", "(II)V"⟩, 6) : MethodName × Nat) ∈ lw_privs_2 := List.mem_of_getElem? (i := 1) rfl; exact List.mem_append_right _ (List.mem_append_left _ h0)), rfl⟩) rfl
theorem xs_18 : Cond.selects "PushTray" ⟨"PushTray", "cellsAlike", "(II)I"⟩ ⟨"PushTray", "cellsAlike", "(II)I"⟩ ∈ XW := xin0 (List.mem_map.mpr ⟨(⟨"PushTray", "cellsAlike", "(II)I"⟩, 12), (by have h0 : ((⟨"PushTray", "cellsAlike", "(II)I"⟩, 12) : MethodName × Nat) ∈ lw_privs_2 := List.mem_of_getElem? (i := 2) rfl; exact List.mem_append_right _ (List.mem_append_left _ h0)), rfl⟩) rfl
theorem xs_19 : Cond.selects "PushTray" ⟨"PushTray", "mixTiles", "(J)J"⟩ ⟨"PushTray", "mixTiles", "(J)J"⟩ ∈ XW := xin0 (List.mem_map.mpr ⟨(⟨"PushTray", "mixTiles", "(J)J"⟩, 12), (by have h0 : ((⟨"PushTray", "mixTiles", "(J)J"⟩, 12) : MethodName × Nat) ∈ lw_privs_2 := List.mem_of_getElem? (i := 3) rfl; exact List.mem_append_right _ (List.mem_append_left _ h0)), rfl⟩) rfl
theorem xs_20 : Cond.selects "PushTray" ⟨"PushTray", "mixCells", "(J)J"⟩ ⟨"PushTray", "mixCells", "(J)J"⟩ ∈ XW := xin0 (List.mem_map.mpr ⟨(⟨"PushTray", "mixCells", "(J)J"⟩, 12), (by have h0 : ((⟨"PushTray", "mixCells", "(J)J"⟩, 12) : MethodName × Nat) ∈ lw_privs_2 := List.mem_of_getElem? (i := 4) rfl; exact List.mem_append_right _ (List.mem_append_left _ h0)), rfl⟩) rfl
theorem xs_21 : Cond.selects "PushTray" ⟨"PushTray", "mixCosts", "(J)J"⟩ ⟨"PushTray", "mixCosts", "(J)J"⟩ ∈ XW := xin0 (List.mem_map.mpr ⟨(⟨"PushTray", "mixCosts", "(J)J"⟩, 12), (by have h0 : ((⟨"PushTray", "mixCosts", "(J)J"⟩, 12) : MethodName × Nat) ∈ lw_privs_2 := List.mem_of_getElem? (i := 5) rfl; exact List.mem_append_right _ (List.mem_append_left _ h0)), rfl⟩) rfl
theorem xs_22 : Cond.selects "PushTrayModel" ⟨"PushTrayModel", "read", "()I"⟩ ⟨"PushTrayModel", "read", "()I"⟩ ∈ XW := xin0 (List.mem_map.mpr ⟨(⟨"PushTrayModel", "read", "()I"⟩, 30), (by have h0 : ((⟨"PushTrayModel", "read", "()I"⟩, 30) : MethodName × Nat) ∈ lw_privs_2 := List.mem_of_getElem? (i := 6) rfl; exact List.mem_append_right _ (List.mem_append_left _ h0)), rfl⟩) rfl
theorem xs_23 : Cond.selects "PushTrayModel" ⟨"PushTrayModel", "readCells", "(I)I"⟩ ⟨"PushTrayModel", "readCells", "(I)I"⟩ ∈ XW := xin0 (List.mem_map.mpr ⟨(⟨"PushTrayModel", "readCells", "(I)I"⟩, 30), (by have h0 : ((⟨"PushTrayModel", "readCells", "(I)I"⟩, 30) : MethodName × Nat) ∈ lw_privs_2 := List.mem_of_getElem? (i := 7) rfl; exact List.mem_append_right _ (List.mem_append_left _ h0)), rfl⟩) rfl
theorem xs_24 : Cond.selects "PushTrayModel" ⟨"PushTrayModel", "signAt", "(I)I"⟩ ⟨"PushTrayModel", "signAt", "(I)I"⟩ ∈ XW := xin0 (List.mem_map.mpr ⟨(⟨"PushTrayModel", "signAt", "(I)I"⟩, 30), (by have h0 : ((⟨"PushTrayModel", "signAt", "(I)I"⟩, 30) : MethodName × Nat) ∈ lw_privs_2 := List.mem_of_getElem? (i := 8) rfl; exact List.mem_append_right _ (List.mem_append_left _ h0)), rfl⟩) rfl
theorem xs_25 : Cond.selects "PushTrayModel" ⟨"PushTrayModel", "at", "(I)I"⟩ ⟨"PushTrayModel", "at", "(I)I"⟩ ∈ XW := xin0 (List.mem_map.mpr ⟨(⟨"PushTrayModel", "at", "(I)I"⟩, 30), (by have h0 : ((⟨"PushTrayModel", "at", "(I)I"⟩, 30) : MethodName × Nat) ∈ lw_privs_2 := List.mem_of_getElem? (i := 9) rfl; exact List.mem_append_right _ (List.mem_append_left _ h0)), rfl⟩) rfl
theorem xs_26 : Cond.selects "PushTrayModel" ⟨"PushTrayModel", "cellsAt", "(I)I"⟩ ⟨"PushTrayModel", "cellsAt", "(I)I"⟩ ∈ XW := xin0 (List.mem_map.mpr ⟨(⟨"PushTrayModel", "cellsAt", "(I)I"⟩, 30), (by have h0 : ((⟨"PushTrayModel", "cellsAt", "(I)I"⟩, 30) : MethodName × Nat) ∈ lw_privs_2 := List.mem_of_getElem? (i := 10) rfl; exact List.mem_append_right _ (List.mem_append_left _ h0)), rfl⟩) rfl
theorem xs_27 : Cond.selects "PushTrayModel" ⟨"PushTrayModel", "isTile", "(I)Z"⟩ ⟨"PushTrayModel", "isTile", "(I)Z"⟩ ∈ XW := xin0 (List.mem_map.mpr ⟨(⟨"PushTrayModel", "isTile", "(I)Z"⟩, 30), (by have h0 : ((⟨"PushTrayModel", "isTile", "(I)Z"⟩, 30) : MethodName × Nat) ∈ lw_privs_2 := List.mem_of_getElem? (i := 11) rfl; exact List.mem_append_right _ (List.mem_append_left _ h0)), rfl⟩) rfl
theorem xs_28 : Cond.selects "PushTrayModel" ⟨"PushTrayModel", "tileNow", "(II)I"⟩ ⟨"PushTrayModel", "tileNow", "(II)I"⟩ ∈ XW := xin0 (List.mem_map.mpr ⟨(⟨"PushTrayModel", "tileNow", "(II)I"⟩, 30), (by have h0 : ((⟨"PushTrayModel", "tileNow", "(II)I"⟩, 30) : MethodName × Nat) ∈ lw_privs_2 := List.mem_of_getElem? (i := 12) rfl; exact List.mem_append_right _ (List.mem_append_left _ h0)), rfl⟩) rfl
theorem xs_29 : Cond.selects "PushTrayModel" ⟨"PushTrayModel", "costIn", "(II)I"⟩ ⟨"PushTrayModel", "costIn", "(II)I"⟩ ∈ XW := xin0 (List.mem_map.mpr ⟨(⟨"PushTrayModel", "costIn", "(II)I"⟩, 30), (by have h0 : ((⟨"PushTrayModel", "costIn", "(II)I"⟩, 30) : MethodName × Nat) ∈ lw_privs_2 := List.mem_of_getElem? (i := 13) rfl; exact List.mem_append_right _ (List.mem_append_left _ h0)), rfl⟩) rfl
theorem xs_30 : Cond.selects "PushTrayModel" ⟨"PushTrayModel", "sortsOf", "(I)I"⟩ ⟨"PushTrayModel", "sortsOf", "(I)I"⟩ ∈ XW := xin0 (List.mem_map.mpr ⟨(⟨"PushTrayModel", "sortsOf", "(I)I"⟩, 30), (by have h0 : ((⟨"PushTrayModel", "sortsOf", "(I)I"⟩, 30) : MethodName × Nat) ∈ lw_privs_2 := List.mem_of_getElem? (i := 14) rfl; exact List.mem_append_right _ (List.mem_append_left _ h0)), rfl⟩) rfl
theorem xs_31 : Cond.selects "PushTrayModel" ⟨"PushTrayModel", "wayFor", "(I)I"⟩ ⟨"PushTrayModel", "wayFor", "(I)I"⟩ ∈ XW := xin0 (List.mem_map.mpr ⟨(⟨"PushTrayModel", "wayFor", "(I)I"⟩, 30), (by have h0 : ((⟨"PushTrayModel", "wayFor", "(I)I"⟩, 30) : MethodName × Nat) ∈ lw_privs_2 := List.mem_of_getElem? (i := 15) rfl; exact List.mem_append_right _ (List.mem_append_left _ h0)), rfl⟩) rfl
theorem xs_32 : Cond.selects "PushTrayModel" ⟨"PushTrayModel", "homeNow", "(II)I"⟩ ⟨"PushTrayModel", "homeNow", "(II)I"⟩ ∈ XW := xin0 (List.mem_map.mpr ⟨(⟨"PushTrayModel", "homeNow", "(II)I"⟩, 30), (by have h0 : ((⟨"PushTrayModel", "homeNow", "(II)I"⟩, 30) : MethodName × Nat) ∈ lw_privs_3 := List.mem_of_getElem? (i := 0) rfl; exact List.mem_append_right _ (List.mem_append_right _ (List.mem_append_left _ h0))), rfl⟩) rfl
theorem xs_33 : Cond.selects "PushTrayModel" ⟨"PushTrayModel", "layCosts", "(I)I"⟩ ⟨"PushTrayModel", "layCosts", "(I)I"⟩ ∈ XW := xin0 (List.mem_map.mpr ⟨(⟨"PushTrayModel", "layCosts", "(I)I"⟩, 30), (by have h0 : ((⟨"PushTrayModel", "layCosts", "(I)I"⟩, 30) : MethodName × Nat) ∈ lw_privs_3 := List.mem_of_getElem? (i := 1) rfl; exact List.mem_append_right _ (List.mem_append_right _ (List.mem_append_left _ h0))), rfl⟩) rfl
theorem xs_34 : Cond.selects "PushTrayModel" ⟨"PushTrayModel", "comeFrom", "(II)V"⟩ ⟨"PushTrayModel", "comeFrom", "(II)V"⟩ ∈ XW := xin0 (List.mem_map.mpr ⟨(⟨"PushTrayModel", "comeFrom", "(II)V"⟩, 30), (by have h0 : ((⟨"PushTrayModel", "comeFrom", "(II)V"⟩, 30) : MethodName × Nat) ∈ lw_privs_3 := List.mem_of_getElem? (i := 2) rfl; exact List.mem_append_right _ (List.mem_append_right _ (List.mem_append_left _ h0))), rfl⟩) rfl
theorem xs_35 : Cond.selects "PushTrayModel" ⟨"PushTrayModel", "mayBePushed", "(I)I"⟩ ⟨"PushTrayModel", "mayBePushed", "(I)I"⟩ ∈ XW := xin0 (List.mem_map.mpr ⟨(⟨"PushTrayModel", "mayBePushed", "(I)I"⟩, 30), (by have h0 : ((⟨"PushTrayModel", "mayBePushed", "(I)I"⟩, 30) : MethodName × Nat) ∈ lw_privs_3 := List.mem_of_getElem? (i := 3) rfl; exact List.mem_append_right _ (List.mem_append_right _ (List.mem_append_left _ h0))), rfl⟩) rfl
theorem xs_36 : Cond.selects "PushTrayModel" ⟨"PushTrayModel", "isCell", "(I)Z"⟩ ⟨"PushTrayModel", "isCell", "(I)Z"⟩ ∈ XW := xin0 (List.mem_map.mpr ⟨(⟨"PushTrayModel", "isCell", "(I)Z"⟩, 30), (by have h0 : ((⟨"PushTrayModel", "isCell", "(I)Z"⟩, 30) : MethodName × Nat) ∈ lw_privs_3 := List.mem_of_getElem? (i := 4) rfl; exact List.mem_append_right _ (List.mem_append_right _ (List.mem_append_left _ h0))), rfl⟩) rfl
theorem xs_37 : Cond.selects "PushTrayModel" ⟨"PushTrayModel", "cellNow", "(II)I"⟩ ⟨"PushTrayModel", "cellNow", "(II)I"⟩ ∈ XW := xin0 (List.mem_map.mpr ⟨(⟨"PushTrayModel", "cellNow", "(II)I"⟩, 30), (by have h0 : ((⟨"PushTrayModel", "cellNow", "(II)I"⟩, 30) : MethodName × Nat) ∈ lw_privs_3 := List.mem_of_getElem? (i := 5) rfl; exact List.mem_append_right _ (List.mem_append_right _ (List.mem_append_left _ h0))), rfl⟩) rfl
theorem xs_38 : Cond.selects "PushTrayModel" ⟨"PushTrayModel", "leastNow", "(I)I"⟩ ⟨"PushTrayModel", "leastNow", "(I)I"⟩ ∈ XW := xin0 (List.mem_map.mpr ⟨(⟨"PushTrayModel", "leastNow", "(I)I"⟩, 30), (by have h0 : ((⟨"PushTrayModel", "leastNow", "(I)I"⟩, 30) : MethodName × Nat) ∈ lw_privs_3 := List.mem_of_getElem? (i := 6) rfl; exact List.mem_append_right _ (List.mem_append_right _ (List.mem_append_left _ h0))), rfl⟩) rfl
theorem xs_39 : Cond.selects "PushTrayModel" ⟨"PushTrayModel", "costOf", "(I)I"⟩ ⟨"PushTrayModel", "costOf", "(I)I"⟩ ∈ XW := xin0 (List.mem_map.mpr ⟨(⟨"PushTrayModel", "costOf", "(I)I"⟩, 30), (by have h0 : ((⟨"PushTrayModel", "costOf", "(I)I"⟩, 30) : MethodName × Nat) ∈ lw_privs_3 := List.mem_of_getElem? (i := 7) rfl; exact List.mem_append_right _ (List.mem_append_right _ (List.mem_append_left _ h0))), rfl⟩) rfl
theorem xs_40 : Cond.selects "PushTrayModel" ⟨"PushTrayModel", "firstOf", "(I)I"⟩ ⟨"PushTrayModel", "firstOf", "(I)I"⟩ ∈ XW := xin0 (List.mem_map.mpr ⟨(⟨"PushTrayModel", "firstOf", "(I)I"⟩, 30), (by have h0 : ((⟨"PushTrayModel", "firstOf", "(I)I"⟩, 30) : MethodName × Nat) ∈ lw_privs_3 := List.mem_of_getElem? (i := 8) rfl; exact List.mem_append_right _ (List.mem_append_right _ (List.mem_append_left _ h0))), rfl⟩) rfl
theorem xs_41 : Cond.selects "PushTrayModel" ⟨"PushTrayModel", "reachNow", "(I)I"⟩ ⟨"PushTrayModel", "reachNow", "(I)I"⟩ ∈ XW := xin0 (List.mem_map.mpr ⟨(⟨"PushTrayModel", "reachNow", "(I)I"⟩, 30), (by have h0 : ((⟨"PushTrayModel", "reachNow", "(I)I"⟩, 30) : MethodName × Nat) ∈ lw_privs_3 := List.mem_of_getElem? (i := 9) rfl; exact List.mem_append_right _ (List.mem_append_right _ (List.mem_append_left _ h0))), rfl⟩) rfl
theorem xs_42 : Cond.selects "PushTrayModel" ⟨"PushTrayModel", "swapsNow", "()I"⟩ ⟨"PushTrayModel", "swapsNow", "()I"⟩ ∈ XW := xin0 (List.mem_map.mpr ⟨(⟨"PushTrayModel", "swapsNow", "()I"⟩, 30), (by have h0 : ((⟨"PushTrayModel", "swapsNow", "()I"⟩, 30) : MethodName × Nat) ∈ lw_privs_3 := List.mem_of_getElem? (i := 10) rfl; exact List.mem_append_right _ (List.mem_append_right _ (List.mem_append_left _ h0))), rfl⟩) rfl
theorem xs_43 : Cond.selects "PushTrayModel" ⟨"PushTrayModel", "cheapNow", "(I)I"⟩ ⟨"PushTrayModel", "cheapNow", "(I)I"⟩ ∈ XW := xin0 (List.mem_map.mpr ⟨(⟨"PushTrayModel", "cheapNow", "(I)I"⟩, 30), (by have h0 : ((⟨"PushTrayModel", "cheapNow", "(I)I"⟩, 30) : MethodName × Nat) ∈ lw_privs_3 := List.mem_of_getElem? (i := 11) rfl; exact List.mem_append_right _ (List.mem_append_right _ (List.mem_append_left _ h0))), rfl⟩) rfl
theorem xs_44 : Cond.selects "PushTrayModel" ⟨"PushTrayModel", "oddsNow", "(IIII)I"⟩ ⟨"PushTrayModel", "oddsNow", "(IIII)I"⟩ ∈ XW := xin0 (List.mem_map.mpr ⟨(⟨"PushTrayModel", "oddsNow", "(IIII)I"⟩, 30), (by have h0 : ((⟨"PushTrayModel", "oddsNow", "(IIII)I"⟩, 30) : MethodName × Nat) ∈ lw_privs_3 := List.mem_of_getElem? (i := 12) rfl; exact List.mem_append_right _ (List.mem_append_right _ (List.mem_append_left _ h0))), rfl⟩) rfl
theorem xs_45 : Cond.selects "PushTrayModel" ⟨"PushTrayModel", "layParts", "(I)V"⟩ ⟨"PushTrayModel", "layParts", "(I)V"⟩ ∈ XW := xin0 (List.mem_map.mpr ⟨(⟨"PushTrayModel", "layParts", "(I)V"⟩, 30), (by have h0 : ((⟨"PushTrayModel", "layParts", "(I)V"⟩, 30) : MethodName × Nat) ∈ lw_privs_3 := List.mem_of_getElem? (i := 13) rfl; exact List.mem_append_right _ (List.mem_append_right _ (List.mem_append_left _ h0))), rfl⟩) rfl
theorem xs_46 : Cond.selects "PushTrayModel" ⟨"PushTrayModel", "drawPush", "(I)V"⟩ ⟨"PushTrayModel", "drawPush", "(I)V"⟩ ∈ XW := xin0 (List.mem_map.mpr ⟨(⟨"PushTrayModel", "drawPush", "(I)V"⟩, 30), (by have h0 : ((⟨"PushTrayModel", "drawPush", "(I)V"⟩, 30) : MethodName × Nat) ∈ lw_privs_3 := List.mem_of_getElem? (i := 14) rfl; exact List.mem_append_right _ (List.mem_append_right _ (List.mem_append_left _ h0))), rfl⟩) rfl
theorem xs_47 : Cond.selects "PushTrayModel" ⟨"PushTrayModel", "runsNow", "(III)I"⟩ ⟨"PushTrayModel", "runsNow", "(III)I"⟩ ∈ XW := xin0 (List.mem_map.mpr ⟨(⟨"PushTrayModel", "runsNow", "(III)I"⟩, 30), (by have h0 : ((⟨"PushTrayModel", "runsNow", "(III)I"⟩, 30) : MethodName × Nat) ∈ lw_privs_3 := List.mem_of_getElem? (i := 15) rfl; exact List.mem_append_right _ (List.mem_append_right _ (List.mem_append_left _ h0))), rfl⟩) rfl
theorem xs_48 : Cond.selects "PushTrayModel" ⟨"PushTrayModel", "draw", "(I)I"⟩ ⟨"PushTrayModel", "draw", "(I)I"⟩ ∈ XW := xin0 (List.mem_map.mpr ⟨(⟨"PushTrayModel", "draw", "(I)I"⟩, 30), (by have h0 : ((⟨"PushTrayModel", "draw", "(I)I"⟩, 30) : MethodName × Nat) ∈ lw_privs_4 := List.mem_of_getElem? (i := 0) rfl; exact List.mem_append_right _ (List.mem_append_right _ (List.mem_append_right _ (h0)))), rfl⟩) rfl
theorem xs_49 : Cond.selects "PushTrayModel" ⟨"PushTrayModel", "alikeIn", "(I)I"⟩ ⟨"PushTrayModel", "alikeIn", "(I)I"⟩ ∈ XW := xin0 (List.mem_map.mpr ⟨(⟨"PushTrayModel", "alikeIn", "(I)I"⟩, 30), (by have h0 : ((⟨"PushTrayModel", "alikeIn", "(I)I"⟩, 30) : MethodName × Nat) ∈ lw_privs_4 := List.mem_of_getElem? (i := 1) rfl; exact List.mem_append_right _ (List.mem_append_right _ (List.mem_append_right _ (h0)))), rfl⟩) rfl
theorem xs_50 : Cond.selects "PushTrayModel" ⟨"PushTrayModel", "howMany", "(I)I"⟩ ⟨"PushTrayModel", "howMany", "(I)I"⟩ ∈ XW := xin0 (List.mem_map.mpr ⟨(⟨"PushTrayModel", "howMany", "(I)I"⟩, 30), (by have h0 : ((⟨"PushTrayModel", "howMany", "(I)I"⟩, 30) : MethodName × Nat) ∈ lw_privs_4 := List.mem_of_getElem? (i := 2) rfl; exact List.mem_append_right _ (List.mem_append_right _ (List.mem_append_right _ (h0)))), rfl⟩) rfl
theorem xs_51 : Cond.selects "PushTrayModel" ⟨"PushTrayModel", "ofTray", "(I)I"⟩ ⟨"PushTrayModel", "ofTray", "(I)I"⟩ ∈ XW := xin0 (List.mem_map.mpr ⟨(⟨"PushTrayModel", "ofTray", "(I)I"⟩, 30), (by have h0 : ((⟨"PushTrayModel", "ofTray", "(I)I"⟩, 30) : MethodName × Nat) ∈ lw_privs_4 := List.mem_of_getElem? (i := 3) rfl; exact List.mem_append_right _ (List.mem_append_right _ (List.mem_append_right _ (h0)))), rfl⟩) rfl
theorem xs_52 : Cond.selects "PushTrayModel" ⟨"PushTrayModel", "mixTray", "()V"⟩ ⟨"PushTrayModel", "mixTray", "()V"⟩ ∈ XW := xin0 (List.mem_map.mpr ⟨(⟨"PushTrayModel", "mixTray", "()V"⟩, 30), (by have h0 : ((⟨"PushTrayModel", "mixTray", "()V"⟩, 30) : MethodName × Nat) ∈ lw_privs_4 := List.mem_of_getElem? (i := 4) rfl; exact List.mem_append_right _ (List.mem_append_right _ (List.mem_append_right _ (h0)))), rfl⟩) rfl
theorem xs_53 : Cond.selects "PushTrayModel" ⟨"PushTrayModel", "mix", "(J)V"⟩ ⟨"PushTrayModel", "mix", "(J)V"⟩ ∈ XW := xin0 (List.mem_map.mpr ⟨(⟨"PushTrayModel", "mix", "(J)V"⟩, 30), (by have h0 : ((⟨"PushTrayModel", "mix", "(J)V"⟩, 30) : MethodName × Nat) ∈ lw_privs_4 := List.mem_of_getElem? (i := 5) rfl; exact List.mem_append_right _ (List.mem_append_right _ (List.mem_append_right _ (h0)))), rfl⟩) rfl
end
section
-- ===== the abstract machine: 35 cells by number, ints by field, arrays by content; its judgement Zr is W over all concrete states =====
abbrev Wd : Type := (Nat → Nat → Int32) × (Nat → Nat → Int64) × (Nat → Nat) × (Nat → Nat → Int32)
abbrev wI (w : Wd) (i f : Nat) : Int32 := w.1 i f
abbrev wJ (w : Wd) (i f : Nat) : Int64 := w.2.1 i f
abbrev wP (w : Wd) (f : Nat) : Nat := w.2.2.1 f
abbrev wA (w : Wd) (a : Nat) : Nat → Int32 := w.2.2.2 a
def sI (w : Wd) (i f : Nat) (v : Int32) : Wd := (fun a b => if a = i ∧ b = f then v else w.1 a b, w.2)
def sJ (w : Wd) (i f : Nat) (v : Int64) : Wd := (w.1, fun a b => if a = i ∧ b = f then v else w.2.1 a b, w.2.2)
def sP (w : Wd) (f r : Nat) : Wd := (w.1, w.2.1, fun b => if b = f then r else w.2.2.1 b, w.2.2.2)
def sA (w : Wd) (a : Nat) (g : Nat → Int32) : Wd := (w.1, w.2.1, w.2.2.1, fun b => if b = a then g else w.2.2.2 b)
abbrev xSh : Type := (Nat × List Nat) ⊕ (Nat × Nat)
/-- the cells: an object with its class and fields (0 int, 1 long, 2 one of the two arrays of parts, else a fixed cell and 10), or an array with its kind (0 int, 1 byte) and length -/
def SH : List xSh := [.inl (1, [11, 12, 13, 14, 15]), .inr (0, 4320), .inr (0, 4320), .inr (0, 4320), .inr (0, 4320), .inr (0, 6), .inl (2, [10, 17, 18, 0, 0, 0, 0]), .inr (0, 720), .inr (0, 720), .inl (2, [10, 20, 21, 0, 0, 0, 0]), .inr (0, 720), .inr (0, 720), .inl (0, [10, 2, 2, 0, 0, 0]), .inr (0, 720), .inr (0, 720), .inl (3, [0, 0, 0, 0, 0, 0, 26]), .inr (0, 5), .inl (3, [0, 0, 0, 0, 0, 0, 28]), .inr (0, 5), .inl (4, [10, 16, 19, 22, 25, 27, 30, 31, 0, 0, 0, 0]), .inr (0, 22), .inr (0, 6), .inl (5, [0, 0, 0, 33, 0, 0, 0, 0, 34, 35, 36, 0, 37, 0, 38, 39, 40, 1, 0, 0, 0, 0, 0, 0, 0, 41, 42, 43, 44, 1]), .inr (0, 5), .inr (0, 6), .inr (0, 6), .inr (0, 6), .inr (1, 22), .inr (0, 720), .inr (0, 720), .inr (0, 720), .inr (0, 5), .inr (0, 6), .inr (0, 6), .inr (0, 6)]
def cv (ad : Nat → Nat) : Value → Value := fun v => match v with
  | .ref r => .ref (ad r)
  | z => z
theorem cv_cat (ad : Nat → Nat) (v : Value) : (cv ad v).category = v.category := by cases v <;> rfl
def fldv (ad : Nat → Nat) (w : Wd) (i f d : Nat) : Value := if d = 0 then .int (w.1 i f) else if d = 1 then .long (w.2.1 i f) else if d = 2 then .ref (ad (w.2.2.1 f)) else .ref (ad (d - 10))
def flds (ad : Nat → Nat) (w : Wd) (i : Nat) (ds : List Nat) : List Value := ds.mapIdx (fun f d => fldv ad w i f d)
def cel (ad : Nat → Nat) (cid : Nat → ClassId) (w : Wd) (i : Nat) (e : xSh) : va_E := match e with
  | .inl (ci, ds) => .inr (ci, flds ad w i ds)
  | .inr (b, n) => .inl (cid b, n, .inl (w.2.2.2 i))
def cells (ad : Nat → Nat) (cid : Nat → ClassId) (mm : Nat) (w : Wd) : va_W := (SH.take mm).mapIdx (fun i e => (ad i, cel ad cid w i e))
theorem cells_at {ad : Nat → Nat} {cid : Nat → ClassId} {mm : Nat} {w : Wd} {i : Nat} {e : xSh} (h : SH[i]? = some e) (hm : i < mm) : (cells ad cid mm w)[i]? = some (ad i, cel ad cid w i e) := by
  unfold cells
  rw [List.getElem?_mapIdx, List.getElem?_take, if_pos hm, h]
  rfl
theorem cells_of {ad : Nat → Nat} {cid : Nat → ClassId} {mm : Nat} {w : Wd} {i : Nat} {q : Nat × va_E} (h : (cells ad cid mm w)[i]? = some q) : ∃ e, SH[i]? = some e ∧ i < mm ∧ q = (ad i, cel ad cid w i e) := by
  unfold cells at h
  rw [List.getElem?_mapIdx, List.getElem?_take] at h
  by_cases hm : i < mm
  · rw [if_pos hm] at h
    cases hs : SH[i]? with
    | none => rw [hs] at h; cases h
    | some e => rw [hs] at h; exact ⟨e, rfl, hm, (Option.some.inj h).symm⟩
  · rw [if_neg hm] at h; cases h
theorem cells_set {ad : Nat → Nat} {cid : Nat → ClassId} {mm : Nat} {w w' : Wd} {i : Nat} {e : xSh} (h : SH[i]? = some e) (ho : ∀ j e', j ≠ i → cel ad cid w' j e' = cel ad cid w j e') : (cells ad cid mm w).set i (ad i, cel ad cid w' i e) = cells ad cid mm w' := by
  apply List.ext_getElem?
  intro j
  by_cases hj : j = i
  · subst hj
    by_cases hm : j < mm
    · have h1 := cells_at (ad := ad) (cid := cid) (w := w) h hm
      rw [List.getElem?_set_self (List.getElem?_eq_some_iff.mp h1).1]
      exact (cells_at h hm).symm
    · have n1 : (cells ad cid mm w)[j]? = none := by
        cases hq : (cells ad cid mm w)[j]? with
        | none => rfl
        | some q => obtain ⟨_, _, h2, _⟩ := cells_of hq; exact absurd h2 hm
      have n2 : (cells ad cid mm w')[j]? = none := by
        cases hq : (cells ad cid mm w')[j]? with
        | none => rfl
        | some q => obtain ⟨_, _, h2, _⟩ := cells_of hq; exact absurd h2 hm
      rw [n2]
      apply List.getElem?_eq_none
      have := List.getElem?_eq_none_iff.mp n1
      simpa using this
  · rw [List.getElem?_set_ne (Ne.symm hj)]
    unfold cells
    rw [List.getElem?_mapIdx, List.getElem?_mapIdx]
    cases (SH.take mm)[j]? with
    | none => rfl
    | some e' => show some (ad j, cel ad cid w j e') = some (ad j, cel ad cid w' j e'); rw [ho j e' hj]
theorem flds_at {ad : Nat → Nat} {w : Wd} {i f d : Nat} {ds : List Nat} (h : ds[f]? = some d) : (flds ad w i ds)[f]? = some (fldv ad w i f d) := by
  unfold flds
  rw [List.getElem?_mapIdx, h]
  rfl
theorem flds_set {ad : Nat → Nat} {w w' : Wd} {i f d : Nat} {ds : List Nat} {v : Value} (h : ds[f]? = some d) (hv : fldv ad w' i f d = v) (ho : ∀ g d', g ≠ f → fldv ad w' i g d' = fldv ad w i g d') : (flds ad w i ds).set f v = flds ad w' i ds := by
  apply List.ext_getElem?
  intro j
  by_cases hj : j = f
  · subst hj
    rw [List.getElem?_set_self (List.getElem?_eq_some_iff.mp (flds_at (ad := ad) (w := w) (i := i) h)).1, flds_at h, hv]
  · rw [List.getElem?_set_ne (Ne.symm hj)]
    unfold flds
    rw [List.getElem?_mapIdx, List.getElem?_mapIdx]
    cases ds[j]? with
    | none => rfl
    | some d' => show some (fldv ad w i j d') = some (fldv ad w' i j d'); rw [ho j d' hj]
theorem cel_sI {ad : Nat → Nat} {cid : Nat → ClassId} {w : Wd} {i f : Nat} {v : Int32} : ∀ j e', j ≠ i → cel ad cid (sI w i f v) j e' = cel ad cid w j e' := by
  intro j e' hj
  cases e' with
  | inl o =>
    show Sum.inr (o.1, flds ad (sI w i f v) j o.2) = Sum.inr (o.1, flds ad w j o.2)
    have : flds ad (sI w i f v) j o.2 = flds ad w j o.2 := by
      unfold flds
      congr 1
      funext g d
      simp [fldv, sI, hj]
    rw [this]
  | inr a => rfl
theorem cel_sJ {ad : Nat → Nat} {cid : Nat → ClassId} {w : Wd} {i f : Nat} {v : Int64} : ∀ j e', j ≠ i → cel ad cid (sJ w i f v) j e' = cel ad cid w j e' := by
  intro j e' hj
  cases e' with
  | inl o =>
    show Sum.inr (o.1, flds ad (sJ w i f v) j o.2) = Sum.inr (o.1, flds ad w j o.2)
    have : flds ad (sJ w i f v) j o.2 = flds ad w j o.2 := by
      unfold flds
      congr 1
      funext g d
      simp [fldv, sJ, hj]
    rw [this]
  | inr a => rfl
theorem cel_sA {ad : Nat → Nat} {cid : Nat → ClassId} {w : Wd} {a : Nat} {g : Nat → Int32} : ∀ j e', j ≠ a → cel ad cid (sA w a g) j e' = cel ad cid w j e' := by
  intro j e' hj
  cases e' with
  | inl o => rfl
  | inr b =>
    show Sum.inl (cid b.1, b.2, Sum.inl (if j = a then g else w.2.2.2 j)) = Sum.inl (cid b.1, b.2, Sum.inl (w.2.2.2 j))
    rw [if_neg hj]
/-- only cell 12 has fields of kind 2 -/
def noP (e : xSh) : Prop := match e with
  | .inl o => ∀ d ∈ o.2, d ≠ 2
  | .inr _ => True
theorem SH_noP : ∀ j e, SH[j]? = some e → j ≠ 12 → noP e := by
  have h : ∀ j, j < 35 → j ≠ 12 → ∀ e, SH[j]? = some e → (match e with | .inl o => o.2.all (fun d => d != 2) | .inr _ => true) = true := by
    intro j hj hn e he
    have hd : (List.range 35).all (fun j => j == 12 || (match SH[j]? with | some (.inl o) => o.2.all (fun d => d != 2) | _ => true)) = true := by decide +kernel
    have h1 := List.all_eq_true.mp hd j (List.mem_range.mpr hj)
    rw [he] at h1
    have h2 : (j == 12) = false := by simpa using hn
    rw [h2] at h1
    cases e with
    | inl o => simpa using h1
    | inr b => rfl
  intro j e he hj
  have hl : j < 35 := (List.getElem?_eq_some_iff.mp he).1
  have h1 := h j hl hj e he
  cases e with
  | inl o =>
    intro d hd
    have := List.all_eq_true.mp h1 d hd
    simpa using this
  | inr b => trivial
/-- what is known of the constants -/
abbrev nestW : List Cond := [(Jvm.Cond.fieldLinkNest "PushTray$Lays" (34 : Nat) "PushTray" "ORDERS" "[I" "PushTray"), (Jvm.Cond.methodLinkNest "PushTray$Lays" (50 : Nat) ({ cls := "PushTray", name := "areNext", desc := "(II)Z" } : Jvm.MethodName) "PushTray"), (Jvm.Cond.methodLinkNest "PushTray$Lays" (58 : Nat) ({ cls := "PushTray", name := "isOneRow", desc := "(II)Z" } : Jvm.MethodName) "PushTray"), (Jvm.Cond.methodLinkNest "PushTray" (37 : Nat) ({ cls := "PushTray$Standing", name := "<init>", desc := "()V" } : Jvm.MethodName) "PushTray"), (Jvm.Cond.fieldLinkNest "PushTray" (82 : Nat) "PushTray$Standing" "lay" "I" "PushTray"), (Jvm.Cond.fieldLinkNest "PushTray" (99 : Nat) "PushTray$Standing" "goal" "I" "PushTray"), (Jvm.Cond.fieldLinkNest "PushTray" (93 : Nat) "PushTray$Standing" "kinds" "I" "PushTray"), (Jvm.Cond.fieldLinkNest "PushTray" (144 : Nat) "PushTray$Standing" "pushes" "I" "PushTray"), (Jvm.Cond.fieldLinkNest "PushTray" (150 : Nat) "PushTray$Standing" "costs" "I" "PushTray"), (Jvm.Cond.fieldLinkNest "PushTray" (199 : Nat) "PushTray$Standing" "seen" "I" "PushTray"), (Jvm.Cond.fieldLinkNest "PushTray$Lays" (72 : Nat) "PushTray" "KINDS" "[LPushTray$Kind;" "PushTray"), (Jvm.Cond.methodLinkNest "PushTray$Lays" (76 : Nat) ({ cls := "PushTray", name := "kindOf", desc := "(II)I" } : Jvm.MethodName) "PushTray"), (Jvm.Cond.methodLinkNest "PushTray$Standing" (43 : Nat) ({ cls := "PushTray", name := "isWithin", desc := "(III)Z" } : Jvm.MethodName) "PushTray"), (Jvm.Cond.methodLinkNest "PushTray$Spread" (58 : Nat) ({ cls := "PushTray", name := "isWithin", desc := "(III)Z" } : Jvm.MethodName) "PushTray"), (Jvm.Cond.methodLinkNest "PushTray$Chances" (38 : Nat) ({ cls := "PushTray", name := "isWithin", desc := "(III)Z" } : Jvm.MethodName) "PushTray"), (Jvm.Cond.fieldLinkNest "PushTray" (277 : Nat) "PushTray$Kind" "letter" "I" "PushTray")]
def kLet (k : Nat) : Int32 := [116, 104, 110, 115, 111].getD k 0
def kIn (k : Nat) : Int32 := [1, 2, 0, 1, 3].getD k 0
def kBet (k : Nat) : Int32 := [1, 2, 0, 0, 3].getD k 0
def kBits (k : Nat) : Int32 := [1, 3, 5, 9, 19].getD k 0
def ordv (j : Nat) : Int32 := [120, 24, 6, 2, 1, 1].getD j 0
def SK (ad : Nat → Nat) (A : Nat → Prop) (U : State) (H : Heap) : Prop :=
  (∀ w ∈ nestW, va_Nw w U) ∧ va_Z "PushTray" "ORDERS" "[I" (.ref (ad 1000)) A U H ∧ va_T .int (ad 1000) 6 (fun j => .int (ordv j)) A U H ∧
  va_Z "PushTray" "KINDS" "[LPushTray$Kind;" (.ref (ad 1001)) A U H ∧ va_T (.object "PushTray$Kind") (ad 1001) 5 (fun j => .ref (ad (2000 + j))) A U H ∧
  (∀ k, k < 5 → va_O "PushTray$Kind" (ad (2000 + k)) A U H) ∧
  va_Ef 5 "PushTray$Kind" "letter" "I" (fun k => .int (kLet k)) (fun k => ad (2000 + k)) A U H ∧
  va_Ef 5 "PushTray$Kind" "priceWithinRow" "I" (fun k => .int (kIn k)) (fun k => ad (2000 + k)) A U H ∧
  va_Ef 5 "PushTray$Kind" "priceBetweenRows" "I" (fun k => .int (kBet k)) (fun k => ad (2000 + k)) A U H ∧
  va_Ef 5 "PushTray$Kind" "kinds" "I" (fun k => .int (kBits k)) (fun k => ad (2000 + k)) A U H
theorem nestW_ok : ∀ w ∈ nestW, (∃ a i b n d h, w = .fieldLinkNest a i b n d h) ∨ (∃ a i x h, w = .methodLinkNest a i x h) := by
  intro w hw
  simp only [nestW, List.mem_cons, List.not_mem_nil, or_false] at hw
  rcases hw with rfl | rfl | rfl | rfl | rfl | rfl | rfl | rfl | rfl | rfl | rfl | rfl | rfl | rfl | rfl | rfl
  all_goals first | exact Or.inl ⟨_, _, _, _, _, _, rfl⟩ | exact Or.inr ⟨_, _, _, _, rfl⟩
theorem SK.same {ad : Nat → Nat} {A : Nat → Prop} {u U : State} {H : Heap} (h : SK ad A u H) (hvm : u.vm = U.vm) : SK ad A U H := by
  have hal : u.vm.Alike U.vm := by rw [hvm]; exact Vm.Alike.refl _
  obtain ⟨h0, h1, h2, h3, h4, h5, h6, h7, h8, h9⟩ := h
  refine ⟨fun w hw => ?_, h1.moved hal, h2.moved hal, h3.moved hal, h4.moved hal, fun k hk => (h5 k hk).moved hal, h6.moved hal, h7.moved hal, h8.moved hal, h9.moved hal⟩
  rcases nestW_ok w hw with ⟨_, _, _, _, _, _, rfl⟩ | ⟨_, _, _, _, rfl⟩
  · exact va_Nw.same rfl hvm (h0 _ hw)
  · exact va_Nw.same rfl hvm (h0 _ hw)
theorem SK.warm {ad : Nat → Nat} {A B : Nat → Prop} {s U : State} {H : Heap} (h : SK ad A s s.heap) (hW : s.WarmedH U.vm) (hq : ∀ a : Nat, a < s.heap.size → ¬ A a → H[a]? = s.heap[a]?) (hAB : ∀ q, B q → A q) : SK ad B U H := by
  have hal : s.vm.Alike U.vm := hW.alike
  obtain ⟨h0, h1, h2, h3, h4, h5, h6, h7, h8, h9⟩ := h
  refine ⟨fun w hw => ?_, ((h1.kept hq).moved hal).narrow hAB, ((h2.kept hq).moved hal).narrow hAB, ((h3.kept hq).moved hal).narrow hAB, ((h4.kept hq).moved hal).narrow hAB, fun k hk => (((h5 k hk).kept hq).moved hal).narrow hAB, ((h6.kept hq).moved hal).narrow hAB, ((h7.kept hq).moved hal).narrow hAB, ((h8.kept hq).moved hal).narrow hAB, ((h9.kept hq).moved hal).narrow hAB⟩
  rcases nestW_ok w hw with ⟨_, _, _, _, _, _, rfl⟩ | ⟨_, _, _, _, rfl⟩
  · exact va_Nw.warmF hW (h0 _ hw)
  · exact va_Nw.warmM hW (h0 _ hw)
def XA (ad : Nat → Nat) (mm sz : Nat) : Nat → Prop := fun q => (∃ i, i < mm ∧ i < 35 ∧ q = ad i) ∨ sz ≤ q
theorem cells_D {ad : Nat → Nat} {cid : Nat → ClassId} {mm sz : Nat} {w : Wd} {A : Nat → Prop} (h : va_D A (cells ad cid mm w)) : va_D (XA ad mm sz) (cells ad cid mm w) := by
  refine ⟨h.1, fun k q hk => ?_⟩
  obtain ⟨e, h1, h2, rfl⟩ := cells_of hk
  exact Or.inl ⟨k, h2, (List.getElem?_eq_some_iff.mp h1).1, rfl⟩
abbrev xTy (cid : Nat → ClassId) : List (ClassId × FieldType) := [(cid 0, .int), (cid 1, .byte)]
abbrev xws (y : MethodName) (maxL : Nat) (ret : Option FieldType) (cc : ByteArray) : List Cond := .code y cc maxL ret :: XW
def Qx (ad : Nat → Nat) (cid : Nat → ClassId) (mm : Nat) (D : va_G) (A : Nat → Prop) (res : Option Value × Wd) : Array Value → State → Outcome → State → Prop := fun _ st oc t =>
  (oc = .returned (res.1.map (cv ad)) ∧ va_P D vwCl (cells ad cid mm res.2) t.heap ∧ va_D A (cells ad cid mm res.2)) ∧ va_F A st t
/-- a method's contract at given arguments and world -/
def AM (y : MethodName) (maxL : Nat) (ret : Option FieldType) (cc : ByteArray) (rm : Room) (mm : Nat) (as : List Value) (w : Wd) (res : Option Value × Wd) : Prop :=
  ∀ (l : Launch) (D : va_G) (ad : Nat → Nat) (cid : Nat → ClassId) (sz : Nat), Met l y (xws y maxL ret cc) rm (va_Pc (as.map (cv ad)) (fun U => U.heap.size = sz ∧ va_P D vwCl (cells ad cid mm w) U.heap ∧ va_K D vwCl (xTy cid) U ∧ va_D (fun _ => True) (cells ad cid mm w) ∧ SK ad (XA ad mm sz) U U.heap)) (Qx ad cid mm D (XA ad mm sz) res) 0 0 (XA ad mm sz)
def LR (ad : Nat → Nat) (ls : Array Slot) (nL : Nat) (L : List (Option Value)) : Prop := ∃ lv, lv_has ls nL lv ∧ L.length = nL ∧ ∀ (i : Nat) (v : Value), L[i]? = some (some v) → (i, cv ad v) ∈ lv
def Cx (y : MethodName) (maxL : Nat) (ret : Option FieldType) (cc : ByteArray) (mm : Nat) (p : Program) (s : State) (m : MethodId) (args : Array Value) (meth : Method) (c : Code) (D : va_G) (ad : Nat → Nat) (cid : Nat → ClassId) (A : Nat → Prop) : Prop :=
  p.tables.exec = Jvm.exec ∧ c.code = cc ∧ c.maxLocals = maxL ∧ meth.sig.returnType = ret ∧ (∀ w ∈ XW, w.before args s = true) ∧ s.vm.findClass y.cls = some m.cls ∧ meth.locks = false ∧ va_K D vwCl (xTy cid) s ∧ SK ad A s s.heap ∧ A = XA ad mm s.heap.size ∧ meth.name = y.name
/-- from instruction pc with locals L, stack S and world w the method comes to its end with res -/
def Zr (y : MethodName) (maxL : Nat) (ret : Option FieldType) (cc : ByteArray) (rm : Room) (mm pc : Nat) (L : List (Option Value)) (S : List Value) (w : Wd) (res : Option Value × Wd) : Prop :=
  ∀ (p : Program) (l : Launch) (e : Env) (s : State) (m : MethodId) (args : Array Value) (below : List Frame) (meth : Method) (c : Code) (D : va_G) (ad : Nat → Nat) (cid : Nat → ClassId) (A : Nat → Prop), Cx y maxL ret cc mm p s m args meth c D ad cid A →
  ∀ (H : Heap) (ls : Array Slot) (locs : List Loc), LR ad ls maxL L → va_P D vwCl (cells ad cid mm w) H → va_D A (cells ad cid mm w) → va_S A s.heap H locs →
  W p l e rm s m args below meth c H locs 0 0 (MQ below (Qx ad cid mm D A res) args s 0 0 A) (F0 m pc ls (S.map (cv ad)))
section ZR
variable {y : MethodName} {maxL : Nat} {ret : Option FieldType} {cc : ByteArray} {rm : Room} {mm pc : Nat} {L : List (Option Value)} {S : List Value} {w : Wd} {res : Option Value × Wd}
theorem LR.get {ad : Nat → Nat} {ls : Array Slot} {nL : Nat} {L : List (Option Value)} (h : LR ad ls nL L) {i : Nat} {v : Value} (hi : L[i]? = some (some v)) : ls[i]? = some (.val (cv ad v)) := by
  obtain ⟨lv, h1, -, h2⟩ := h
  exact h1.2.2 _ (h2 i v hi)
/-- storing a value of one slot: a long just below is given up -/
def lset (L : List (Option Value)) (i : Nat) (v : Value) : List (Option Value) := L.set i (some v)
def lok (L : List (Option Value)) (i : Nat) : Bool := match i with
  | 0 => true
  | j + 1 => match L[j]? with
    | some (some v) => v.category == 1
    | _ => true
theorem lok_spec {L : List (Option Value)} {i : Nat} (h : lok L i = true) {j : Nat} {v : Value} (hj : L[j]? = some (some v)) (hi : j + 1 = i) : v.category = 1 := by
  subst hi
  simp only [lok, hj] at h
  simpa using h
theorem LR.put1 {ad : Nat → Nat} {nL : Nat} {L L' : List (Option Value)} {i : Nat} {v : Value} {lv : List (Nat × Value)} {ls : Array Slot} (hn : L.length = nL) (h : ∀ (i : Nat) (v : Value), L[i]? = some (some v) → (i, cv ad v) ∈ lv) (hok : lok L i = true) (hL : lset L i v = L') (h1 : lv_has ls nL ((i, cv ad v) :: lv.filter (fun q => !(q.1 == i) && !(q.1 + 1 == i && q.2.category == 2)))) : LR ad ls nL L' := by
  refine ⟨_, h1, by rw [← hL]; simpa [lset] using hn, fun j u hj => ?_⟩
  rw [← hL] at hj
  by_cases hji : j = i
  · subst hji
    have hlt : j < L.length := by
      have := (List.getElem?_eq_some_iff.mp hj).1
      simpa [lset] using this
    rw [lset, List.getElem?_set_self hlt] at hj
    cases hj
    exact List.mem_cons_self
  · rw [lset, List.getElem?_set_ne (Ne.symm hji)] at hj
    refine List.mem_cons_of_mem _ (List.mem_filter.mpr ⟨h j u hj, ?_⟩)
    by_cases h3 : j + 1 = i
    · have := lok_spec hok hj h3
      simp [hji, h3, cv_cat, this]
    · simp [hji, h3]
def lset2 (L : List (Option Value)) (i : Nat) (v : Value) : List (Option Value) := (L.set i (some v)).set (i + 1) none
theorem LR.put2 {ad : Nat → Nat} {nL : Nat} {L L' : List (Option Value)} {i : Nat} {v : Value} {lv : List (Nat × Value)} {ls : Array Slot} (hn : L.length = nL) (h : ∀ (i : Nat) (v : Value), L[i]? = some (some v) → (i, cv ad v) ∈ lv) (hok : lok L i = true) (hL : lset2 L i v = L') (h1 : lv_has ls nL ((i, cv ad v) :: lv.filter (fun q => !(q.1 == i) && (!(q.1 == i + 1) && !(q.1 + 1 == i && q.2.category == 2))))) : LR ad ls nL L' := by
  refine ⟨_, h1, by rw [← hL]; simpa [lset2] using hn, fun j u hj => ?_⟩
  rw [← hL] at hj
  by_cases hj1 : j = i + 1
  · subst hj1
    have hlt : i + 1 < L.length := by
      have := (List.getElem?_eq_some_iff.mp hj).1
      simpa [lset2] using this
    rw [lset2, List.getElem?_set_self (by simpa using hlt)] at hj
    cases hj
  · rw [lset2, List.getElem?_set_ne (Ne.symm hj1)] at hj
    by_cases hji : j = i
    · subst hji
      have hlt : j < L.length := by
        have := (List.getElem?_eq_some_iff.mp hj).1
        simpa using this
      rw [List.getElem?_set_self hlt] at hj
      cases hj
      exact List.mem_cons_self
    · rw [List.getElem?_set_ne (Ne.symm hji)] at hj
      refine List.mem_cons_of_mem _ (List.mem_filter.mpr ⟨h j u hj, ?_⟩)
      by_cases h3 : j + 1 = i
      · have := lok_spec hok hj h3
        simp [hji, hj1, h3, cv_cat, this]
      · simp [hji, hj1, h3]
theorem z_iconst {n : Int} {v : Int32} (hd : decode cc pc = .ok (.iconst n, 1)) (hv : Int32.ofInt n = v) (k : Zr y maxL ret cc rm mm (pc + 1) L (.int v :: S) w res) : Zr y maxL ret cc rm mm pc L S w res := by
  intro p l e s m args below meth c D ad cid A C H ls locs hL hP hD hS
  exact lv_iconst C.1 C.2.1 hd hv (k p l e s m args below meth c D ad cid A C H ls locs hL hP hD hS)
theorem z_bipush {n : Int} {v : Int32} (hd : decode cc pc = .ok (.bipush n, 2)) (hv : (Int8.ofInt n).toInt32 = v) (k : Zr y maxL ret cc rm mm (pc + 2) L (.int v :: S) w res) : Zr y maxL ret cc rm mm pc L S w res := by
  intro p l e s m args below meth c D ad cid A C H ls locs hL hP hD hS
  exact lv_bipush C.1 C.2.1 hd hv (k p l e s m args below meth c D ad cid A C H ls locs hL hP hD hS)
theorem z_sipush {n : Int} {v : Int32} (hd : decode cc pc = .ok (.sipush n, 3)) (hv : (Int16.ofInt n).toInt32 = v) (k : Zr y maxL ret cc rm mm (pc + 3) L (.int v :: S) w res) : Zr y maxL ret cc rm mm pc L S w res := by
  intro p l e s m args below meth c D ad cid A C H ls locs hL hP hD hS
  exact lv_sipush C.1 C.2.1 hd hv (k p l e s m args below meth c D ad cid A C H ls locs hL hP hD hS)
theorem z_iload_n {n : Fin 4} {i : Nat} {x : Int32} (hd : decode cc pc = .ok (.iload_n n, 1)) (hi : (n : Nat) = i) (hl : L[i]? = some (some (.int x))) (k : Zr y maxL ret cc rm mm (pc + 1) L (.int x :: S) w res) : Zr y maxL ret cc rm mm pc L S w res := by
  intro p l e s m args below meth c D ad cid A C H ls locs hL hP hD hS
  exact lv_iload_n C.1 C.2.1 hd hi (hL.get hl) (k p l e s m args below meth c D ad cid A C H ls locs hL hP hD hS)
theorem z_iload {i : Nat} {x : Int32} (hd : decode cc pc = .ok (.iload i, 2)) (hl : L[i]? = some (some (.int x))) (k : Zr y maxL ret cc rm mm (pc + 2) L (.int x :: S) w res) : Zr y maxL ret cc rm mm pc L S w res := by
  intro p l e s m args below meth c D ad cid A C H ls locs hL hP hD hS
  exact lv_iload C.1 C.2.1 hd (hL.get hl) (k p l e s m args below meth c D ad cid A C H ls locs hL hP hD hS)
theorem z_lload_n {n : Fin 4} {i : Nat} {x : Int64} (hd : decode cc pc = .ok (.lload_n n, 1)) (hi : (n : Nat) = i) (hl : L[i]? = some (some (.long x))) (k : Zr y maxL ret cc rm mm (pc + 1) L (.long x :: S) w res) : Zr y maxL ret cc rm mm pc L S w res := by
  intro p l e s m args below meth c D ad cid A C H ls locs hL hP hD hS
  exact lv_lload_n C.1 C.2.1 hd hi (hL.get hl) (k p l e s m args below meth c D ad cid A C H ls locs hL hP hD hS)
theorem z_aload_n {n : Fin 4} {i r : Nat} (hd : decode cc pc = .ok (.aload_n n, 1)) (hi : (n : Nat) = i) (hl : L[i]? = some (some (.ref r))) (k : Zr y maxL ret cc rm mm (pc + 1) L (.ref r :: S) w res) : Zr y maxL ret cc rm mm pc L S w res := by
  intro p l e s m args below meth c D ad cid A C H ls locs hL hP hD hS
  exact lv_aload_n C.1 C.2.1 hd hi (hL.get hl) (k p l e s m args below meth c D ad cid A C H ls locs hL hP hD hS)
theorem z_aload {i r : Nat} (hd : decode cc pc = .ok (.aload i, 2)) (hl : L[i]? = some (some (.ref r))) (k : Zr y maxL ret cc rm mm (pc + 2) L (.ref r :: S) w res) : Zr y maxL ret cc rm mm pc L S w res := by
  intro p l e s m args below meth c D ad cid A C H ls locs hL hP hD hS
  exact lv_aload C.1 C.2.1 hd (hL.get hl) (k p l e s m args below meth c D ad cid A C H ls locs hL hP hD hS)
theorem z_istore_n {n : Fin 4} {i : Nat} {x : Int32} {L' : List (Option Value)} (hd : decode cc pc = .ok (.istore_n n, 1)) (hi : (n : Nat) = i) (hn : i < maxL) (hok : lok L i = true) (hl : lset L i (.int x) = L') (k : Zr y maxL ret cc rm mm (pc + 1) L' S w res) : Zr y maxL ret cc rm mm pc L (.int x :: S) w res := by
  intro p l e s m args below meth c D ad cid A C H ls locs hL hP hD hS
  obtain ⟨lv, h1, h2, h3⟩ := hL
  exact lv_istore_n C.1 C.2.1 hd hi h1 hn rfl (fun ls' h => k p l e s m args below meth c D ad cid A C H ls' locs (LR.put1 (v := .int x) h2 h3 hok hl h) hP hD hS)
theorem z_istore {i : Nat} {x : Int32} {L' : List (Option Value)} (hd : decode cc pc = .ok (.istore i, 2)) (hn : i < maxL) (hok : lok L i = true) (hl : lset L i (.int x) = L') (k : Zr y maxL ret cc rm mm (pc + 2) L' S w res) : Zr y maxL ret cc rm mm pc L (.int x :: S) w res := by
  intro p l e s m args below meth c D ad cid A C H ls locs hL hP hD hS
  obtain ⟨lv, h1, h2, h3⟩ := hL
  exact lv_istore C.1 C.2.1 hd h1 hn rfl (fun ls' h => k p l e s m args below meth c D ad cid A C H ls' locs (LR.put1 (v := .int x) h2 h3 hok hl h) hP hD hS)
theorem z_astore_n {n : Fin 4} {i r : Nat} {L' : List (Option Value)} (hd : decode cc pc = .ok (.astore_n n, 1)) (hi : (n : Nat) = i) (hn : i < maxL) (hok : lok L i = true) (hl : lset L i (.ref r) = L') (k : Zr y maxL ret cc rm mm (pc + 1) L' S w res) : Zr y maxL ret cc rm mm pc L (.ref r :: S) w res := by
  intro p l e s m args below meth c D ad cid A C H ls locs hL hP hD hS
  obtain ⟨lv, h1, h2, h3⟩ := hL
  exact lv_astore_n C.1 C.2.1 hd hi h1 hn rfl (fun ls' h => k p l e s m args below meth c D ad cid A C H ls' locs (LR.put1 (v := .ref r) h2 h3 hok hl h) hP hD hS)
theorem z_astore {i r : Nat} {L' : List (Option Value)} (hd : decode cc pc = .ok (.astore i, 2)) (hn : i < maxL) (hok : lok L i = true) (hl : lset L i (.ref r) = L') (k : Zr y maxL ret cc rm mm (pc + 2) L' S w res) : Zr y maxL ret cc rm mm pc L (.ref r :: S) w res := by
  intro p l e s m args below meth c D ad cid A C H ls locs hL hP hD hS
  obtain ⟨lv, h1, h2, h3⟩ := hL
  exact lv_astore C.1 C.2.1 hd h1 hn rfl (fun ls' h => k p l e s m args below meth c D ad cid A C H ls' locs (LR.put1 (v := .ref r) h2 h3 hok hl h) hP hD hS)
theorem z_lstore_n {n : Fin 4} {i : Nat} {x : Int64} {L' : List (Option Value)} (hd : decode cc pc = .ok (.lstore_n n, 1)) (hi : (n : Nat) = i) (hn : i + 1 < maxL) (hok : lok L i = true) (hl : lset2 L i (.long x) = L') (k : Zr y maxL ret cc rm mm (pc + 1) L' S w res) : Zr y maxL ret cc rm mm pc L (.long x :: S) w res := by
  intro p l e s m args below meth c D ad cid A C H ls locs hL hP hD hS
  obtain ⟨lv, h1, h2, h3⟩ := hL
  exact lv_lstore_n C.1 C.2.1 hd hi h1 hn rfl (fun ls' h => k p l e s m args below meth c D ad cid A C H ls' locs (LR.put2 (v := .long x) h2 h3 hok hl h) hP hD hS)
theorem z_iinc {i : Nat} {n : Int} {x v : Int32} {L' : List (Option Value)} (hd : decode cc pc = .ok (.iinc i n, 3)) (hg : L[i]? = some (some (.int x))) (hv : x + Int32.ofInt n = v) (hn : i < maxL) (hok : lok L i = true) (hl : lset L i (.int v) = L') (k : Zr y maxL ret cc rm mm (pc + 3) L' S w res) : Zr y maxL ret cc rm mm pc L S w res := by
  intro p l e s m args below meth c D ad cid A C H ls locs hL hP hD hS
  obtain ⟨lv, h1, h2, h3⟩ := hL
  obtain ⟨kk, hk⟩ := List.getElem?_of_mem (h3 i _ hg)
  exact lv_iinc (k := kk) C.1 C.2.1 hd h1 hk hv hn rfl (fun ls' h => k p l e s m args below meth c D ad cid A C H ls' locs (LR.put1 (v := .int v) h2 h3 hok hl h) hP hD hS)
theorem z_iadd {x z : Int32} (hd : decode cc pc = .ok (.iadd, 1)) (k : Zr y maxL ret cc rm mm (pc + 1) L (.int (x + z) :: S) w res) : Zr y maxL ret cc rm mm pc L (.int z :: .int x :: S) w res := by
  intro p l e s m args below meth c D ad cid A C H ls locs hL hP hD hS
  exact lv_iadd C.1 C.2.1 hd (k p l e s m args below meth c D ad cid A C H ls locs hL hP hD hS)
theorem z_isub {x z : Int32} (hd : decode cc pc = .ok (.isub, 1)) (k : Zr y maxL ret cc rm mm (pc + 1) L (.int (x - z) :: S) w res) : Zr y maxL ret cc rm mm pc L (.int z :: .int x :: S) w res := by
  intro p l e s m args below meth c D ad cid A C H ls locs hL hP hD hS
  exact lv_isub C.1 C.2.1 hd (k p l e s m args below meth c D ad cid A C H ls locs hL hP hD hS)
theorem z_imul {x z : Int32} (hd : decode cc pc = .ok (.imul, 1)) (k : Zr y maxL ret cc rm mm (pc + 1) L (.int (x * z) :: S) w res) : Zr y maxL ret cc rm mm pc L (.int z :: .int x :: S) w res := by
  intro p l e s m args below meth c D ad cid A C H ls locs hL hP hD hS
  exact lv_imul C.1 C.2.1 hd (k p l e s m args below meth c D ad cid A C H ls locs hL hP hD hS)
theorem z_iand {x z : Int32} (hd : decode cc pc = .ok (.iand, 1)) (k : Zr y maxL ret cc rm mm (pc + 1) L (.int (x &&& z) :: S) w res) : Zr y maxL ret cc rm mm pc L (.int z :: .int x :: S) w res := by
  intro p l e s m args below meth c D ad cid A C H ls locs hL hP hD hS
  exact lv_iand C.1 C.2.1 hd (k p l e s m args below meth c D ad cid A C H ls locs hL hP hD hS)
theorem z_ior {x z : Int32} (hd : decode cc pc = .ok (.ior, 1)) (k : Zr y maxL ret cc rm mm (pc + 1) L (.int (x ||| z) :: S) w res) : Zr y maxL ret cc rm mm pc L (.int z :: .int x :: S) w res := by
  intro p l e s m args below meth c D ad cid A C H ls locs hL hP hD hS
  exact lv_ior C.1 C.2.1 hd (k p l e s m args below meth c D ad cid A C H ls locs hL hP hD hS)
theorem z_ixor {x z : Int32} (hd : decode cc pc = .ok (.ixor, 1)) (k : Zr y maxL ret cc rm mm (pc + 1) L (.int (x ^^^ z) :: S) w res) : Zr y maxL ret cc rm mm pc L (.int z :: .int x :: S) w res := by
  intro p l e s m args below meth c D ad cid A C H ls locs hL hP hD hS
  exact lv_ixor C.1 C.2.1 hd (k p l e s m args below meth c D ad cid A C H ls locs hL hP hD hS)
theorem z_ishl {x z : Int32} (hd : decode cc pc = .ok (.ishl, 1)) (k : Zr y maxL ret cc rm mm (pc + 1) L (.int (x <<< (z &&& 31)) :: S) w res) : Zr y maxL ret cc rm mm pc L (.int z :: .int x :: S) w res := by
  intro p l e s m args below meth c D ad cid A C H ls locs hL hP hD hS
  exact lv_ishl C.1 C.2.1 hd (k p l e s m args below meth c D ad cid A C H ls locs hL hP hD hS)
theorem z_ishr {x z : Int32} (hd : decode cc pc = .ok (.ishr, 1)) (k : Zr y maxL ret cc rm mm (pc + 1) L (.int (x >>> (z &&& 31)) :: S) w res) : Zr y maxL ret cc rm mm pc L (.int z :: .int x :: S) w res := by
  intro p l e s m args below meth c D ad cid A C H ls locs hL hP hD hS
  exact lv_ishr C.1 C.2.1 hd (k p l e s m args below meth c D ad cid A C H ls locs hL hP hD hS)
theorem z_ladd {x z : Int64} (hd : decode cc pc = .ok (.ladd, 1)) (k : Zr y maxL ret cc rm mm (pc + 1) L (.long (x + z) :: S) w res) : Zr y maxL ret cc rm mm pc L (.long z :: .long x :: S) w res := by
  intro p l e s m args below meth c D ad cid A C H ls locs hL hP hD hS
  exact lv_ladd C.1 C.2.1 hd (k p l e s m args below meth c D ad cid A C H ls locs hL hP hD hS)
theorem z_lmul {x z : Int64} (hd : decode cc pc = .ok (.lmul, 1)) (k : Zr y maxL ret cc rm mm (pc + 1) L (.long (x * z) :: S) w res) : Zr y maxL ret cc rm mm pc L (.long z :: .long x :: S) w res := by
  intro p l e s m args below meth c D ad cid A C H ls locs hL hP hD hS
  exact lv_lmul C.1 C.2.1 hd (k p l e s m args below meth c D ad cid A C H ls locs hL hP hD hS)
theorem z_land {x z : Int64} (hd : decode cc pc = .ok (.land, 1)) (k : Zr y maxL ret cc rm mm (pc + 1) L (.long (x &&& z) :: S) w res) : Zr y maxL ret cc rm mm pc L (.long z :: .long x :: S) w res := by
  intro p l e s m args below meth c D ad cid A C H ls locs hL hP hD hS
  exact lv_land C.1 C.2.1 hd (k p l e s m args below meth c D ad cid A C H ls locs hL hP hD hS)
theorem z_idiv {x z : Int32} (hd : decode cc pc = .ok (.idiv, 1)) (hne : ¬ z = 0) (k : Zr y maxL ret cc rm mm (pc + 1) L (.int (x / z) :: S) w res) : Zr y maxL ret cc rm mm pc L (.int z :: .int x :: S) w res := by
  intro p l e s m args below meth c D ad cid A C H ls locs hL hP hD hS
  exact lv_idiv C.1 C.2.1 hd hne (k p l e s m args below meth c D ad cid A C H ls locs hL hP hD hS)
theorem z_irem {x z : Int32} (hd : decode cc pc = .ok (.irem, 1)) (hne : ¬ z = 0) (k : Zr y maxL ret cc rm mm (pc + 1) L (.int (x - x / z * z) :: S) w res) : Zr y maxL ret cc rm mm pc L (.int z :: .int x :: S) w res := by
  intro p l e s m args below meth c D ad cid A C H ls locs hL hP hD hS
  exact lv_irem C.1 C.2.1 hd hne (k p l e s m args below meth c D ad cid A C H ls locs hL hP hD hS)
theorem z_ldiv {x z : Int64} (hd : decode cc pc = .ok (.ldiv, 1)) (hne : ¬ z = 0) (k : Zr y maxL ret cc rm mm (pc + 1) L (.long (x / z) :: S) w res) : Zr y maxL ret cc rm mm pc L (.long z :: .long x :: S) w res := by
  intro p l e s m args below meth c D ad cid A C H ls locs hL hP hD hS
  exact lv_ldiv C.1 C.2.1 hd hne (k p l e s m args below meth c D ad cid A C H ls locs hL hP hD hS)
theorem z_lrem {x z : Int64} (hd : decode cc pc = .ok (.lrem, 1)) (hne : ¬ z = 0) (k : Zr y maxL ret cc rm mm (pc + 1) L (.long (x - x / z * z) :: S) w res) : Zr y maxL ret cc rm mm pc L (.long z :: .long x :: S) w res := by
  intro p l e s m args below meth c D ad cid A C H ls locs hL hP hD hS
  exact lv_lrem C.1 C.2.1 hd hne (k p l e s m args below meth c D ad cid A C H ls locs hL hP hD hS)
theorem z_i2l {x : Int32} (hd : decode cc pc = .ok (.i2l, 1)) (k : Zr y maxL ret cc rm mm (pc + 1) L (.long x.toInt64 :: S) w res) : Zr y maxL ret cc rm mm pc L (.int x :: S) w res := by
  intro p l e s m args below meth c D ad cid A C H ls locs hL hP hD hS
  exact lv_i2l C.1 C.2.1 hd rfl (k p l e s m args below meth c D ad cid A C H ls locs hL hP hD hS)
theorem z_l2i {x : Int64} (hd : decode cc pc = .ok (.l2i, 1)) (k : Zr y maxL ret cc rm mm (pc + 1) L (.int x.toInt32 :: S) w res) : Zr y maxL ret cc rm mm pc L (.long x :: S) w res := by
  intro p l e s m args below meth c D ad cid A C H ls locs hL hP hD hS
  exact lv_l2i C.1 C.2.1 hd rfl (k p l e s m args below meth c D ad cid A C H ls locs hL hP hD hS)
theorem z_i2b {x : Int32} (hd : decode cc pc = .ok (.i2b, 1)) (k : Zr y maxL ret cc rm mm (pc + 1) L (.int x.toInt8.toInt32 :: S) w res) : Zr y maxL ret cc rm mm pc L (.int x :: S) w res := by
  intro p l e s m args below meth c D ad cid A C H ls locs hL hP hD hS
  exact lv_i2b C.1 C.2.1 hd rfl (k p l e s m args below meth c D ad cid A C H ls locs hL hP hD hS)
theorem z_ineg {x : Int32} (hd : decode cc pc = .ok (.ineg, 1)) (k : Zr y maxL ret cc rm mm (pc + 1) L (.int (-x) :: S) w res) : Zr y maxL ret cc rm mm pc L (.int x :: S) w res := by
  intro p l e s m args below meth c D ad cid A C H ls locs hL hP hD hS
  exact lv_ineg C.1 C.2.1 hd (k p l e s m args below meth c D ad cid A C H ls locs hL hP hD hS)
theorem z_iushr {x z : Int32} (hd : decode cc pc = .ok (.iushr, 1)) (k : Zr y maxL ret cc rm mm (pc + 1) L (.int (x.toUInt32 >>> (z.toUInt32 &&& Int32.toUInt32 31)).toInt32 :: S) w res) : Zr y maxL ret cc rm mm pc L (.int z :: .int x :: S) w res := by
  intro p l e s m args below meth c D ad cid A C H ls locs hL hP hD hS
  exact lv_iushr C.1 C.2.1 hd rfl (k p l e s m args below meth c D ad cid A C H ls locs hL hP hD hS)
theorem z_pop {v : Value} (hd : decode cc pc = .ok (.pop, 1)) (hv : v.category = 1) (k : Zr y maxL ret cc rm mm (pc + 1) L S w res) : Zr y maxL ret cc rm mm pc L (v :: S) w res := by
  intro p l e s m args below meth c D ad cid A C H ls locs hL hP hD hS
  exact lv_pop C.1 C.2.1 hd (by rw [cv_cat]; exact hv) (k p l e s m args below meth c D ad cid A C H ls locs hL hP hD hS)
theorem z_dup {v : Value} (hd : decode cc pc = .ok (.dup, 1)) (hv : v.category = 1) (k : Zr y maxL ret cc rm mm (pc + 1) L (v :: v :: S) w res) : Zr y maxL ret cc rm mm pc L (v :: S) w res := by
  intro p l e s m args below meth c D ad cid A C H ls locs hL hP hD hS
  exact lv_dup C.1 C.2.1 hd (by rw [cv_cat]; exact hv) (k p l e s m args below meth c D ad cid A C H ls locs hL hP hD hS)
theorem z_dup2 {v u : Value} (hd : decode cc pc = .ok (.dup2, 1)) (hv : v.category = 1) (hu : u.category = 1) (k : Zr y maxL ret cc rm mm (pc + 1) L (v :: u :: v :: u :: S) w res) : Zr y maxL ret cc rm mm pc L (v :: u :: S) w res := by
  intro p l e s m args below meth c D ad cid A C H ls locs hL hP hD hS
  exact lv_dup2_11 C.1 C.2.1 hd (by rw [cv_cat]; exact hv) (by rw [cv_cat]; exact hu) (k p l e s m args below meth c D ad cid A C H ls locs hL hP hD hS)
theorem z_lcmp {x z : Int64} (hd : decode cc pc = .ok (.lcmp, 1)) (k : Zr y maxL ret cc rm mm (pc + 1) L (.int (lg_cmp x z) :: S) w res) : Zr y maxL ret cc rm mm pc L (.long z :: .long x :: S) w res := by
  intro p l e s m args below meth c D ad cid A C H ls locs hL hP hD hS
  exact W.lcmp C.1 C.2.1 hd (k p l e s m args below meth c D ad cid A C H ls locs hL hP hD hS)
theorem z_goto {off : Int} {tgt : Nat} (hd : decode cc pc = .ok (.goto off, 3)) (ht : (pc : Int) + off = (tgt : Int)) (k : Zr y maxL ret cc rm mm tgt L S w res) : Zr y maxL ret cc rm mm pc L S w res := by
  intro p l e s m args below meth c D ad cid A C H ls locs hL hP hD hS
  exact lv_goto C.1 C.2.1 hd ht (k p l e s m args below meth c D ad cid A C H ls locs hL hP hD hS)
theorem z_if_eq {x : Int32} {off : Int} {tgt : Nat} (hd : decode cc pc = .ok (.ifCond .eq off, 3)) (ht : (pc : Int) + off = (tgt : Int)) (kt : x = 0 → Zr y maxL ret cc rm mm tgt L S w res) (kf : ¬ x = 0 → Zr y maxL ret cc rm mm (pc + 3) L S w res) : Zr y maxL ret cc rm mm pc L (.int x :: S) w res := by
  intro p l e s m args below meth c D ad cid A C H ls locs hL hP hD hS
  exact lv_if_eq C.1 C.2.1 hd ht (fun h => kt h p l e s m args below meth c D ad cid A C H ls locs hL hP hD hS) (fun h => kf h p l e s m args below meth c D ad cid A C H ls locs hL hP hD hS)
theorem z_icmp_eq {x z : Int32} {off : Int} {tgt : Nat} (hd : decode cc pc = .ok (.if_icmp .eq off, 3)) (ht : (pc : Int) + off = (tgt : Int)) (kt : x = z → Zr y maxL ret cc rm mm tgt L S w res) (kf : ¬ x = z → Zr y maxL ret cc rm mm (pc + 3) L S w res) : Zr y maxL ret cc rm mm pc L (.int z :: .int x :: S) w res := by
  intro p l e s m args below meth c D ad cid A C H ls locs hL hP hD hS
  exact lv_icmp_eq C.1 C.2.1 hd ht (fun h => kt h p l e s m args below meth c D ad cid A C H ls locs hL hP hD hS) (fun h => kf h p l e s m args below meth c D ad cid A C H ls locs hL hP hD hS)
theorem z_if_ne {x : Int32} {off : Int} {tgt : Nat} (hd : decode cc pc = .ok (.ifCond .ne off, 3)) (ht : (pc : Int) + off = (tgt : Int)) (kt : ¬ x = 0 → Zr y maxL ret cc rm mm tgt L S w res) (kf : x = 0 → Zr y maxL ret cc rm mm (pc + 3) L S w res) : Zr y maxL ret cc rm mm pc L (.int x :: S) w res := by
  intro p l e s m args below meth c D ad cid A C H ls locs hL hP hD hS
  exact lv_if_ne C.1 C.2.1 hd ht (fun h => kt h p l e s m args below meth c D ad cid A C H ls locs hL hP hD hS) (fun h => kf h p l e s m args below meth c D ad cid A C H ls locs hL hP hD hS)
theorem z_icmp_ne {x z : Int32} {off : Int} {tgt : Nat} (hd : decode cc pc = .ok (.if_icmp .ne off, 3)) (ht : (pc : Int) + off = (tgt : Int)) (kt : ¬ x = z → Zr y maxL ret cc rm mm tgt L S w res) (kf : x = z → Zr y maxL ret cc rm mm (pc + 3) L S w res) : Zr y maxL ret cc rm mm pc L (.int z :: .int x :: S) w res := by
  intro p l e s m args below meth c D ad cid A C H ls locs hL hP hD hS
  exact lv_icmp_ne C.1 C.2.1 hd ht (fun h => kt h p l e s m args below meth c D ad cid A C H ls locs hL hP hD hS) (fun h => kf h p l e s m args below meth c D ad cid A C H ls locs hL hP hD hS)
theorem z_if_lt {x : Int32} {off : Int} {tgt : Nat} (hd : decode cc pc = .ok (.ifCond .lt off, 3)) (ht : (pc : Int) + off = (tgt : Int)) (kt : x < 0 → Zr y maxL ret cc rm mm tgt L S w res) (kf : ¬ x < 0 → Zr y maxL ret cc rm mm (pc + 3) L S w res) : Zr y maxL ret cc rm mm pc L (.int x :: S) w res := by
  intro p l e s m args below meth c D ad cid A C H ls locs hL hP hD hS
  exact lv_if_lt C.1 C.2.1 hd ht (fun h => kt h p l e s m args below meth c D ad cid A C H ls locs hL hP hD hS) (fun h => kf h p l e s m args below meth c D ad cid A C H ls locs hL hP hD hS)
theorem z_icmp_lt {x z : Int32} {off : Int} {tgt : Nat} (hd : decode cc pc = .ok (.if_icmp .lt off, 3)) (ht : (pc : Int) + off = (tgt : Int)) (kt : x < z → Zr y maxL ret cc rm mm tgt L S w res) (kf : ¬ x < z → Zr y maxL ret cc rm mm (pc + 3) L S w res) : Zr y maxL ret cc rm mm pc L (.int z :: .int x :: S) w res := by
  intro p l e s m args below meth c D ad cid A C H ls locs hL hP hD hS
  exact lv_icmp_lt C.1 C.2.1 hd ht (fun h => kt h p l e s m args below meth c D ad cid A C H ls locs hL hP hD hS) (fun h => kf h p l e s m args below meth c D ad cid A C H ls locs hL hP hD hS)
theorem z_if_ge {x : Int32} {off : Int} {tgt : Nat} (hd : decode cc pc = .ok (.ifCond .ge off, 3)) (ht : (pc : Int) + off = (tgt : Int)) (kt : 0 ≤ x → Zr y maxL ret cc rm mm tgt L S w res) (kf : ¬ 0 ≤ x → Zr y maxL ret cc rm mm (pc + 3) L S w res) : Zr y maxL ret cc rm mm pc L (.int x :: S) w res := by
  intro p l e s m args below meth c D ad cid A C H ls locs hL hP hD hS
  exact lv_if_ge C.1 C.2.1 hd ht (fun h => kt h p l e s m args below meth c D ad cid A C H ls locs hL hP hD hS) (fun h => kf h p l e s m args below meth c D ad cid A C H ls locs hL hP hD hS)
theorem z_icmp_ge {x z : Int32} {off : Int} {tgt : Nat} (hd : decode cc pc = .ok (.if_icmp .ge off, 3)) (ht : (pc : Int) + off = (tgt : Int)) (kt : z ≤ x → Zr y maxL ret cc rm mm tgt L S w res) (kf : ¬ z ≤ x → Zr y maxL ret cc rm mm (pc + 3) L S w res) : Zr y maxL ret cc rm mm pc L (.int z :: .int x :: S) w res := by
  intro p l e s m args below meth c D ad cid A C H ls locs hL hP hD hS
  exact lv_icmp_ge C.1 C.2.1 hd ht (fun h => kt h p l e s m args below meth c D ad cid A C H ls locs hL hP hD hS) (fun h => kf h p l e s m args below meth c D ad cid A C H ls locs hL hP hD hS)
theorem z_if_gt {x : Int32} {off : Int} {tgt : Nat} (hd : decode cc pc = .ok (.ifCond .gt off, 3)) (ht : (pc : Int) + off = (tgt : Int)) (kt : 0 < x → Zr y maxL ret cc rm mm tgt L S w res) (kf : ¬ 0 < x → Zr y maxL ret cc rm mm (pc + 3) L S w res) : Zr y maxL ret cc rm mm pc L (.int x :: S) w res := by
  intro p l e s m args below meth c D ad cid A C H ls locs hL hP hD hS
  exact lv_if_gt C.1 C.2.1 hd ht (fun h => kt h p l e s m args below meth c D ad cid A C H ls locs hL hP hD hS) (fun h => kf h p l e s m args below meth c D ad cid A C H ls locs hL hP hD hS)
theorem z_icmp_gt {x z : Int32} {off : Int} {tgt : Nat} (hd : decode cc pc = .ok (.if_icmp .gt off, 3)) (ht : (pc : Int) + off = (tgt : Int)) (kt : z < x → Zr y maxL ret cc rm mm tgt L S w res) (kf : ¬ z < x → Zr y maxL ret cc rm mm (pc + 3) L S w res) : Zr y maxL ret cc rm mm pc L (.int z :: .int x :: S) w res := by
  intro p l e s m args below meth c D ad cid A C H ls locs hL hP hD hS
  exact lv_icmp_gt C.1 C.2.1 hd ht (fun h => kt h p l e s m args below meth c D ad cid A C H ls locs hL hP hD hS) (fun h => kf h p l e s m args below meth c D ad cid A C H ls locs hL hP hD hS)
theorem z_if_le {x : Int32} {off : Int} {tgt : Nat} (hd : decode cc pc = .ok (.ifCond .le off, 3)) (ht : (pc : Int) + off = (tgt : Int)) (kt : x ≤ 0 → Zr y maxL ret cc rm mm tgt L S w res) (kf : ¬ x ≤ 0 → Zr y maxL ret cc rm mm (pc + 3) L S w res) : Zr y maxL ret cc rm mm pc L (.int x :: S) w res := by
  intro p l e s m args below meth c D ad cid A C H ls locs hL hP hD hS
  exact lv_if_le C.1 C.2.1 hd ht (fun h => kt h p l e s m args below meth c D ad cid A C H ls locs hL hP hD hS) (fun h => kf h p l e s m args below meth c D ad cid A C H ls locs hL hP hD hS)
theorem z_icmp_le {x z : Int32} {off : Int} {tgt : Nat} (hd : decode cc pc = .ok (.if_icmp .le off, 3)) (ht : (pc : Int) + off = (tgt : Int)) (kt : x ≤ z → Zr y maxL ret cc rm mm tgt L S w res) (kf : ¬ x ≤ z → Zr y maxL ret cc rm mm (pc + 3) L S w res) : Zr y maxL ret cc rm mm pc L (.int z :: .int x :: S) w res := by
  intro p l e s m args below meth c D ad cid A C H ls locs hL hP hD hS
  exact lv_icmp_le C.1 C.2.1 hd ht (fun h => kt h p l e s m args below meth c D ad cid A C H ls locs hL hP hD hS) (fun h => kf h p l e s m args below meth c D ad cid A C H ls locs hL hP hD hS)
theorem z_tableIn {dflt lo hi : Int} {offs : Array Int} {len : Nat} {x : Int32} {off : Int} {tgt : Nat} (hd : decode cc pc = .ok (.tableswitch dflt lo hi offs, len)) (h1 : ¬ x.toInt < lo) (h2 : ¬ hi < x.toInt) (ho : offs[(x.toInt - lo).toNat]? = some off) (ht : (pc : Int) + off = (tgt : Int)) (k : Zr y maxL ret cc rm mm tgt L S w res) : Zr y maxL ret cc rm mm pc L (.int x :: S) w res := by
  intro p l e s m args below meth c D ad cid A C H ls locs hL hP hD hS
  exact lv_tableIn C.1 C.2.1 hd h1 h2 ho ht (k p l e s m args below meth c D ad cid A C H ls locs hL hP hD hS)
theorem z_tableOut {dflt lo hi : Int} {offs : Array Int} {len : Nat} {x : Int32} {tgt : Nat} (hd : decode cc pc = .ok (.tableswitch dflt lo hi offs, len)) (h : x.toInt < lo ∨ hi < x.toInt) (ht : (pc : Int) + dflt = (tgt : Int)) (k : Zr y maxL ret cc rm mm tgt L S w res) : Zr y maxL ret cc rm mm pc L (.int x :: S) w res := by
  intro p l e s m args below meth c D ad cid A C H ls locs hL hP hD hS
  exact lv_tableOut C.1 C.2.1 hd h ht (k p l e s m args below meth c D ad cid A C H ls locs hL hP hD hS)
theorem z_lookup {dflt : Int} {ps : Array (Int × Int)} {len : Nat} {x : Int32} {off : Int} {tgt : Nat} (hd : decode cc pc = .ok (.lookupswitch dflt ps, len)) (hp : (ps.toList.zip (ps.toList.drop 1)).all (fun (a, next) => a.1 < next.1) = true) (ho : Op.lookupswitch.offset ps.toList dflt x.toInt = off) (ht : (pc : Int) + off = (tgt : Int)) (k : Zr y maxL ret cc rm mm tgt L S w res) : Zr y maxL ret cc rm mm pc L (.int x :: S) w res := by
  intro p l e s m args below meth c D ad cid A C H ls locs hL hP hD hS
  exact lv_lookup C.1 C.2.1 hd hp ho ht (k p l e s m args below meth c D ad cid A C H ls locs hL hP hD hS)
theorem z_ldc {index : Nat} {v : Int32} (hd : decode cc pc = .ok (.ldc index, 2)) (hw : Jvm.Cond.constant y.cls index v ∈ XW) (k : Zr y maxL ret cc rm mm (pc + 2) L (.int v :: S) w res) : Zr y maxL ret cc rm mm pc L S w res := by
  intro p l e s m args below meth c D ad cid A C H ls locs hL hP hD hS
  exact lv_ldc C.1 C.2.1 C.2.2.2.2.2.1 (C.2.2.2.2.1 _ hw) hd (k p l e s m args below meth c D ad cid A C H ls locs hL hP hD hS)
theorem z_ldc2 {index : Nat} {v : Int64} (hd : decode cc pc = .ok (.ldc2_w index, 3)) (hw : Jvm.Cond.constantLong y.cls index v ∈ XW) (k : Zr y maxL ret cc rm mm (pc + 3) L (.long v :: S) w res) : Zr y maxL ret cc rm mm pc L S w res := by
  intro p l e s m args below meth c D ad cid A C H ls locs hL hP hD hS
  exact lv_ldc2 C.1 C.2.1 C.2.2.2.2.2.1 (C.2.2.2.2.1 _ hw) hd (k p l e s m args below meth c D ad cid A C H ls locs hL hP hD hS)
-- fields
theorem z_getL {i f d ci N index : Nat} {ds : List Nat} {T : u_T} {C0 : String} {v : Value} (hd : decode cc pc = .ok (.getfield index, 3)) (hi : SH[i]? = some (.inl (ci, ds))) (hm : i < mm) (hf : ds[f]? = some d) (hc : vwCl[ci]? = some (C0, T, N)) (hN : f < N) (hin : ∀ w ∈ u_ws C0 T N, w ∈ XW) (hlink : Cond.fieldLink y.cls index (T f).1 (T f).2.1 (T f).2.2.1 ∈ XW) (hv : ∀ ad, fldv ad w i f d = cv ad v) (k : Zr y maxL ret cc rm mm (pc + 3) L (v :: S) w res) : Zr y maxL ret cc rm mm pc L (.ref i :: S) w res := by
  intro p l e s m args below meth c D ad cid A C H ls locs hL hP hD hS
  exact va_get (v := cv ad v) C.1 C.2.1 C.2.2.2.2.1 hin C.2.2.2.2.2.1 C.2.2.2.2.2.2.2.1 hP i (cells_at hi hm) hc f hN (C.2.2.2.2.1 _ hlink) (fun _ h => h) (by rw [← hv]; exact flds_at hf) hd (k p l e s m args below meth c D ad cid A C H ls locs hL hP hD hS)
theorem z_getN {i f d ci N index : Nat} {ds : List Nat} {T : u_T} {C0 host : String} {v : Value} (hd : decode cc pc = .ok (.getfield index, 3)) (hi : SH[i]? = some (.inl (ci, ds))) (hm : i < mm) (hf : ds[f]? = some d) (hc : vwCl[ci]? = some (C0, T, N)) (hN : f < N) (hin : ∀ w ∈ u_ws C0 T N, w ∈ XW) (hlink : Cond.fieldLinkNest y.cls index (T f).1 (T f).2.1 (T f).2.2.1 host ∈ nestW) (hv : ∀ ad, fldv ad w i f d = cv ad v) (k : Zr y maxL ret cc rm mm (pc + 3) L (v :: S) w res) : Zr y maxL ret cc rm mm pc L (.ref i :: S) w res := by
  intro p l e s m args below meth c D ad cid A C H ls locs hL hP hD hS
  exact va_getN (v := cv ad v) C.1 C.2.1 C.2.2.2.2.1 hin C.2.2.2.2.2.1 C.2.2.2.2.2.2.2.1 hP i (cells_at hi hm) hc f hN (va_Nw.use rfl (C.2.2.2.2.2.2.2.2.1.1 _ hlink)) (fun _ h => h) (by rw [← hv]; exact flds_at hf) hd (k p l e s m args below meth c D ad cid A C H ls locs hL hP hD hS)
theorem z_putG {i f d ci N index : Nat} {ds : List Nat} {T : u_T} {C0 : String} {v : Value} {w' : Wd} {ty : FieldType} (ty0 : Nat → FieldType) (hd : decode cc pc = .ok (.putfield index, 3)) (hi : SH[i]? = some (.inl (ci, ds))) (hm : i < mm) (hf : ds[f]? = some d) (hc : vwCl[ci]? = some (C0, T, N)) (hN : f < N) (hin : ∀ w ∈ u_ws C0 T N, w ∈ XW) (hty : ∀ k, k < N → parseFieldDescriptor (T k).2.2.1 = some (ty0 k)) (hnm : ∀ a, a < N → ∀ b, b < N → a ≠ b → (T a).2.1 ≠ (T b).2.1) (hlink : Cond.fieldLink y.cls index (T f).1 (T f).2.1 (T f).2.2.1 ∈ XW) (hfin : (T f).2.2.2 = false) (hpd : parseFieldDescriptor (T f).2.2.1 = some ty)
    (hn : ∀ ad, narrow ty (cv ad v) = cv ad v) (hfit : ∀ ad, fits ty (cv ad v) = true) (hv : ∀ ad, fldv ad w' i f d = cv ad v) (ho : ∀ ad g d', g ≠ f → fldv ad w' i g d' = fldv ad w i g d') (ho2 : ∀ (ad : Nat → Nat) (cid : Nat → ClassId) j e', j ≠ i → cel ad cid w' j e' = cel ad cid w j e') (k : Zr y maxL ret cc rm mm (pc + 3) L S w' res) : Zr y maxL ret cc rm mm pc L (v :: .ref i :: S) w res := by
  intro p l e s m args below meth c D ad cid A C H ls locs hL hP hD hS
  have e0 : (cells ad cid mm w).set i (ad i, .inr (ci, (flds ad w i ds).set f (cv ad v))) = cells ad cid mm w' := by
    rw [flds_set (w' := w') hf (hv ad) (ho ad)]
    exact cells_set hi (ho2 ad cid)
  have hl : f < (flds ad w i ds).length := (List.getElem?_eq_some_iff.mp (flds_at (ad := ad) (w := w) (i := i) hf)).1
  exact va_put (v := cv ad v) (ty := ty) C.1 C.2.1 C.2.2.2.2.1 hin ty0 hty hnm C.2.2.2.2.2.1 C.2.2.2.2.2.2.2.1 hP hD hS i (cells_at hi hm) hc f hN (C.2.2.2.2.1 _ hlink) (fun _ h => h) hfin hpd (hn ad) (hfit ad) hl hd (fun H1 locs1 hP1 hD1 hS1 => k p l e s m args below meth c D ad cid A C H1 ls locs1 hL (by rw [← e0]; exact hP1) (by rw [← e0]; exact hD1) hS1)
theorem z_putN {i f d ci N index : Nat} {ds : List Nat} {T : u_T} {C0 host : String} {v : Value} {w' : Wd} {ty : FieldType} (ty0 : Nat → FieldType) (hd : decode cc pc = .ok (.putfield index, 3)) (hi : SH[i]? = some (.inl (ci, ds))) (hm : i < mm) (hf : ds[f]? = some d) (hc : vwCl[ci]? = some (C0, T, N)) (hN : f < N) (hin : ∀ w ∈ u_ws C0 T N, w ∈ XW) (hty : ∀ k, k < N → parseFieldDescriptor (T k).2.2.1 = some (ty0 k)) (hnm : ∀ a, a < N → ∀ b, b < N → a ≠ b → (T a).2.1 ≠ (T b).2.1) (hlink : Cond.fieldLinkNest y.cls index (T f).1 (T f).2.1 (T f).2.2.1 host ∈ nestW) (hfin : (T f).2.2.2 = false) (hpd : parseFieldDescriptor (T f).2.2.1 = some ty)
    (hn : ∀ ad, narrow ty (cv ad v) = cv ad v) (hfit : ∀ ad, fits ty (cv ad v) = true) (hv : ∀ ad, fldv ad w' i f d = cv ad v) (ho : ∀ ad g d', g ≠ f → fldv ad w' i g d' = fldv ad w i g d') (ho2 : ∀ (ad : Nat → Nat) (cid : Nat → ClassId) j e', j ≠ i → cel ad cid w' j e' = cel ad cid w j e') (k : Zr y maxL ret cc rm mm (pc + 3) L S w' res) : Zr y maxL ret cc rm mm pc L (v :: .ref i :: S) w res := by
  intro p l e s m args below meth c D ad cid A C H ls locs hL hP hD hS
  have e0 : (cells ad cid mm w).set i (ad i, .inr (ci, (flds ad w i ds).set f (cv ad v))) = cells ad cid mm w' := by
    rw [flds_set (w' := w') hf (hv ad) (ho ad)]
    exact cells_set hi (ho2 ad cid)
  have hl : f < (flds ad w i ds).length := (List.getElem?_eq_some_iff.mp (flds_at (ad := ad) (w := w) (i := i) hf)).1
  exact va_putN (v := cv ad v) (ty := ty) C.1 C.2.1 C.2.2.2.2.1 hin ty0 hty hnm C.2.2.2.2.2.1 C.2.2.2.2.2.2.2.1 hP hD hS i (cells_at hi hm) hc f hN (va_Nw.use rfl (C.2.2.2.2.2.2.2.2.1.1 _ hlink)) (fun _ h => h) hfin hpd (hn ad) (hfit ad) hl hd (fun H1 locs1 hP1 hD1 hS1 => k p l e s m args below meth c D ad cid A C H1 ls locs1 hL (by rw [← e0]; exact hP1) (by rw [← e0]; exact hD1) hS1)
theorem fldI {ad : Nat → Nat} {w : Wd} {i f : Nat} {v : Int32} : fldv ad (sI w i f v) i f 0 = .int v := by simp [fldv, sI]
theorem fldI' {ad : Nat → Nat} {w : Wd} {i f : Nat} {v : Int32} : ∀ g d', g ≠ f → fldv ad (sI w i f v) i g d' = fldv ad w i g d' := fun g d' hg => by simp [fldv, sI, hg]
theorem fldJ {ad : Nat → Nat} {w : Wd} {i f : Nat} {v : Int64} : fldv ad (sJ w i f v) i f 1 = .long v := by simp [fldv, sJ]
theorem fldJ' {ad : Nat → Nat} {w : Wd} {i f : Nat} {v : Int64} : ∀ g d', g ≠ f → fldv ad (sJ w i f v) i g d' = fldv ad w i g d' := fun g d' hg => by simp [fldv, sJ, hg]
-- arrays
theorem z_iald {a n : Nat} {i : Int32} (hd : decode cc pc = .ok (.iaload, 1)) (ha : SH[a]? = some (.inr (0, n))) (hm : a < mm) (hin : vp_in i n) (k : Zr y maxL ret cc rm mm (pc + 1) L (.int (wA w a i.toNatClampNeg) :: S) w res) : Zr y maxL ret cc rm mm pc L (.int i :: .ref a :: S) w res := by
  intro p l e s m args below meth c D ad cid A C H ls locs hL hP hD hS
  exact va_iald C.1 C.2.1 C.2.2.2.2.2.2.2.1 hP a 0 (cells_at ha hm) rfl hin hd (k p l e s m args below meth c D ad cid A C H ls locs hL hP hD hS)
theorem z_bald {a n : Nat} {i : Int32} (hd : decode cc pc = .ok (.baload, 1)) (ha : SH[a]? = some (.inr (1, n))) (hm : a < mm) (hin : vp_in i n) (k : Zr y maxL ret cc rm mm (pc + 1) L (.int (wA w a i.toNatClampNeg) :: S) w res) : Zr y maxL ret cc rm mm pc L (.int i :: .ref a :: S) w res := by
  intro p l e s m args below meth c D ad cid A C H ls locs hL hP hD hS
  exact va_bald C.1 C.2.1 C.2.2.2.2.2.2.2.1 hP a 1 (cells_at ha hm) rfl hin hd (k p l e s m args below meth c D ad cid A C H ls locs hL hP hD hS)
theorem cells_sA {ad : Nat → Nat} {cid : Nat → ClassId} {w : Wd} {a b n : Nat} {g : Nat → Int32} (ha : SH[a]? = some (.inr (b, n))) : (cells ad cid mm w).set a (ad a, .inl (cid b, n, .inl g)) = cells ad cid mm (sA w a g) := by
  have h := cells_set (mm := mm) (w := w) (w' := sA w a g) (ad := ad) (cid := cid) ha (cel_sA (a := a) (g := g))
  rw [← h]
  show _ = (cells ad cid mm w).set a (ad a, Sum.inl (cid b, n, Sum.inl (if a = a then g else w.2.2.2 a)))
  rw [if_pos rfl]
theorem z_iast {a n : Nat} {i x : Int32} (hd : decode cc pc = .ok (.iastore, 1)) (ha : SH[a]? = some (.inr (0, n))) (hm : a < mm) (hin : vp_in i n) (k : Zr y maxL ret cc rm mm (pc + 1) L S (sA w a (upd (wA w a) i.toNatClampNeg x)) res) : Zr y maxL ret cc rm mm pc L (.int x :: .int i :: .ref a :: S) w res := by
  intro p l e s m args below meth c D ad cid A C H ls locs hL hP hD hS
  exact va_iast C.1 C.2.1 C.2.2.2.2.2.2.2.1 hP hD hS a 0 (cells_at ha hm) rfl hin hd (fun H1 locs1 hP1 hD1 hS1 => k p l e s m args below meth c D ad cid A C H1 ls locs1 hL (by rw [← cells_sA ha]; exact hP1) (by rw [← cells_sA ha]; exact hD1) hS1)
theorem z_bast {a n : Nat} {i x : Int32} (hd : decode cc pc = .ok (.bastore, 1)) (ha : SH[a]? = some (.inr (1, n))) (hm : a < mm) (hin : vp_in i n) (k : Zr y maxL ret cc rm mm (pc + 1) L S (sA w a (upd (wA w a) i.toNatClampNeg (vp_nar .byte x))) res) : Zr y maxL ret cc rm mm pc L (.int x :: .int i :: .ref a :: S) w res := by
  intro p l e s m args below meth c D ad cid A C H ls locs hL hP hD hS
  exact va_bast C.1 C.2.1 C.2.2.2.2.2.2.2.1 hP hD hS a 1 (cells_at ha hm) rfl hin hd (fun H1 locs1 hP1 hD1 hS1 => k p l e s m args below meth c D ad cid A C H1 ls locs1 hL (by rw [← cells_sA ha]; exact hP1) (by rw [← cells_sA ha]; exact hD1) hS1)
theorem z_alen {a n : Nat} (hd : decode cc pc = .ok (.arraylength, 1)) (ha : SH[a]? = some (.inr (0, n))) (hm : a < mm) (k : Zr y maxL ret cc rm mm (pc + 1) L (.int (Int32.ofNat n) :: S) w res) : Zr y maxL ret cc rm mm pc L (.ref a :: S) w res := by
  intro p l e s m args below meth c D ad cid A C H ls locs hL hP hD hS
  exact va_alen C.1 C.2.1 C.2.2.2.2.2.2.2.1 hP a 0 (cells_at ha hm) (ty := .int) rfl rfl hd (k p l e s m args below meth c D ad cid A C H ls locs hL hP hD hS)
-- constants
theorem z_ordN {index : Nat} {host : String} (hd : decode cc pc = .ok (.getstatic index, 3)) (hlink : Cond.fieldLinkNest y.cls index "PushTray" "ORDERS" "[I" host ∈ nestW) (k : Zr y maxL ret cc rm mm (pc + 3) L (.ref 1000 :: S) w res) : Zr y maxL ret cc rm mm pc L S w res := by
  intro p l e s m args below meth c D ad cid A C H ls locs hL hP hD hS
  exact va_getsN C.1 C.2.1 C.2.2.2.2.2.2.2.2.1.2.1 hS C.2.2.2.2.2.1 (va_Nw.use rfl (C.2.2.2.2.2.2.2.2.1.1 _ hlink)) (fun _ h => h) hd (k p l e s m args below meth c D ad cid A C H ls locs hL hP hD hS)
theorem z_ordI {i : Int32} (hd : decode cc pc = .ok (.iaload, 1)) (hin : vp_in i 6) (k : Zr y maxL ret cc rm mm (pc + 1) L (.int (ordv i.toNatClampNeg) :: S) w res) : Zr y maxL ret cc rm mm pc L (.int i :: .ref 1000 :: S) w res := by
  intro p l e s m args below meth c D ad cid A C H ls locs hL hP hD hS
  exact va_ti C.1 C.2.1 C.2.2.2.2.2.2.2.2.1.2.2.1 hS hin rfl hd (k p l e s m args below meth c D ad cid A C H ls locs hL hP hD hS)
theorem z_kndN {index : Nat} {host : String} (hd : decode cc pc = .ok (.getstatic index, 3)) (hlink : Cond.fieldLinkNest y.cls index "PushTray" "KINDS" "[LPushTray$Kind;" host ∈ nestW) (k : Zr y maxL ret cc rm mm (pc + 3) L (.ref 1001 :: S) w res) : Zr y maxL ret cc rm mm pc L S w res := by
  intro p l e s m args below meth c D ad cid A C H ls locs hL hP hD hS
  exact va_getsN C.1 C.2.1 C.2.2.2.2.2.2.2.2.1.2.2.2.1 hS C.2.2.2.2.2.1 (va_Nw.use rfl (C.2.2.2.2.2.2.2.2.1.1 _ hlink)) (fun _ h => h) hd (k p l e s m args below meth c D ad cid A C H ls locs hL hP hD hS)
theorem z_knd {index : Nat} (hd : decode cc pc = .ok (.getstatic index, 3)) (hlink : Cond.fieldLink y.cls index "PushTray" "KINDS" "[LPushTray$Kind;" ∈ XW) (k : Zr y maxL ret cc rm mm (pc + 3) L (.ref 1001 :: S) w res) : Zr y maxL ret cc rm mm pc L S w res := by
  intro p l e s m args below meth c D ad cid A C H ls locs hL hP hD hS
  exact va_gets C.1 C.2.1 C.2.2.2.2.2.2.2.2.1.2.2.2.1 hS C.2.2.2.2.2.1 (C.2.2.2.2.1 _ hlink) (fun _ h => h) hd (k p l e s m args below meth c D ad cid A C H ls locs hL hP hD hS)
theorem z_kndL (hd : decode cc pc = .ok (.arraylength, 1)) (k : Zr y maxL ret cc rm mm (pc + 1) L (.int 5 :: S) w res) : Zr y maxL ret cc rm mm pc L (.ref 1001 :: S) w res := by
  intro p l e s m args below meth c D ad cid A C H ls locs hL hP hD hS
  exact va_tlen C.1 C.2.1 C.2.2.2.2.2.2.2.2.1.2.2.2.2.1 hS rfl hd (k p l e s m args below meth c D ad cid A C H ls locs hL hP hD hS)
theorem z_kndA {i : Int32} {j : Nat} (hd : decode cc pc = .ok (.aaload, 1)) (hi : i = nI j) (hj : j < 5) (k : Zr y maxL ret cc rm mm (pc + 1) L (.ref (2000 + j) :: S) w res) : Zr y maxL ret cc rm mm pc L (.int i :: .ref 1001 :: S) w res := by
  intro p l e s m args below meth c D ad cid A C H ls locs hL hP hD hS
  refine vb_tq (v := .ref (ad (2000 + j))) C.1 C.2.1 C.2.2.2.2.2.2.2.2.1.2.2.2.2.1 hS ?_ ?_ hd (k p l e s m args below meth c D ad cid A C H ls locs hL hP hD hS)
  · rw [hi]; exact vp_in_nI hj (by omega)
  · rw [hi, nI_clamp (by omega)]
end ZR
section ZC
variable {y : MethodName} {maxL : Nat} {ret : Option FieldType} {cc : ByteArray} {rm : Room} {mm pc : Nat} {L : List (Option Value)} {S S0 : List Value} {w : Wd} {res : Option Value × Wd}
variable {y' : MethodName} {maxL' : Nat} {ret' : Option FieldType} {cc' : ByteArray} {rm' : Room} {as : List Value} {b index : Nat} {w' : Wd} {rv : Option Value}
theorem xws_good (hcode : Cond.code y' cc' maxL' ret' ∈ XW) : GoodIn XW (xws y' maxL' ret' cc') := by
  intro w hw
  rcases List.mem_cons.mp hw with rfl | h
  · exact ⟨hcode, Or.inl rfl⟩
  · exact ⟨h, XW_good _ h⟩
theorem good_app {big a b : List Cond} (ha : GoodIn big a) (hb : GoodIn big b) : GoodIn big (a ++ b) := fun w h => (List.mem_append.mp h).elim (ha w) (hb w)
theorem good_sub {ws : List Cond} (h : ∀ w ∈ ws, w ∈ XW) : GoodIn XW ws := fun w hw => ⟨h w hw, XW_good _ (h w hw)⟩
theorem XA_le {ad : Nat → Nat} {mm a b : Nat} (h : a ≤ b) : ∀ q, XA ad mm b q → XA ad mm a q := fun q hq => by
  rcases hq with h1 | h1
  · exact Or.inl h1
  · exact Or.inr (Nat.le_trans h h1)
theorem cv_cats (ad : Nat → Nat) (S : List Value) : ((S.map (cv ad)).map fun v => v.category) = S.map fun v => v.category := by
  rw [List.map_map]
  congr 1
  funext v
  exact cv_cat ad v
theorem blind_x {ad : Nat → Nat} {cid : Nat → ClassId} {D : va_G} {sz : Nat} : FrameBlind (va_Pc (as.map (cv ad)) (fun U => U.heap.size = sz ∧ va_P D vwCl (cells ad cid mm w) U.heap ∧ va_K D vwCl (xTy cid) U ∧ va_D (fun _ => True) (cells ad cid mm w) ∧ SK ad (XA ad mm sz) U U.heap)) := by
  intro a U g mk q
  obtain ⟨q0, q1, qP, qK, qD, qS⟩ := q
  exact ⟨q0, q1, qP, va_K.moved (u := U) (U := U.calling g mk a) (Vm.Alike.refl U.vm) qK, qD, qS.same rfl⟩
/-- behind any call: what the callee's contract says -/
theorem z_back {p : Program} {l : Launch} {e : Env} {s : State} {m : MethodId} {args a : Array Value} {below : List Frame} {meth : Method} {c : Code} {D : va_G} {ad : Nat → Nat} {cid : Nat → ClassId} {A : Nat → Prop} (C : Cx y maxL ret cc mm p s m args meth c D ad cid A)
    {H : Heap} {ls : Array Slot} {locs : List Loc} {st0 : List Value} (hL : LR ad ls maxL L) (hS : va_S A s.heap H locs) (run : va_Run p l e rm s m args below meth c H locs 0 0 0 0 (F0 m pc ls st0) (S.map (cv ad)) (Qx ad cid mm D (XA ad mm H.size) (rv, w') a) (XA ad mm H.size))
    (k : Zr y maxL ret cc rm mm (pc + 3) L (rv.toList ++ S) w' res) : W p l e rm s m args below meth c H locs 0 0 (MQ below (Qx ad cid mm D A res) args s 0 0 A) (F0 m pc ls st0) := by
  intro T hT X
  obtain ⟨v, st₀, t, T', L', h0, X', hL', e1, e2, ⟨⟨hv, hP1, hD1⟩, hz, hk⟩, st⟩ := run T hT X
  have hv' : v = rv.map (cv ad) := by cases hv; rfl
  subst hv'
  rw [h0] at hz hk
  have hAB : ∀ q, XA ad mm H.size q → A q := by
    have hA := C.2.2.2.2.2.2.2.2.2.1
    intro q hq
    rw [hA]
    exact XA_le hS.1 q hq
  obtain ⟨t2, a1, b1⟩ := k p l e s m args below meth c D ad cid A C T'.heap ls (locs ++ L') hL (by rw [e1]; exact hP1) (hD1.weaken (fun _ _ _ h => hAB _ h))
    ⟨Nat.le_trans hS.1 (by rw [e1]; exact hz), fun q h1 h2 => by rw [e1, hk q (Nat.lt_of_lt_of_le h1 hS.1) (fun z => h2 (hAB q z))]; exact hS.2.1 q h1 h2, fun q hq => by
      rcases List.mem_append.mp hq with h | h
      · exact hS.2.2 q h
      · exact hAB _ (hL' q h)⟩ T' rfl X'
  refine ⟨t2, st t2 ?_, b1⟩
  have e3 : ((rv.toList ++ S).map (cv ad)) = (rv.map (cv ad)).toList ++ S.map (cv ad) := by cases rv <;> simp
  rw [e3] at a1
  exact a1
theorem z_pre {s : State} {D : va_G} {ad : Nat → Nat} {cid : Nat → ClassId} {A : Nat → Prop} {p : Program} {m : MethodId} {args : Array Value} {meth : Method} {c : Code} (C : Cx y maxL ret cc mm p s m args meth c D ad cid A) {H : Heap} {locs : List Loc} (hP : va_P D vwCl (cells ad cid mm w) H) (hD : va_D A (cells ad cid mm w)) (hS : va_S A s.heap H locs) :
    ∀ U : State, U.heap = H → s.WarmedH U.vm → va_Pc (as.map (cv ad)) (fun U => U.heap.size = H.size ∧ va_P D vwCl (cells ad cid mm w) U.heap ∧ va_K D vwCl (xTy cid) U ∧ va_D (fun _ => True) (cells ad cid mm w) ∧ SK ad (XA ad mm H.size) U U.heap) (as.map (cv ad)).toArray U := by
  intro U hU hW
  have hA := C.2.2.2.2.2.2.2.2.2.1
  refine ⟨rfl, by rw [hU], by rw [hU]; exact hP, va_K.moved hW.alike C.2.2.2.2.2.2.2.1, hD.weaken (fun _ _ _ _ => trivial), ?_⟩
  rw [hU]
  refine C.2.2.2.2.2.2.2.2.1.warm hW hS.2.1 (fun q hq => ?_)
  rw [hA]
  exact XA_le hS.1 q hq
theorem z_callV {ci N : Nat} {ds : List Nat} {T : u_T} (hd : decode cc pc = .ok (.invokevirtual index, 3)) (hM : AM y' maxL' ret' cc' rm' mm (.ref b :: as) w (rv, w')) (hS0 : S0 = as.reverse ++ .ref b :: S) (hcode : Cond.code y' cc' maxL' ret' ∈ XW) (hlink : Cond.methodLink y.cls index y' ∈ XW) (hinst : Cond.instanceMethod y' ∈ XW) (hsel : Cond.selects y'.cls y' y' ∈ XW) (hini : Cond.initialized y'.cls ∈ XW)
    (hdesc : y'.cls = y'.cls ∧ y'.cls ≠ "java/lang/invoke/MethodHandle" ∧ y'.cls ≠ "java/lang/invoke/VarHandle" ∧ (parseMethodDescriptor y'.desc).map (fun d => d.parameters.length) = some as.length) (hroom : rm'.cells = 0 ∧ rm'.slots = 0 ∧ rm'.frames + 1 ≤ rm.frames ∧ 8 + (maxL' + 11) + rm'.locals ≤ rm.locals) (hcat : (S.map fun v => v.category).sum ≤ 8)
    (hobj : SH[b]? = some (.inl (ci, ds))) (hm : b < mm) (hc : vwCl[ci]? = some (y'.cls, T, N)) (k : Zr y maxL ret cc rm mm (pc + 3) L (rv.toList ++ S) w' res) : Zr y maxL ret cc rm mm pc L S0 w res := by
  subst hS0
  intro p l e s m args below meth c D ad cid A C H ls locs hL hP hD hS
  have hts : ∀ w ∈ XW, w.before args s = true := C.2.2.2.2.1
  have hK := C.2.2.2.2.2.2.2.1
  have hg : GoodIn XW (wsV y.cls index y'.cls y' (xws y' maxL' ret' cc')) := good_app (good_sub (fun w hw => by
    simp only [List.mem_cons, List.not_mem_nil, or_false] at hw
    rcases hw with rfl | rfl | rfl | rfl
    · exact hlink
    · exact hinst
    · exact hsel
    · exact hini)) (xws_good hcode)
  refine z_back C hL hS (va_runV (C := y'.cls) (As := as.map (cv ad)) (rest := S.map (cv ad)) ⟨C.1, C.2.1, C.2.2.1, C.2.2.2.2.2.1, hts⟩ (hM l D ad cid H.size) (cwV as.length hts hg rfl hroom.1 hroom.2.1 hdesc hroom.2.2) ⟨blind_x, va_recv hK hP hc (cells_at hobj hm), z_pre C hP hD hS⟩ rfl (by simp) hL.choose_spec.1.1 (by simp [cv]) (lv_room (by rw [cv_cats]; exact hcat)) hd ⟨Nat.zero_le _, Nat.zero_le _⟩) k
theorem z_callK {j : Nat} (hd : decode cc pc = .ok (.invokevirtual index, 3)) (hj : j < 5) (hM : AM y' maxL' ret' cc' rm' mm (.ref (2000 + j) :: as) w (rv, w')) (hS0 : S0 = as.reverse ++ .ref (2000 + j) :: S) (hcode : Cond.code y' cc' maxL' ret' ∈ XW) (hlink : Cond.methodLink y.cls index y' ∈ XW) (hinst : Cond.instanceMethod y' ∈ XW) (hsel : Cond.selects y'.cls y' y' ∈ XW) (hini : Cond.initialized y'.cls ∈ XW) (hcls : y'.cls = "PushTray$Kind")
    (hdesc : y'.cls = y'.cls ∧ y'.cls ≠ "java/lang/invoke/MethodHandle" ∧ y'.cls ≠ "java/lang/invoke/VarHandle" ∧ (parseMethodDescriptor y'.desc).map (fun d => d.parameters.length) = some as.length) (hroom : rm'.cells = 0 ∧ rm'.slots = 0 ∧ rm'.frames + 1 ≤ rm.frames ∧ 8 + (maxL' + 11) + rm'.locals ≤ rm.locals) (hcat : (S.map fun v => v.category).sum ≤ 8)
    (k : Zr y maxL ret cc rm mm (pc + 3) L (rv.toList ++ S) w' res) : Zr y maxL ret cc rm mm pc L S0 w res := by
  subst hS0
  intro p l e s m args below meth c D ad cid A C H ls locs hL hP hD hS
  have hts : ∀ w ∈ XW, w.before args s = true := C.2.2.2.2.1
  have hg : GoodIn XW (wsV y.cls index y'.cls y' (xws y' maxL' ret' cc')) := good_app (good_sub (fun w hw => by
    simp only [List.mem_cons, List.not_mem_nil, or_false] at hw
    rcases hw with rfl | rfl | rfl | rfl
    · exact hlink
    · exact hinst
    · exact hsel
    · exact hini)) (xws_good hcode)
  refine z_back C hL hS (va_runV (C := y'.cls) (As := as.map (cv ad)) (rest := S.map (cv ad)) ⟨C.1, C.2.1, C.2.2.1, C.2.2.2.2.2.1, hts⟩ (hM l D ad cid H.size) (cwV as.length hts hg rfl hroom.1 hroom.2.1 hdesc hroom.2.2) ⟨blind_x, by rw [hcls]; exact va_Orecv (C.2.2.2.2.2.2.2.2.1.2.2.2.2.2.1 j hj) hS, z_pre C hP hD hS⟩ rfl (by simp) hL.choose_spec.1.1 (by simp [cv]) (lv_room (by rw [cv_cats]; exact hcat)) hd ⟨Nat.zero_le _, Nat.zero_le _⟩) k
theorem z_callS (hd : decode cc pc = .ok (.invokestatic index, 3)) (hM : AM y' maxL' ret' cc' rm' mm as w (rv, w')) (hS0 : S0 = as.reverse ++ S) (hcode : Cond.code y' cc' maxL' ret' ∈ XW) (hlink : Cond.methodLink y.cls index y' ∈ XW) (hst : Cond.static y' ∈ XW) (hini : Cond.initialized y'.cls ∈ XW)
    (hdesc : y'.cls ≠ "java/lang/invoke/MethodHandle" ∧ y'.cls ≠ "java/lang/invoke/VarHandle" ∧ (parseMethodDescriptor y'.desc).map (fun d => d.parameters.length) = some as.length) (hroom : rm'.cells = 0 ∧ rm'.slots = 0 ∧ rm'.frames + 1 ≤ rm.frames ∧ 8 + (maxL' + 11) + rm'.locals ≤ rm.locals) (hcat : (S.map fun v => v.category).sum ≤ 8)
    (k : Zr y maxL ret cc rm mm (pc + 3) L (rv.toList ++ S) w' res) : Zr y maxL ret cc rm mm pc L S0 w res := by
  subst hS0
  intro p l e s m args below meth c D ad cid A C H ls locs hL hP hD hS
  have hts : ∀ w ∈ XW, w.before args s = true := C.2.2.2.2.1
  have hg : GoodIn XW (va_wsS y.cls index y' (xws y' maxL' ret' cc')) := good_app (good_sub (fun w hw => by
    simp only [List.mem_cons, List.not_mem_nil, or_false] at hw
    rcases hw with rfl | rfl | rfl
    · exact hlink
    · exact hst
    · exact hini)) (xws_good hcode)
  refine z_back C hL hS (va_runS (As := as.map (cv ad)) (rest := S.map (cv ad)) ⟨C.1, C.2.1, C.2.2.1, C.2.2.2.2.2.1, hts⟩ (hM l D ad cid H.size) (va_cwS as.length hts hg rfl hroom.1 hroom.2.1 hdesc hroom.2.2) ⟨blind_x, z_pre C hP hD hS⟩ rfl (by simp) hL.choose_spec.1.1 (by simp) (lv_room (by rw [cv_cats]; exact hcat)) hd ⟨Nat.zero_le _, Nat.zero_le _⟩) k
theorem z_callSN {host : String} (hd : decode cc pc = .ok (.invokestatic index, 3)) (hM : AM y' maxL' ret' cc' rm' mm as w (rv, w')) (hS0 : S0 = as.reverse ++ S) (hcode : Cond.code y' cc' maxL' ret' ∈ XW) (hlink : Cond.methodLinkNest y.cls index y' host ∈ nestW) (hst : Cond.static y' ∈ XW) (hini : Cond.initialized y'.cls ∈ XW)
    (hdesc : y'.cls ≠ "java/lang/invoke/MethodHandle" ∧ y'.cls ≠ "java/lang/invoke/VarHandle" ∧ (parseMethodDescriptor y'.desc).map (fun d => d.parameters.length) = some as.length) (hroom : rm'.cells = 0 ∧ rm'.slots = 0 ∧ rm'.frames + 1 ≤ rm.frames ∧ 8 + (maxL' + 11) + rm'.locals ≤ rm.locals) (hcat : (S.map fun v => v.category).sum ≤ 8)
    (k : Zr y maxL ret cc rm mm (pc + 3) L (rv.toList ++ S) w' res) : Zr y maxL ret cc rm mm pc L S0 w res := by
  subst hS0
  intro p l e s m args below meth c D ad cid A C H ls locs hL hP hD hS
  have hts : ∀ w ∈ XW, w.before args s = true := C.2.2.2.2.1
  refine z_back C hL hS (va_runSN (As := as.map (cv ad)) (rest := S.map (cv ad)) ⟨C.1, C.2.1, C.2.2.1, C.2.2.2.2.2.1, hts⟩ (hM l D ad cid H.size) ⟨va_cnB (host := host) as.length hts (xws_good hcode) rfl hroom.1 hroom.2.1 (C.2.2.2.2.2.2.2.2.1.1 _ hlink) (hts _ hini) hdesc hroom.2.2, hts _ hst, trivial⟩ ⟨blind_x, z_pre C hP hD hS⟩ rfl (by simp) hL.choose_spec.1.1 (by simp) (lv_room (by rw [cv_cats]; exact hcat)) hd ⟨Nat.zero_le _, Nat.zero_le _⟩) k
-- Math.max, Math.abs, System.arraycopy
theorem z_mmax {x z : Int32} (hd : decode cc pc = .ok (.invokestatic index, 3)) (hlink : Cond.methodLink y.cls index Lib.Math.max.name ∈ XW) (hst : Cond.static Lib.Math.max.name ∈ XW) (hini : Cond.initialized "java/lang/Math" ∈ XW) (hcode : Cond.code Lib.Math.max.name Lib.Math.max.code 2 (some .int) ∈ XW) (hroom : 1 ≤ rm.frames ∧ 30 ≤ rm.locals) (hcat : (S.map fun v => v.category).sum ≤ 8)
    (k : Zr y maxL ret cc rm mm (pc + 3) L (.int (if x < z then z else x) :: S) w res) : Zr y maxL ret cc rm mm pc L (.int z :: .int x :: S) w res := by
  intro p l e s m args below meth c D ad cid A C H ls locs hL hP hD hS
  have hts : ∀ w ∈ XW, w.before args s = true := C.2.2.2.2.1
  exact va_mmax C.1 C.2.1 (by rw [C.2.2.1]; exact hL.choose_spec.1.1.symm) C.2.2.2.2.2.1 (hts _ hlink) (hts _ hst) (hts _ hini) (hts _ hcode) hroom.1 (by have h1 := cv_cats ad S; have h2 := hroom.2; rw [h1]; show _ + 13 ≤ rm.locals; omega) (Nat.zero_le _) (Nat.zero_le _) hd (k p l e s m args below meth c D ad cid A C H ls locs hL hP hD hS)
theorem z_mabs {x : Int32} (hd : decode cc pc = .ok (.invokestatic index, 3)) (hlink : Cond.methodLink y.cls index Lib.Math.abs.name ∈ XW) (hst : Cond.static Lib.Math.abs.name ∈ XW) (hini : Cond.initialized "java/lang/Math" ∈ XW) (hcode : Cond.code Lib.Math.abs.name Lib.Math.abs.code 1 (some .int) ∈ XW) (hroom : 1 ≤ rm.frames ∧ 30 ≤ rm.locals) (hcat : (S.map fun v => v.category).sum ≤ 8)
    (k : Zr y maxL ret cc rm mm (pc + 3) L (.int (if 0 ≤ x then x else 0 - x) :: S) w res) : Zr y maxL ret cc rm mm pc L (.int x :: S) w res := by
  intro p l e s m args below meth c D ad cid A C H ls locs hL hP hD hS
  have hts : ∀ w ∈ XW, w.before args s = true := C.2.2.2.2.1
  exact va_mabs C.1 C.2.1 (by rw [C.2.2.1]; exact hL.choose_spec.1.1.symm) C.2.2.2.2.2.1 (hts _ hlink) (hts _ hst) (hts _ hini) (hts _ hcode) hroom.1 (by have h1 := cv_cats ad S; have h2 := hroom.2; rw [h1]; show _ + 13 ≤ rm.locals; omega) (Nat.zero_le _) (Nat.zero_le _) hd (k p l e s m args below meth c D ad cid A C H ls locs hL hP hD hS)
theorem z_acopy {a0 a1 n0 n1 : Nat} {sp dp n : Int32} (hd : decode cc pc = .ok (.invokestatic index, 3)) (hlink : Cond.methodLink y.cls index arraycopyName ∈ XW) (hnat : Cond.native arraycopyName ∈ XW) (hst : Cond.static arraycopyName ∈ XW) (hini : Cond.initialized "java/lang/System" ∈ XW)
    (ha0 : SH[a0]? = some (.inr (0, n0))) (hm0 : a0 < mm) (ha1 : SH[a1]? = some (.inr (0, n1))) (hm1 : a1 < mm) (h1 : ¬ sp < 0) (h2 : ¬ dp < 0) (h3 : ¬ n < 0) (h4 : sp.toNatClampNeg + n.toNatClampNeg ≤ n0) (h5 : dp.toNatClampNeg + n.toNatClampNeg ≤ n1) (hroom : 1 ≤ rm.frames ∧ nativeFrameWords "java/lang/System" "arraycopy" 5 + 19 ≤ rm.locals) (hcat : (S.map fun v => v.category).sum ≤ 8)
    (k : Zr y maxL ret cc rm mm (pc + 3) L S (sA w a1 (va_cpy (wA w a0) (wA w a1) sp.toNatClampNeg dp.toNatClampNeg n.toNatClampNeg)) res) : Zr y maxL ret cc rm mm pc L (.int n :: .int dp :: .ref a1 :: .int sp :: .ref a0 :: S) w res := by
  intro p l e s m args below meth c D ad cid A C H ls locs hL hP hD hS
  have hts : ∀ w ∈ XW, w.before args s = true := C.2.2.2.2.1
  exact va_copyi (ty := .int) C.1 C.2.1 (by rw [C.2.2.1]; exact hL.choose_spec.1.1.symm) C.2.2.2.2.2.1 (hts _ hlink) (hts _ hnat) (hts _ hst) (hts _ hini) C.2.2.2.2.2.2.2.1 hP hD hS a0 a1 0 0 (cells_at ha0 hm0) (cells_at ha1 hm1) rfl rfl rfl h1 h2 h3 h4 h5 (fun _ _ => rfl) hroom.1 (by have h1 := cv_cats ad S; have h2 := hroom.2; rw [h1]; omega) hd
    (fun H1 locs1 hP1 hD1 hS1 => k p l e s m args below meth c D ad cid A C H1 ls locs1 hL (by rw [← cells_sA ha1]; exact hP1) (by rw [← cells_sA ha1]; exact hD1) hS1)
-- the constants' fields
theorem z_kf {j index : Nat} {n : String} {v : Nat → Int32} (hd : decode cc pc = .ok (.getfield index, 3)) (hj : j < 5) (hE : ∀ ad A U H, SK ad A U H → va_Ef 5 "PushTray$Kind" n "I" (fun k => .int (v k)) (fun k => ad (2000 + k)) A U H) (hlink : Cond.fieldLink y.cls index "PushTray$Kind" n "I" ∈ XW) (k : Zr y maxL ret cc rm mm (pc + 3) L (.int (v j) :: S) w res) : Zr y maxL ret cc rm mm pc L (.ref (2000 + j) :: S) w res := by
  intro p l e s m args below meth c D ad cid A C H ls locs hL hP hD hS
  exact va_getX (i := j) (v := fun k => .int (v k)) C.1 C.2.1 (hE _ _ _ _ C.2.2.2.2.2.2.2.2.1) hj hS C.2.2.2.2.2.1 (C.2.2.2.2.1 _ hlink) (fun _ h => h) hd (k p l e s m args below meth c D ad cid A C H ls locs hL hP hD hS)
theorem z_kfN {j index : Nat} {n host : String} {v : Nat → Int32} (hd : decode cc pc = .ok (.getfield index, 3)) (hj : j < 5) (hE : ∀ ad A U H, SK ad A U H → va_Ef 5 "PushTray$Kind" n "I" (fun k => .int (v k)) (fun k => ad (2000 + k)) A U H) (hlink : Cond.fieldLinkNest y.cls index "PushTray$Kind" n "I" host ∈ nestW) (k : Zr y maxL ret cc rm mm (pc + 3) L (.int (v j) :: S) w res) : Zr y maxL ret cc rm mm pc L (.ref (2000 + j) :: S) w res := by
  intro p l e s m args below meth c D ad cid A C H ls locs hL hP hD hS
  obtain ⟨cf, kf, fi, f, cell, h1, h2, h3, h4, h5, h6⟩ := (hE _ _ _ _ C.2.2.2.2.2.2.2.2.1 j hj).kept hS.2.1
  exact va_Wgetf C.1 C.2.1 C.2.2.2.2.2.1 (va_Nw.use rfl (C.2.2.2.2.2.2.2.2.1.1 _ hlink)) h1 h2 h3 h4 (v := .int (v j)) h5 rfl rfl hd (k p l e s m args below meth c D ad cid A C H ls locs hL hP hD hS)
-- ends
theorem z_iret {x : Int32} {ty : FieldType} (hr : ret = some ty) (hn : narrow ty (.int x) = .int x) (hd : decode cc pc = .ok (.ireturn, 1)) : Zr y maxL ret cc rm mm pc L [.int x] w (some (.int x), w) := by
  subst hr
  intro p l e s m args below meth c D ad cid A C H ls locs hL hP hD hS
  exact W.zret C.1 C.2.1 C.2.2.2.1 hn (fun t ht hW => ⟨⟨rfl, by rw [ht]; exact hP, hD⟩, hS.F ht⟩) hS.2.2 hd C.2.2.2.2.2.2.1
theorem z_lret {x : Int64} (hr : ret = some .long) (hd : decode cc pc = .ok (.lreturn, 1)) : Zr y maxL ret cc rm mm pc L [.long x] w (some (.long x), w) := by
  subst hr
  intro p l e s m args below meth c D ad cid A C H ls locs hL hP hD hS
  exact W.lret C.1 C.2.1 C.2.2.2.1 (fun t ht hW => ⟨⟨rfl, by rw [ht]; exact hP, hD⟩, hS.F ht⟩) hS.2.2 hd C.2.2.2.2.2.2.1
theorem z_vret (hr : ret = none) (hd : decode cc pc = .ok (.return_, 1)) : Zr y maxL ret cc rm mm pc L [] w (none, w) := by
  subst hr
  intro p l e s m args below meth c D ad cid A C H ls locs hL hP hD hS
  exact W.vret C.1 C.2.1 C.2.2.2.1 (fun t ht hW => ⟨⟨rfl, by rw [ht]; exact hP, hD⟩, hS.F ht⟩) hS.2.2 hd C.2.2.2.2.2.2.1
/-- the locals at the entry -/
def al0 : List Value → List (Option Value)
  | [] => []
  | v :: vs => if v.category = 2 then some v :: none :: al0 vs else some v :: al0 vs
theorem al0_len (ad : Nat → Nat) : ∀ as : List Value, (lg_sl (as.map (cv ad))).length = (al0 as).length
  | [] => rfl
  | v :: vs => by
    have ih := al0_len ad vs
    unfold lg_sl at ih
    rcases lv_cat v with h | h
    · simp [lg_sl, al0, cv_cat, h, ih]
    · simp [lg_sl, al0, cv_cat, h, ih]
theorem al0_spec (ad : Nat → Nat) : ∀ (as : List Value) (n i : Nat) (v : Value), (al0 as)[i]? = some (some v) → (n + i, cv ad v) ∈ lv_args n (as.map (cv ad))
  | [], _, i, v, h => by simp [al0] at h
  | u :: us, n, i, v, h => by
    rcases lv_cat u with hc | hc
    · have hc2 : ¬ u.category = 2 := by omega
      rw [al0, if_neg hc2] at h
      show _ ∈ (n, cv ad u) :: lv_args (if (cv ad u).category = 2 then n + 2 else n + 1) (us.map (cv ad))
      rw [cv_cat, if_neg hc2]
      cases i with
      | zero => cases h; exact List.mem_cons_self
      | succ i =>
        have := al0_spec ad us (n + 1) i v (by simpa using h)
        rw [show n + 1 + i = n + (i + 1) by omega] at this
        exact List.mem_cons_of_mem _ this
    · rw [al0, if_pos hc] at h
      show _ ∈ (n, cv ad u) :: lv_args (if (cv ad u).category = 2 then n + 2 else n + 1) (us.map (cv ad))
      rw [cv_cat, if_pos hc]
      match i, h with
      | 0, h => cases h; exact List.mem_cons_self
      | 1, h => simp at h
      | i + 2, h =>
        have := al0_spec ad us (n + 2) i v (by simpa using h)
        rw [show n + 2 + i = n + (i + 2) by omega] at this
        exact List.mem_cons_of_mem _ this
theorem am_intro {L : List (Option Value)} (hy : plainName y.cls = true) (hlen : (al0 as).length ≤ maxL) (hL : L = al0 as ++ List.replicate (maxL - (al0 as).length) none) (k : Zr y maxL ret cc rm mm 0 L [] w res) : AM y maxL ret cc rm mm as w res := by
  intro l D ad cid sz
  refine Met.ofW (cc := cc) (maxL := maxL) (ret := ret) hy rfl ?_
  intro p e s m args below meth c s₁ B hml hv
  obtain ⟨rfl, hsz, hP, hK, hD0, hSK⟩ := hv
  have hts := atoms_spec (ws := xws y maxL ret cc) B.pre
  have hown : s.vm.findClass y.cls = some m.cls := findClass_of_methodNamed B.named
  subst hsz
  have hlen' : (lg_sl (as.map (cv ad))).length ≤ maxL := by rw [al0_len]; exact hlen
  have hl := lv_entry (as.map (cv ad)) (n := maxL) hlen'
  rw [lg_entry_eq]
  refine k p l e s m _ below meth c D ad cid (XA ad mm s.heap.size) ⟨B.exec, B.bytes, hml, B.returns, fun w hw => hts w (List.mem_cons_of_mem _ hw), hown, B.notSynchronized, hK, hSK, rfl, (name_of_methodNamed B.named B.method).1⟩ s.heap _ [] ⟨_, hl, ?_, fun i v hi => ?_⟩ hP (cells_D hD0) va_S.rf
  · rw [hL]; simp; omega
  · rw [hL] at hi
    by_cases h : i < (al0 as).length
    · rw [List.getElem?_append_left h] at hi
      have := al0_spec ad as 0 i v hi
      simpa using this
    · rw [List.getElem?_append_right (by omega)] at hi
      have h2 := List.mem_of_getElem? hi
      rw [List.mem_replicate] at h2
      cases h2.2
end ZC
end

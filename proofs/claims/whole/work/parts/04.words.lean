-- ===== PART A: goes FIRST, ahead of the names: the tables' words, and 'selects' of the private methods out of them =====
/-- a private method of a class that the tables say can be made, by its rows of tables_1 -/
def lw_okq (q : MethodName × Nat) : Prop := (q.1.cls ≠ "java/lang/invoke/MethodHandle" ∧ q.1.cls ≠ "java/lang/invoke/VarHandle") ∧ Cond.instantiable q.1.cls q.2 ∈ tables_1 ∧ Cond.privateMethod q.1 ∈ tables_1 ∧ Cond.instanceMethod q.1 ∈ tables_1
theorem lw_p0 : lw_okq (⟨"RoomTrees", "refuse", "(I)I"⟩, 17) := ⟨⟨by decide +kernel, by decide +kernel⟩, List.mem_of_getElem? (i := 19) (by decide +kernel), List.mem_of_getElem? (i := 371) (by decide +kernel), List.mem_of_getElem? (i := 372) (by decide +kernel)⟩
theorem lw_p1 : lw_okq (⟨"RoomTrees", "treeOf", "(I)I"⟩, 17) := ⟨⟨by decide +kernel, by decide +kernel⟩, List.mem_of_getElem? (i := 19) (by decide +kernel), List.mem_of_getElem? (i := 421) (by decide +kernel), List.mem_of_getElem? (i := 422) (by decide +kernel)⟩
theorem lw_p2 : lw_okq (⟨"RoomTrees$Walk", "spread", "(LRoomTrees$Forest;II)V"⟩, 5) := ⟨⟨by decide +kernel, by decide +kernel⟩, List.mem_of_getElem? (i := 110) (by decide +kernel), List.mem_of_getElem? (i := 430) (by decide +kernel), List.mem_of_getElem? (i := 431) (by decide +kernel)⟩
theorem lw_p3 : lw_okq (⟨"RoomTrees$Walk", "enter", "(III)V"⟩, 5) := ⟨⟨by decide +kernel, by decide +kernel⟩, List.mem_of_getElem? (i := 110) (by decide +kernel), List.mem_of_getElem? (i := 434) (by decide +kernel), List.mem_of_getElem? (i := 435) (by decide +kernel)⟩
theorem lw_p4 : lw_okq (⟨"RoomTrees$Step", "isTold", "(LRoomTrees$Forest;)Z"⟩, 7) := ⟨⟨by decide +kernel, by decide +kernel⟩, List.mem_of_getElem? (i := 47) (by decide +kernel), List.mem_of_getElem? (i := 508) (by decide +kernel), List.mem_of_getElem? (i := 509) (by decide +kernel)⟩
theorem lw_p5 : lw_okq (⟨"RoomTrees$Step", "fits", "(LRoomTrees$Forest;)Z"⟩, 7) := ⟨⟨by decide +kernel, by decide +kernel⟩, List.mem_of_getElem? (i := 47) (by decide +kernel), List.mem_of_getElem? (i := 515) (by decide +kernel), List.mem_of_getElem? (i := 516) (by decide +kernel)⟩
theorem lw_p6 : lw_okq (⟨"RoomTrees$Step", "overloads", "(LRoomTrees$Forest;)Z"⟩, 7) := ⟨⟨by decide +kernel, by decide +kernel⟩, List.mem_of_getElem? (i := 47) (by decide +kernel), List.mem_of_getElem? (i := 523) (by decide +kernel), List.mem_of_getElem? (i := 524) (by decide +kernel)⟩
theorem lw_p7 : lw_okq (⟨"RoomTrees$Step", "blowDown", "(LRoomTrees$Forest;)V"⟩, 7) := ⟨⟨by decide +kernel, by decide +kernel⟩, List.mem_of_getElem? (i := 47) (by decide +kernel), List.mem_of_getElem? (i := 573) (by decide +kernel), List.mem_of_getElem? (i := 574) (by decide +kernel)⟩
theorem lw_p8 : lw_okq (⟨"RoomTrees$Step", "bud", "(LRoomTrees$Forest;)I"⟩, 7) := ⟨⟨by decide +kernel, by decide +kernel⟩, List.mem_of_getElem? (i := 47) (by decide +kernel), List.mem_of_getElem? (i := 584) (by decide +kernel), List.mem_of_getElem? (i := 585) (by decide +kernel)⟩
theorem lw_p9 : lw_okq (⟨"RoomTrees$Step", "absorb", "(LRoomTrees$Forest;)V"⟩, 7) := ⟨⟨by decide +kernel, by decide +kernel⟩, List.mem_of_getElem? (i := 47) (by decide +kernel), List.mem_of_getElem? (i := 589) (by decide +kernel), List.mem_of_getElem? (i := 590) (by decide +kernel)⟩
theorem lw_p10 : lw_okq (⟨"RoomTrees$Step", "draw", "(LRoomTrees$Forest;)V"⟩, 7) := ⟨⟨by decide +kernel, by decide +kernel⟩, List.mem_of_getElem? (i := 47) (by decide +kernel), List.mem_of_getElem? (i := 602) (by decide +kernel), List.mem_of_getElem? (i := 603) (by decide +kernel)⟩
theorem lw_p11 : lw_okq (⟨"RoomTrees$Reckoner", "start", "(LRoomTrees$Forest;I)V"⟩, 12) := ⟨⟨by decide +kernel, by decide +kernel⟩, List.mem_of_getElem? (i := 134) (by decide +kernel), List.mem_of_getElem? (i := 652) (by decide +kernel), List.mem_of_getElem? (i := 653) (by decide +kernel)⟩
theorem lw_p12 : lw_okq (⟨"RoomTrees$Reckoner", "fold", "(III)V"⟩, 12) := ⟨⟨by decide +kernel, by decide +kernel⟩, List.mem_of_getElem? (i := 134) (by decide +kernel), List.mem_of_getElem? (i := 669) (by decide +kernel), List.mem_of_getElem? (i := 670) (by decide +kernel)⟩
theorem lw_p13 : lw_okq (⟨"RoomTrees", "tell", "(J)I"⟩, 17) := ⟨⟨by decide +kernel, by decide +kernel⟩, List.mem_of_getElem? (i := 19) (by decide +kernel), List.mem_of_getElem? (i := 673) (by decide +kernel), List.mem_of_getElem? (i := 674) (by decide +kernel)⟩
theorem lw_p14 : lw_okq (⟨"RoomTrees$Reckoner", "settle", "(III)V"⟩, 12) := ⟨⟨by decide +kernel, by decide +kernel⟩, List.mem_of_getElem? (i := 134) (by decide +kernel), List.mem_of_getElem? (i := 714) (by decide +kernel), List.mem_of_getElem? (i := 715) (by decide +kernel)⟩
theorem lw_p15 : lw_okq (⟨"RoomTrees$Reckoner", "rowWith", "(II)I"⟩, 12) := ⟨⟨by decide +kernel, by decide +kernel⟩, List.mem_of_getElem? (i := 134) (by decide +kernel), List.mem_of_getElem? (i := 735) (by decide +kernel), List.mem_of_getElem? (i := 736) (by decide +kernel)⟩
def lw_privs_1 : List (MethodName × Nat) := [(⟨"RoomTrees", "refuse", "(I)I"⟩, 17), (⟨"RoomTrees", "treeOf", "(I)I"⟩, 17), (⟨"RoomTrees$Walk", "spread", "(LRoomTrees$Forest;II)V"⟩, 5), (⟨"RoomTrees$Walk", "enter", "(III)V"⟩, 5), (⟨"RoomTrees$Step", "isTold", "(LRoomTrees$Forest;)Z"⟩, 7), (⟨"RoomTrees$Step", "fits", "(LRoomTrees$Forest;)Z"⟩, 7), (⟨"RoomTrees$Step", "overloads", "(LRoomTrees$Forest;)Z"⟩, 7), (⟨"RoomTrees$Step", "blowDown", "(LRoomTrees$Forest;)V"⟩, 7), (⟨"RoomTrees$Step", "bud", "(LRoomTrees$Forest;)I"⟩, 7), (⟨"RoomTrees$Step", "absorb", "(LRoomTrees$Forest;)V"⟩, 7), (⟨"RoomTrees$Step", "draw", "(LRoomTrees$Forest;)V"⟩, 7), (⟨"RoomTrees$Reckoner", "start", "(LRoomTrees$Forest;I)V"⟩, 12), (⟨"RoomTrees$Reckoner", "fold", "(III)V"⟩, 12), (⟨"RoomTrees", "tell", "(J)I"⟩, 17), (⟨"RoomTrees$Reckoner", "settle", "(III)V"⟩, 12), (⟨"RoomTrees$Reckoner", "rowWith", "(II)I"⟩, 12)]
theorem lw_r1 : ∀ q ∈ lw_privs_1, lw_okq q := List.forall_mem_cons.mpr ⟨lw_p0, List.forall_mem_cons.mpr ⟨lw_p1, List.forall_mem_cons.mpr ⟨lw_p2, List.forall_mem_cons.mpr ⟨lw_p3, List.forall_mem_cons.mpr ⟨lw_p4, List.forall_mem_cons.mpr ⟨lw_p5, List.forall_mem_cons.mpr ⟨lw_p6, List.forall_mem_cons.mpr ⟨lw_p7, List.forall_mem_cons.mpr ⟨lw_p8, List.forall_mem_cons.mpr ⟨lw_p9, List.forall_mem_cons.mpr ⟨lw_p10, List.forall_mem_cons.mpr ⟨lw_p11, List.forall_mem_cons.mpr ⟨lw_p12, List.forall_mem_cons.mpr ⟨lw_p13, List.forall_mem_cons.mpr ⟨lw_p14, List.forall_mem_cons.mpr ⟨lw_p15, fun _ h => absurd h List.not_mem_nil⟩⟩⟩⟩⟩⟩⟩⟩⟩⟩⟩⟩⟩⟩⟩⟩
theorem lw_p16 : lw_okq (⟨"RoomTrees$Reckoner", "clearColumn", "(II)V"⟩, 12) := ⟨⟨by decide +kernel, by decide +kernel⟩, List.mem_of_getElem? (i := 134) (by decide +kernel), List.mem_of_getElem? (i := 739) (by decide +kernel), List.mem_of_getElem? (i := 740) (by decide +kernel)⟩
theorem lw_p17 : lw_okq (⟨"RoomTrees$Reckoner", "readLeast", "(I)V"⟩, 12) := ⟨⟨by decide +kernel, by decide +kernel⟩, List.mem_of_getElem? (i := 134) (by decide +kernel), List.mem_of_getElem? (i := 747) (by decide +kernel), List.mem_of_getElem? (i := 748) (by decide +kernel)⟩
theorem lw_p18 : lw_okq (⟨"RoomTrees$Tape", "skipBlanks", "(I)I"⟩, 3) := ⟨⟨by decide +kernel, by decide +kernel⟩, List.mem_of_getElem? (i := 273) (by decide +kernel), List.mem_of_getElem? (i := 826) (by decide +kernel), List.mem_of_getElem? (i := 827) (by decide +kernel)⟩
theorem lw_p19 : lw_okq (⟨"RoomTrees$Tape", "byteAt", "(I)I"⟩, 3) := ⟨⟨by decide +kernel, by decide +kernel⟩, List.mem_of_getElem? (i := 273) (by decide +kernel), List.mem_of_getElem? (i := 830) (by decide +kernel), List.mem_of_getElem? (i := 831) (by decide +kernel)⟩
theorem lw_p20 : lw_okq (⟨"RoomTrees$Tape", "weightSize", "(I)I"⟩, 3) := ⟨⟨by decide +kernel, by decide +kernel⟩, List.mem_of_getElem? (i := 273) (by decide +kernel), List.mem_of_getElem? (i := 834) (by decide +kernel), List.mem_of_getElem? (i := 835) (by decide +kernel)⟩
theorem lw_p21 : lw_okq (⟨"RoomTrees$Tape", "isDigit", "(I)Z"⟩, 3) := ⟨⟨by decide +kernel, by decide +kernel⟩, List.mem_of_getElem? (i := 273) (by decide +kernel), List.mem_of_getElem? (i := 838) (by decide +kernel), List.mem_of_getElem? (i := 839) (by decide +kernel)⟩
theorem lw_p22 : lw_okq (⟨"RoomTrees$Tape", "weightAt", "(II)I"⟩, 3) := ⟨⟨by decide +kernel, by decide +kernel⟩, List.mem_of_getElem? (i := 273) (by decide +kernel), List.mem_of_getElem? (i := 842) (by decide +kernel), List.mem_of_getElem? (i := 843) (by decide +kernel)⟩
theorem lw_p23 : lw_okq (⟨"RoomTrees$Tape", "hang", "(LRoomTrees$Forest;I)I"⟩, 3) := ⟨⟨by decide +kernel, by decide +kernel⟩, List.mem_of_getElem? (i := 273) (by decide +kernel), List.mem_of_getElem? (i := 849) (by decide +kernel), List.mem_of_getElem? (i := 850) (by decide +kernel)⟩
theorem lw_p24 : lw_okq (⟨"RoomTrees", "swap", "(LRoomTrees$Forest;)I"⟩, 17) := ⟨⟨by decide +kernel, by decide +kernel⟩, List.mem_of_getElem? (i := 19) (by decide +kernel), List.mem_of_getElem? (i := 856) (by decide +kernel), List.mem_of_getElem? (i := 857) (by decide +kernel)⟩
theorem lw_p25 : lw_okq (⟨"RoomTrees$Speller", "spellVertex", "(LRoomTrees$Forest;I)V"⟩, 3) := ⟨⟨by decide +kernel, by decide +kernel⟩, List.mem_of_getElem? (i := 187) (by decide +kernel), List.mem_of_getElem? (i := 873) (by decide +kernel), List.mem_of_getElem? (i := 874) (by decide +kernel)⟩
theorem lw_p26 : lw_okq (⟨"RoomTrees$Forest", "nearSum", "(I)I"⟩, 3) := ⟨⟨by decide +kernel, by decide +kernel⟩, List.mem_of_getElem? (i := 27) (by decide +kernel), List.mem_of_getElem? (i := 935) (by decide +kernel), List.mem_of_getElem? (i := 936) (by decide +kernel)⟩
theorem lw_p27 : lw_okq (⟨"RoomTrees", "thinkToTheEnd", "(II)I"⟩, 17) := ⟨⟨by decide +kernel, by decide +kernel⟩, List.mem_of_getElem? (i := 19) (by decide +kernel), List.mem_of_getElem? (i := 1031) (by decide +kernel), List.mem_of_getElem? (i := 1032) (by decide +kernel)⟩
theorem lw_p28 : lw_okq (⟨"RoomTrees$Search", "levelAt", "(I)LRoomTrees$Forest;"⟩, 10) := ⟨⟨by decide +kernel, by decide +kernel⟩, List.mem_of_getElem? (i := 224) (by decide +kernel), List.mem_of_getElem? (i := 1056) (by decide +kernel), List.mem_of_getElem? (i := 1057) (by decide +kernel)⟩
theorem lw_p29 : lw_okq (⟨"RoomTrees$Search", "note", "(III)V"⟩, 10) := ⟨⟨by decide +kernel, by decide +kernel⟩, List.mem_of_getElem? (i := 224) (by decide +kernel), List.mem_of_getElem? (i := 1066) (by decide +kernel), List.mem_of_getElem? (i := 1067) (by decide +kernel)⟩
theorem lw_p30 : lw_okq (⟨"RoomTrees", "shelvesHeld", "()I"⟩, 17) := ⟨⟨by decide +kernel, by decide +kernel⟩, List.mem_of_getElem? (i := 19) (by decide +kernel), List.mem_of_getElem? (i := 1166) (by decide +kernel), List.mem_of_getElem? (i := 1167) (by decide +kernel)⟩
theorem lw_p31 : lw_okq (⟨"RoomTreesModel", "error", "(I)I"⟩, 40) := ⟨⟨by decide +kernel, by decide +kernel⟩, List.mem_of_getElem? (i := 1179) (by decide +kernel), List.mem_of_getElem? (i := 1357) (by decide +kernel), List.mem_of_getElem? (i := 1358) (by decide +kernel)⟩
def lw_privs_2 : List (MethodName × Nat) := [(⟨"RoomTrees$Reckoner", "clearColumn", "(II)V"⟩, 12), (⟨"RoomTrees$Reckoner", "readLeast", "(I)V"⟩, 12), (⟨"RoomTrees$Tape", "skipBlanks", "(I)I"⟩, 3), (⟨"RoomTrees$Tape", "byteAt", "(I)I"⟩, 3), (⟨"RoomTrees$Tape", "weightSize", "(I)I"⟩, 3), (⟨"RoomTrees$Tape", "isDigit", "(I)Z"⟩, 3), (⟨"RoomTrees$Tape", "weightAt", "(II)I"⟩, 3), (⟨"RoomTrees$Tape", "hang", "(LRoomTrees$Forest;I)I"⟩, 3), (⟨"RoomTrees", "swap", "(LRoomTrees$Forest;)I"⟩, 17), (⟨"RoomTrees$Speller", "spellVertex", "(LRoomTrees$Forest;I)V"⟩, 3), (⟨"RoomTrees$Forest", "nearSum", "(I)I"⟩, 3), (⟨"RoomTrees", "thinkToTheEnd", "(II)I"⟩, 17), (⟨"RoomTrees$Search", "levelAt", "(I)LRoomTrees$Forest;"⟩, 10), (⟨"RoomTrees$Search", "note", "(III)V"⟩, 10), (⟨"RoomTrees", "shelvesHeld", "()I"⟩, 17), (⟨"RoomTreesModel", "error", "(I)I"⟩, 40)]
theorem lw_r2 : ∀ q ∈ lw_privs_2, lw_okq q := List.forall_mem_cons.mpr ⟨lw_p16, List.forall_mem_cons.mpr ⟨lw_p17, List.forall_mem_cons.mpr ⟨lw_p18, List.forall_mem_cons.mpr ⟨lw_p19, List.forall_mem_cons.mpr ⟨lw_p20, List.forall_mem_cons.mpr ⟨lw_p21, List.forall_mem_cons.mpr ⟨lw_p22, List.forall_mem_cons.mpr ⟨lw_p23, List.forall_mem_cons.mpr ⟨lw_p24, List.forall_mem_cons.mpr ⟨lw_p25, List.forall_mem_cons.mpr ⟨lw_p26, List.forall_mem_cons.mpr ⟨lw_p27, List.forall_mem_cons.mpr ⟨lw_p28, List.forall_mem_cons.mpr ⟨lw_p29, List.forall_mem_cons.mpr ⟨lw_p30, List.forall_mem_cons.mpr ⟨lw_p31, fun _ h => absurd h List.not_mem_nil⟩⟩⟩⟩⟩⟩⟩⟩⟩⟩⟩⟩⟩⟩⟩⟩
theorem lw_p32 : lw_okq (⟨"RoomTreesModel", "goes", "(IIIII)V"⟩, 40) := ⟨⟨by decide +kernel, by decide +kernel⟩, List.mem_of_getElem? (i := 1179) (by decide +kernel), List.mem_of_getElem? (i := 1362) (by decide +kernel), List.mem_of_getElem? (i := 1363) (by decide +kernel)⟩
theorem lw_p33 : lw_okq (⟨"RoomTreesModel", "byHand", "()V"⟩, 40) := ⟨⟨by decide +kernel, by decide +kernel⟩, List.mem_of_getElem? (i := 1179) (by decide +kernel), List.mem_of_getElem? (i := 1420) (by decide +kernel), List.mem_of_getElem? (i := 1421) (by decide +kernel)⟩
theorem lw_p34 : lw_okq (⟨"RoomTreesModel", "isVertex", "(I)Z"⟩, 40) := ⟨⟨by decide +kernel, by decide +kernel⟩, List.mem_of_getElem? (i := 1179) (by decide +kernel), List.mem_of_getElem? (i := 1428) (by decide +kernel), List.mem_of_getElem? (i := 1429) (by decide +kernel)⟩
theorem lw_p35 : lw_okq (⟨"RoomTreesModel", "possible", "(I)I"⟩, 40) := ⟨⟨by decide +kernel, by decide +kernel⟩, List.mem_of_getElem? (i := 1179) (by decide +kernel), List.mem_of_getElem? (i := 1455) (by decide +kernel), List.mem_of_getElem? (i := 1456) (by decide +kernel)⟩
theorem lw_p36 : lw_okq (⟨"RoomTreesModel", "farthest", "(I)I"⟩, 40) := ⟨⟨by decide +kernel, by decide +kernel⟩, List.mem_of_getElem? (i := 1179) (by decide +kernel), List.mem_of_getElem? (i := 1459) (by decide +kernel), List.mem_of_getElem? (i := 1460) (by decide +kernel)⟩
theorem lw_p37 : lw_okq (⟨"RoomTreesModel", "pair", "(II)I"⟩, 40) := ⟨⟨by decide +kernel, by decide +kernel⟩, List.mem_of_getElem? (i := 1179) (by decide +kernel), List.mem_of_getElem? (i := 1467) (by decide +kernel), List.mem_of_getElem? (i := 1468) (by decide +kernel)⟩
theorem lw_p38 : lw_okq (⟨"RoomTreesModel", "minorOf", "(I)J"⟩, 40) := ⟨⟨by decide +kernel, by decide +kernel⟩, List.mem_of_getElem? (i := 1179) (by decide +kernel), List.mem_of_getElem? (i := 1476) (by decide +kernel), List.mem_of_getElem? (i := 1477) (by decide +kernel)⟩
theorem lw_p39 : lw_okq (⟨"RoomTreesModel", "layMinors", "()V"⟩, 40) := ⟨⟨by decide +kernel, by decide +kernel⟩, List.mem_of_getElem? (i := 1179) (by decide +kernel), List.mem_of_getElem? (i := 1480) (by decide +kernel), List.mem_of_getElem? (i := 1481) (by decide +kernel)⟩
theorem lw_p40 : lw_okq (⟨"RoomTreesModel", "orOver", "(J)I"⟩, 40) := ⟨⟨by decide +kernel, by decide +kernel⟩, List.mem_of_getElem? (i := 1179) (by decide +kernel), List.mem_of_getElem? (i := 1484) (by decide +kernel), List.mem_of_getElem? (i := 1485) (by decide +kernel)⟩
theorem lw_p41 : lw_okq (⟨"RoomTreesModel", "without", "(II)J"⟩, 40) := ⟨⟨by decide +kernel, by decide +kernel⟩, List.mem_of_getElem? (i := 1179) (by decide +kernel), List.mem_of_getElem? (i := 1498) (by decide +kernel), List.mem_of_getElem? (i := 1499) (by decide +kernel)⟩
theorem lw_p42 : lw_okq (⟨"RoomTreesModel", "inertiaOf", "(I)I"⟩, 40) := ⟨⟨by decide +kernel, by decide +kernel⟩, List.mem_of_getElem? (i := 1179) (by decide +kernel), List.mem_of_getElem? (i := 1516) (by decide +kernel), List.mem_of_getElem? (i := 1517) (by decide +kernel)⟩
theorem lw_p43 : lw_okq (⟨"RoomTreesModel", "above", "()I"⟩, 40) := ⟨⟨by decide +kernel, by decide +kernel⟩, List.mem_of_getElem? (i := 1179) (by decide +kernel), List.mem_of_getElem? (i := 1520) (by decide +kernel), List.mem_of_getElem? (i := 1521) (by decide +kernel)⟩
theorem lw_p44 : lw_okq (⟨"RoomTreesModel", "layTerms", "()V"⟩, 40) := ⟨⟨by decide +kernel, by decide +kernel⟩, List.mem_of_getElem? (i := 1179) (by decide +kernel), List.mem_of_getElem? (i := 1524) (by decide +kernel), List.mem_of_getElem? (i := 1525) (by decide +kernel)⟩
theorem lw_p45 : lw_okq (⟨"RoomTreesModel", "noughts", "()I"⟩, 40) := ⟨⟨by decide +kernel, by decide +kernel⟩, List.mem_of_getElem? (i := 1179) (by decide +kernel), List.mem_of_getElem? (i := 1528) (by decide +kernel), List.mem_of_getElem? (i := 1529) (by decide +kernel)⟩
theorem lw_p46 : lw_okq (⟨"RoomTreesModel", "kernelOf", "(I)I"⟩, 40) := ⟨⟨by decide +kernel, by decide +kernel⟩, List.mem_of_getElem? (i := 1179) (by decide +kernel), List.mem_of_getElem? (i := 1536) (by decide +kernel), List.mem_of_getElem? (i := 1537) (by decide +kernel)⟩
theorem lw_p47 : lw_okq (⟨"RoomTreesModel", "layRows", "(I)V"⟩, 40) := ⟨⟨by decide +kernel, by decide +kernel⟩, List.mem_of_getElem? (i := 1179) (by decide +kernel), List.mem_of_getElem? (i := 1540) (by decide +kernel), List.mem_of_getElem? (i := 1541) (by decide +kernel)⟩
def lw_privs_3 : List (MethodName × Nat) := [(⟨"RoomTreesModel", "goes", "(IIIII)V"⟩, 40), (⟨"RoomTreesModel", "byHand", "()V"⟩, 40), (⟨"RoomTreesModel", "isVertex", "(I)Z"⟩, 40), (⟨"RoomTreesModel", "possible", "(I)I"⟩, 40), (⟨"RoomTreesModel", "farthest", "(I)I"⟩, 40), (⟨"RoomTreesModel", "pair", "(II)I"⟩, 40), (⟨"RoomTreesModel", "minorOf", "(I)J"⟩, 40), (⟨"RoomTreesModel", "layMinors", "()V"⟩, 40), (⟨"RoomTreesModel", "orOver", "(J)I"⟩, 40), (⟨"RoomTreesModel", "without", "(II)J"⟩, 40), (⟨"RoomTreesModel", "inertiaOf", "(I)I"⟩, 40), (⟨"RoomTreesModel", "above", "()I"⟩, 40), (⟨"RoomTreesModel", "layTerms", "()V"⟩, 40), (⟨"RoomTreesModel", "noughts", "()I"⟩, 40), (⟨"RoomTreesModel", "kernelOf", "(I)I"⟩, 40), (⟨"RoomTreesModel", "layRows", "(I)V"⟩, 40)]
theorem lw_r3 : ∀ q ∈ lw_privs_3, lw_okq q := List.forall_mem_cons.mpr ⟨lw_p32, List.forall_mem_cons.mpr ⟨lw_p33, List.forall_mem_cons.mpr ⟨lw_p34, List.forall_mem_cons.mpr ⟨lw_p35, List.forall_mem_cons.mpr ⟨lw_p36, List.forall_mem_cons.mpr ⟨lw_p37, List.forall_mem_cons.mpr ⟨lw_p38, List.forall_mem_cons.mpr ⟨lw_p39, List.forall_mem_cons.mpr ⟨lw_p40, List.forall_mem_cons.mpr ⟨lw_p41, List.forall_mem_cons.mpr ⟨lw_p42, List.forall_mem_cons.mpr ⟨lw_p43, List.forall_mem_cons.mpr ⟨lw_p44, List.forall_mem_cons.mpr ⟨lw_p45, List.forall_mem_cons.mpr ⟨lw_p46, List.forall_mem_cons.mpr ⟨lw_p47, fun _ h => absurd h List.not_mem_nil⟩⟩⟩⟩⟩⟩⟩⟩⟩⟩⟩⟩⟩⟩⟩⟩
theorem lw_p48 : lw_okq (⟨"RoomTreesModel", "manyWu", "()I"⟩, 40) := ⟨⟨by decide +kernel, by decide +kernel⟩, List.mem_of_getElem? (i := 1179) (by decide +kernel), List.mem_of_getElem? (i := 1554) (by decide +kernel), List.mem_of_getElem? (i := 1555) (by decide +kernel)⟩
theorem lw_p49 : lw_okq (⟨"RoomTreesModel", "isWu", "(I)Z"⟩, 40) := ⟨⟨by decide +kernel, by decide +kernel⟩, List.mem_of_getElem? (i := 1179) (by decide +kernel), List.mem_of_getElem? (i := 1558) (by decide +kernel), List.mem_of_getElem? (i := 1559) (by decide +kernel)⟩
theorem lw_p50 : lw_okq (⟨"RoomTreesModel", "leastWu", "()I"⟩, 40) := ⟨⟨by decide +kernel, by decide +kernel⟩, List.mem_of_getElem? (i := 1179) (by decide +kernel), List.mem_of_getElem? (i := 1562) (by decide +kernel), List.mem_of_getElem? (i := 1563) (by decide +kernel)⟩
theorem lw_p51 : lw_okq (⟨"RoomTreesModel", "way", "(II)I"⟩, 40) := ⟨⟨by decide +kernel, by decide +kernel⟩, List.mem_of_getElem? (i := 1179) (by decide +kernel), List.mem_of_getElem? (i := 1574) (by decide +kernel), List.mem_of_getElem? (i := 1575) (by decide +kernel)⟩
theorem lw_p52 : lw_okq (⟨"RoomTreesModel", "isLine", "(I)Z"⟩, 40) := ⟨⟨by decide +kernel, by decide +kernel⟩, List.mem_of_getElem? (i := 1179) (by decide +kernel), List.mem_of_getElem? (i := 1582) (by decide +kernel), List.mem_of_getElem? (i := 1583) (by decide +kernel)⟩
theorem lw_p53 : lw_okq (⟨"RoomTreesModel", "roomN", "(I)J"⟩, 40) := ⟨⟨by decide +kernel, by decide +kernel⟩, List.mem_of_getElem? (i := 1179) (by decide +kernel), List.mem_of_getElem? (i := 1586) (by decide +kernel), List.mem_of_getElem? (i := 1587) (by decide +kernel)⟩
theorem lw_p54 : lw_okq (⟨"RoomTreesModel", "roomM", "(I)J"⟩, 40) := ⟨⟨by decide +kernel, by decide +kernel⟩, List.mem_of_getElem? (i := 1179) (by decide +kernel), List.mem_of_getElem? (i := 1593) (by decide +kernel), List.mem_of_getElem? (i := 1594) (by decide +kernel)⟩
theorem lw_p55 : lw_okq (⟨"RoomTreesModel", "forestHere", "()V"⟩, 40) := ⟨⟨by decide +kernel, by decide +kernel⟩, List.mem_of_getElem? (i := 1179) (by decide +kernel), List.mem_of_getElem? (i := 1626) (by decide +kernel), List.mem_of_getElem? (i := 1627) (by decide +kernel)⟩
theorem lw_p56 : lw_okq (⟨"RoomTreesModel", "here", "()I"⟩, 40) := ⟨⟨by decide +kernel, by decide +kernel⟩, List.mem_of_getElem? (i := 1179) (by decide +kernel), List.mem_of_getElem? (i := 1630) (by decide +kernel), List.mem_of_getElem? (i := 1631) (by decide +kernel)⟩
theorem lw_p57 : lw_okq (⟨"RoomTreesModel", "opensHere", "(I)I"⟩, 40) := ⟨⟨by decide +kernel, by decide +kernel⟩, List.mem_of_getElem? (i := 1179) (by decide +kernel), List.mem_of_getElem? (i := 1634) (by decide +kernel), List.mem_of_getElem? (i := 1635) (by decide +kernel)⟩
theorem lw_p58 : lw_okq (⟨"RoomTreesModel", "weightHere", "()I"⟩, 40) := ⟨⟨by decide +kernel, by decide +kernel⟩, List.mem_of_getElem? (i := 1179) (by decide +kernel), List.mem_of_getElem? (i := 1638) (by decide +kernel), List.mem_of_getElem? (i := 1639) (by decide +kernel)⟩
theorem lw_p59 : lw_okq (⟨"RoomTreesModel", "byteAt", "(I)I"⟩, 40) := ⟨⟨by decide +kernel, by decide +kernel⟩, List.mem_of_getElem? (i := 1179) (by decide +kernel), List.mem_of_getElem? (i := 1642) (by decide +kernel), List.mem_of_getElem? (i := 1643) (by decide +kernel)⟩
theorem lw_p60 : lw_okq (⟨"RoomTreesModel", "layText", "([I)V"⟩, 40) := ⟨⟨by decide +kernel, by decide +kernel⟩, List.mem_of_getElem? (i := 1179) (by decide +kernel), List.mem_of_getElem? (i := 1655) (by decide +kernel), List.mem_of_getElem? (i := 1656) (by decide +kernel)⟩
theorem lw_p61 : lw_okq (⟨"RoomTreesModel", "layTree", "([II)V"⟩, 40) := ⟨⟨by decide +kernel, by decide +kernel⟩, List.mem_of_getElem? (i := 1179) (by decide +kernel), List.mem_of_getElem? (i := 1659) (by decide +kernel), List.mem_of_getElem? (i := 1660) (by decide +kernel)⟩
theorem lw_p62 : lw_okq (⟨"RoomTreesModel", "layHang", "([III)V"⟩, 40) := ⟨⟨by decide +kernel, by decide +kernel⟩, List.mem_of_getElem? (i := 1179) (by decide +kernel), List.mem_of_getElem? (i := 1663) (by decide +kernel), List.mem_of_getElem? (i := 1664) (by decide +kernel)⟩
theorem lw_p63 : lw_okq (⟨"RoomTreesModel", "layDue", "([I)V"⟩, 40) := ⟨⟨by decide +kernel, by decide +kernel⟩, List.mem_of_getElem? (i := 1179) (by decide +kernel), List.mem_of_getElem? (i := 1692) (by decide +kernel), List.mem_of_getElem? (i := 1693) (by decide +kernel)⟩
def lw_privs_4 : List (MethodName × Nat) := [(⟨"RoomTreesModel", "manyWu", "()I"⟩, 40), (⟨"RoomTreesModel", "isWu", "(I)Z"⟩, 40), (⟨"RoomTreesModel", "leastWu", "()I"⟩, 40), (⟨"RoomTreesModel", "way", "(II)I"⟩, 40), (⟨"RoomTreesModel", "isLine", "(I)Z"⟩, 40), (⟨"RoomTreesModel", "roomN", "(I)J"⟩, 40), (⟨"RoomTreesModel", "roomM", "(I)J"⟩, 40), (⟨"RoomTreesModel", "forestHere", "()V"⟩, 40), (⟨"RoomTreesModel", "here", "()I"⟩, 40), (⟨"RoomTreesModel", "opensHere", "(I)I"⟩, 40), (⟨"RoomTreesModel", "weightHere", "()I"⟩, 40), (⟨"RoomTreesModel", "byteAt", "(I)I"⟩, 40), (⟨"RoomTreesModel", "layText", "([I)V"⟩, 40), (⟨"RoomTreesModel", "layTree", "([II)V"⟩, 40), (⟨"RoomTreesModel", "layHang", "([III)V"⟩, 40), (⟨"RoomTreesModel", "layDue", "([I)V"⟩, 40)]
theorem lw_r4 : ∀ q ∈ lw_privs_4, lw_okq q := List.forall_mem_cons.mpr ⟨lw_p48, List.forall_mem_cons.mpr ⟨lw_p49, List.forall_mem_cons.mpr ⟨lw_p50, List.forall_mem_cons.mpr ⟨lw_p51, List.forall_mem_cons.mpr ⟨lw_p52, List.forall_mem_cons.mpr ⟨lw_p53, List.forall_mem_cons.mpr ⟨lw_p54, List.forall_mem_cons.mpr ⟨lw_p55, List.forall_mem_cons.mpr ⟨lw_p56, List.forall_mem_cons.mpr ⟨lw_p57, List.forall_mem_cons.mpr ⟨lw_p58, List.forall_mem_cons.mpr ⟨lw_p59, List.forall_mem_cons.mpr ⟨lw_p60, List.forall_mem_cons.mpr ⟨lw_p61, List.forall_mem_cons.mpr ⟨lw_p62, List.forall_mem_cons.mpr ⟨lw_p63, fun _ h => absurd h List.not_mem_nil⟩⟩⟩⟩⟩⟩⟩⟩⟩⟩⟩⟩⟩⟩⟩⟩
theorem lw_p64 : lw_okq (⟨"RoomTreesModel", "isDue", "([I)Z"⟩, 40) := ⟨⟨by decide +kernel, by decide +kernel⟩, List.mem_of_getElem? (i := 1179) (by decide +kernel), List.mem_of_getElem? (i := 1696) (by decide +kernel), List.mem_of_getElem? (i := 1697) (by decide +kernel)⟩
theorem lw_p65 : lw_okq (⟨"RoomTreesModel", "isWorker", "(I)Z"⟩, 40) := ⟨⟨by decide +kernel, by decide +kernel⟩, List.mem_of_getElem? (i := 1179) (by decide +kernel), List.mem_of_getElem? (i := 1709) (by decide +kernel), List.mem_of_getElem? (i := 1710) (by decide +kernel)⟩
theorem lw_p66 : lw_okq (⟨"RoomTreesModel", "toTheEnd", "(II)I"⟩, 40) := ⟨⟨by decide +kernel, by decide +kernel⟩, List.mem_of_getElem? (i := 1179) (by decide +kernel), List.mem_of_getElem? (i := 1743) (by decide +kernel), List.mem_of_getElem? (i := 1744) (by decide +kernel)⟩
theorem lw_p67 : lw_okq (⟨"RoomTreesModel", "tries", "(III)V"⟩, 40) := ⟨⟨by decide +kernel, by decide +kernel⟩, List.mem_of_getElem? (i := 1179) (by decide +kernel), List.mem_of_getElem? (i := 1758) (by decide +kernel), List.mem_of_getElem? (i := 1759) (by decide +kernel)⟩
theorem lw_p68 : lw_okq (⟨"RoomTreesModel", "comesTo", "(III)Z"⟩, 40) := ⟨⟨by decide +kernel, by decide +kernel⟩, List.mem_of_getElem? (i := 1179) (by decide +kernel), List.mem_of_getElem? (i := 1766) (by decide +kernel), List.mem_of_getElem? (i := 1767) (by decide +kernel)⟩
theorem lw_p69 : lw_okq (⟨"RoomTreesModel", "lacks", "(II)I"⟩, 40) := ⟨⟨by decide +kernel, by decide +kernel⟩, List.mem_of_getElem? (i := 1179) (by decide +kernel), List.mem_of_getElem? (i := 1778) (by decide +kernel), List.mem_of_getElem? (i := 1779) (by decide +kernel)⟩
theorem lw_p70 : lw_okq (⟨"RoomTreesModel", "lays", "(III)V"⟩, 40) := ⟨⟨by decide +kernel, by decide +kernel⟩, List.mem_of_getElem? (i := 1179) (by decide +kernel), List.mem_of_getElem? (i := 1782) (by decide +kernel), List.mem_of_getElem? (i := 1783) (by decide +kernel)⟩
theorem lw_p71 : lw_okq (⟨"RoomTreesModel", "notThere", "(I)I"⟩, 40) := ⟨⟨by decide +kernel, by decide +kernel⟩, List.mem_of_getElem? (i := 1179) (by decide +kernel), List.mem_of_getElem? (i := 1798) (by decide +kernel), List.mem_of_getElem? (i := 1799) (by decide +kernel)⟩
theorem lw_p72 : lw_okq (⟨"RoomTreesModel", "edges", "()I"⟩, 40) := ⟨⟨by decide +kernel, by decide +kernel⟩, List.mem_of_getElem? (i := 1179) (by decide +kernel), List.mem_of_getElem? (i := 1823) (by decide +kernel), List.mem_of_getElem? (i := 1824) (by decide +kernel)⟩
theorem lw_p73 : lw_okq (⟨"RoomTreesModel", "heldOnes", "()I"⟩, 40) := ⟨⟨by decide +kernel, by decide +kernel⟩, List.mem_of_getElem? (i := 1179) (by decide +kernel), List.mem_of_getElem? (i := 1827) (by decide +kernel), List.mem_of_getElem? (i := 1828) (by decide +kernel)⟩
theorem lw_p74 : lw_okq (⟨"RoomTreesModel", "allJobs", "()I"⟩, 40) := ⟨⟨by decide +kernel, by decide +kernel⟩, List.mem_of_getElem? (i := 1179) (by decide +kernel), List.mem_of_getElem? (i := 1831) (by decide +kernel), List.mem_of_getElem? (i := 1832) (by decide +kernel)⟩
def lw_privs_5 : List (MethodName × Nat) := [(⟨"RoomTreesModel", "isDue", "([I)Z"⟩, 40), (⟨"RoomTreesModel", "isWorker", "(I)Z"⟩, 40), (⟨"RoomTreesModel", "toTheEnd", "(II)I"⟩, 40), (⟨"RoomTreesModel", "tries", "(III)V"⟩, 40), (⟨"RoomTreesModel", "comesTo", "(III)Z"⟩, 40), (⟨"RoomTreesModel", "lacks", "(II)I"⟩, 40), (⟨"RoomTreesModel", "lays", "(III)V"⟩, 40), (⟨"RoomTreesModel", "notThere", "(I)I"⟩, 40), (⟨"RoomTreesModel", "edges", "()I"⟩, 40), (⟨"RoomTreesModel", "heldOnes", "()I"⟩, 40), (⟨"RoomTreesModel", "allJobs", "()I"⟩, 40)]
theorem lw_r5 : ∀ q ∈ lw_privs_5, lw_okq q := List.forall_mem_cons.mpr ⟨lw_p64, List.forall_mem_cons.mpr ⟨lw_p65, List.forall_mem_cons.mpr ⟨lw_p66, List.forall_mem_cons.mpr ⟨lw_p67, List.forall_mem_cons.mpr ⟨lw_p68, List.forall_mem_cons.mpr ⟨lw_p69, List.forall_mem_cons.mpr ⟨lw_p70, List.forall_mem_cons.mpr ⟨lw_p71, List.forall_mem_cons.mpr ⟨lw_p72, List.forall_mem_cons.mpr ⟨lw_p73, List.forall_mem_cons.mpr ⟨lw_p74, fun _ h => absurd h List.not_mem_nil⟩⟩⟩⟩⟩⟩⟩⟩⟩⟩⟩
def lw_privs : List (MethodName × Nat) := lw_privs_1 ++ (lw_privs_2 ++ (lw_privs_3 ++ (lw_privs_4 ++ (lw_privs_5))))
def lw_tbl : List Cond := k2_sels lw_privs ++ tables_1
theorem lw_privs_ok : ∀ q ∈ lw_privs, lw_okq q := by
  show ∀ q ∈ lw_privs_1 ++ (lw_privs_2 ++ (lw_privs_3 ++ (lw_privs_4 ++ (lw_privs_5)))), lw_okq q
  exact List.forall_mem_append.mpr ⟨lw_r1, List.forall_mem_append.mpr ⟨lw_r2, List.forall_mem_append.mpr ⟨lw_r3, List.forall_mem_append.mpr ⟨lw_r4, lw_r5⟩⟩⟩⟩
def RX0 : String := "RoomTrees$Crew"
def TX0 : u_T := fun k => match k with
  | 0 => ("RoomTrees$Crew", "kinds", "[I", true)
  | 1 => ("RoomTrees$Crew", "starts", "[I", true)
  | 2 => ("RoomTrees$Crew", "jobs", "[I", true)
  | _ => ("RoomTrees$Crew", "size", "I", false)
def tyX0 : Nat → FieldType := fun k => match k with
  | 0 => .array .int
  | 1 => .array .int
  | 2 => .array .int
  | _ => .int
theorem nmX0 : ∀ a, a < 4 → ∀ b, b < 4 → a ≠ b → (TX0 a).2.1 ≠ (TX0 b).2.1 := by decide +kernel
theorem tyX0_ok : ∀ k, k < 4 → parseFieldDescriptor (TX0 k).2.2.1 = some (tyX0 k) := by decide +kernel
abbrev cX0_init : ByteArray := prog_2_method_1_code
def yX0_init : MethodName := ⟨RX0, "<init>", "()V"⟩
abbrev cX0_follow : ByteArray := prog_2_method_2_code
def yX0_follow : MethodName := ⟨RX0, "follow", "(LRoomTrees$Crew;)V"⟩
abbrev cX0_has : ByteArray := prog_2_method_3_code
def yX0_has : MethodName := ⟨RX0, "has", "(I)Z"⟩
abbrev cX0_hire : ByteArray := prog_2_method_4_code
def yX0_hire : MethodName := ⟨RX0, "hire", "(II)I"⟩
abbrev cX0_retrain : ByteArray := prog_2_method_5_code
def yX0_retrain : MethodName := ⟨RX0, "retrain", "(II)V"⟩
abbrev cX0_credit : ByteArray := prog_2_method_6_code
def yX0_credit : MethodName := ⟨RX0, "credit", "(II)V"⟩
abbrev cX0_kindOf : ByteArray := prog_2_method_7_code
def yX0_kindOf : MethodName := ⟨RX0, "kindOf", "(I)I"⟩
abbrev cX0_startOf : ByteArray := prog_2_method_8_code
def yX0_startOf : MethodName := ⟨RX0, "startOf", "(I)I"⟩
abbrev cX0_jobsOf : ByteArray := prog_2_method_9_code
def yX0_jobsOf : MethodName := ⟨RX0, "jobsOf", "(I)I"⟩
abbrev cX0_allJobs : ByteArray := prog_2_method_10_code
def yX0_allJobs : MethodName := ⟨RX0, "allJobs", "()I"⟩
abbrev cX0_isUnder : ByteArray := prog_2_method_11_code
def yX0_isUnder : MethodName := ⟨RX0, "isUnder", "(II)Z"⟩
abbrev cX0_cost : ByteArray := prog_2_method_12_code
def yX0_cost : MethodName := ⟨RX0, "cost", "(II)I"⟩
abbrev cX0_plan : ByteArray := prog_2_method_13_code
def yX0_plan : MethodName := ⟨RX0, "plan", "(LRoomTrees$Step;LRoomTrees$Forest;II)Z"⟩
def RX1 : String := "RoomTrees$Forest"
def TX1 : u_T := fun k => match k with
  | 0 => ("RoomTrees$Forest", "weights", "[I", true)
  | 1 => ("RoomTrees$Forest", "nears", "[I", true)
  | _ => ("RoomTrees$Forest", "set", "I", false)
def tyX1 : Nat → FieldType := fun k => match k with
  | 0 => .array .int
  | 1 => .array .int
  | _ => .int
theorem nmX1 : ∀ a, a < 3 → ∀ b, b < 3 → a ≠ b → (TX1 a).2.1 ≠ (TX1 b).2.1 := by decide +kernel
theorem tyX1_ok : ∀ k, k < 3 → parseFieldDescriptor (TX1 k).2.2.1 = some (tyX1 k) := by decide +kernel
abbrev cX1_init : ByteArray := prog_3_method_1_code
def yX1_init : MethodName := ⟨RX1, "<init>", "()V"⟩
abbrev cX1_clear : ByteArray := prog_3_method_2_code
def yX1_clear : MethodName := ⟨RX1, "clear", "()V"⟩
abbrev cX1_follow : ByteArray := prog_3_method_3_code
def yX1_follow : MethodName := ⟨RX1, "follow", "(LRoomTrees$Forest;)V"⟩
abbrev cX1_has : ByteArray := prog_3_method_4_code
def yX1_has : MethodName := ⟨RX1, "has", "(I)Z"⟩
abbrev cX1_size : ByteArray := prog_3_method_5_code
def yX1_size : MethodName := ⟨RX1, "size", "()I"⟩
abbrev cX1_weightAt : ByteArray := prog_3_method_6_code
def yX1_weightAt : MethodName := ⟨RX1, "weightAt", "(I)I"⟩
abbrev cX1_nearsAt : ByteArray := prog_3_method_7_code
def yX1_nearsAt : MethodName := ⟨RX1, "nearsAt", "(I)I"⟩
abbrev cX1_degree : ByteArray := prog_3_method_8_code
def yX1_degree : MethodName := ⟨RX1, "degree", "(I)I"⟩
abbrev cX1_areNear : ByteArray := prog_3_method_9_code
def yX1_areNear : MethodName := ⟨RX1, "areNear", "(II)Z"⟩
abbrev cX1_edges : ByteArray := prog_3_method_10_code
def yX1_edges : MethodName := ⟨RX1, "edges", "()I"⟩
abbrev cX1_trees : ByteArray := prog_3_method_11_code
def yX1_trees : MethodName := ⟨RX1, "trees", "()I"⟩
abbrev cX1_weightSum : ByteArray := prog_3_method_12_code
def yX1_weightSum : MethodName := ⟨RX1, "weightSum", "()I"⟩
abbrev cX1_isLine : ByteArray := prog_3_method_13_code
def yX1_isLine : MethodName := ⟨RX1, "isLine", "(I)Z"⟩
abbrev cX1_tableSum : ByteArray := prog_3_method_14_code
def yX1_tableSum : MethodName := ⟨RX1, "tableSum", "(I)I"⟩
abbrev cX1_setWeight : ByteArray := prog_3_method_15_code
def yX1_setWeight : MethodName := ⟨RX1, "setWeight", "(II)V"⟩
abbrev cX1_addWeight : ByteArray := prog_3_method_16_code
def yX1_addWeight : MethodName := ⟨RX1, "addWeight", "(II)V"⟩
abbrev cX1_mirror : ByteArray := prog_3_method_17_code
def yX1_mirror : MethodName := ⟨RX1, "mirror", "()V"⟩
abbrev cX1_grow : ByteArray := prog_3_method_18_code
def yX1_grow : MethodName := ⟨RX1, "grow", "(I)I"⟩
abbrev cX1_join : ByteArray := prog_3_method_19_code
def yX1_join : MethodName := ⟨RX1, "join", "(II)V"⟩
abbrev cX1_joinAll : ByteArray := prog_3_method_20_code
def yX1_joinAll : MethodName := ⟨RX1, "joinAll", "(II)V"⟩
abbrev cX1_part : ByteArray := prog_3_method_21_code
def yX1_part : MethodName := ⟨RX1, "part", "(II)V"⟩
abbrev cX1_partAll : ByteArray := prog_3_method_22_code
def yX1_partAll : MethodName := ⟨RX1, "partAll", "(II)V"⟩
abbrev cX1_remove : ByteArray := prog_3_method_23_code
def yX1_remove : MethodName := ⟨RX1, "remove", "(I)V"⟩
abbrev cX1_print : ByteArray := prog_3_method_24_code
def yX1_print : MethodName := ⟨RX1, "print", "()I"⟩
abbrev cX1_nearSum : ByteArray := prog_3_method_25_code
def yX1_nearSum : MethodName := ⟨RX1, "nearSum", "(I)I"⟩
def RX2 : String := "RoomTrees$Reckoner"
def TX2 : u_T := fun k => match k with
  | 0 => ("RoomTrees$Reckoner", "walk", "LRoomTrees$Walk;", true)
  | 1 => ("RoomTrees$Reckoner", "tops", "[J", true)
  | 2 => ("RoomTrees$Reckoner", "rests", "[J", true)
  | 3 => ("RoomTrees$Reckoner", "rows", "[I", true)
  | 4 => ("RoomTrees$Reckoner", "upper", "J", false)
  | 5 => ("RoomTrees$Reckoner", "lower", "J", false)
  | 6 => ("RoomTrees$Reckoner", "paired", "I", false)
  | 7 => ("RoomTrees$Reckoner", "above", "I", false)
  | 8 => ("RoomTrees$Reckoner", "below", "I", false)
  | 9 => ("RoomTrees$Reckoner", "zeros", "I", false)
  | 10 => ("RoomTrees$Reckoner", "wuFree", "I", false)
  | _ => ("RoomTrees$Reckoner", "wuLeast", "I", false)
def tyX2 : Nat → FieldType := fun k => match k with
  | 0 => .object "RoomTrees$Walk"
  | 1 => .array .long
  | 2 => .array .long
  | 3 => .array .int
  | 4 => .long
  | 5 => .long
  | 6 => .int
  | 7 => .int
  | 8 => .int
  | 9 => .int
  | 10 => .int
  | _ => .int
theorem nmX2 : ∀ a, a < 12 → ∀ b, b < 12 → a ≠ b → (TX2 a).2.1 ≠ (TX2 b).2.1 := by decide +kernel
theorem tyX2_ok : ∀ k, k < 12 → parseFieldDescriptor (TX2 k).2.2.1 = some (tyX2 k) := by decide +kernel
abbrev cX2_init : ByteArray := prog_4_method_1_code
def yX2_init : MethodName := ⟨RX2, "<init>", "()V"⟩
abbrev cX2_minorOf : ByteArray := prog_4_method_2_code
def yX2_minorOf : MethodName := ⟨RX2, "minorOf", "(LRoomTrees$Forest;I)J"⟩
abbrev cX2_start : ByteArray := prog_4_method_3_code
def yX2_start : MethodName := ⟨RX2, "start", "(LRoomTrees$Forest;I)V"⟩
abbrev cX2_fold : ByteArray := prog_4_method_4_code
def yX2_fold : MethodName := ⟨RX2, "fold", "(III)V"⟩
abbrev cX2_left : ByteArray := prog_4_method_5_code
def yX2_left : MethodName := ⟨RX2, "left", "(JI)J"⟩
abbrev cX2_inverseOf : ByteArray := prog_4_method_6_code
def yX2_inverseOf : MethodName := ⟨RX2, "inverseOf", "(LRoomTrees$Forest;II)Z"⟩
abbrev cX2_fractionOf : ByteArray := prog_4_method_7_code
def yX2_fractionOf : MethodName := ⟨RX2, "fractionOf", "(LRoomTrees$Forest;II)Z"⟩
abbrev cX2_roomOf : ByteArray := prog_4_method_8_code
def yX2_roomOf : MethodName := ⟨RX2, "roomOf", "(LRoomTrees$Forest;I)V"⟩
abbrev cX2_sortSigns : ByteArray := prog_4_method_9_code
def yX2_sortSigns : MethodName := ⟨RX2, "sortSigns", "(LRoomTrees$Forest;I)V"⟩
abbrev cX2_settle : ByteArray := prog_4_method_10_code
def yX2_settle : MethodName := ⟨RX2, "settle", "(III)V"⟩
abbrev cX2_solveWu : ByteArray := prog_4_method_11_code
def yX2_solveWu : MethodName := ⟨RX2, "solveWu", "(LRoomTrees$Forest;)V"⟩
abbrev cX2_rowWith : ByteArray := prog_4_method_12_code
def yX2_rowWith : MethodName := ⟨RX2, "rowWith", "(II)I"⟩
abbrev cX2_clearColumn : ByteArray := prog_4_method_13_code
def yX2_clearColumn : MethodName := ⟨RX2, "clearColumn", "(II)V"⟩
abbrev cX2_readLeast : ByteArray := prog_4_method_14_code
def yX2_readLeast : MethodName := ⟨RX2, "readLeast", "(I)V"⟩
def RX3 : String := "RoomTrees$Search"
def TX3 : u_T := fun k => match k with
  | 0 => ("RoomTrees$Search", "levels", "[LRoomTrees$Forest;", true)
  | 1 => ("RoomTrees$Search", "step", "LRoomTrees$Step;", true)
  | 2 => ("RoomTrees$Search", "speller", "LRoomTrees$Speller;", true)
  | 3 => ("RoomTrees$Search", "spelled", "LRoomTrees$Text;", true)
  | 4 => ("RoomTrees$Search", "goal", "LRoomTrees$Text;", true)
  | 5 => ("RoomTrees$Search", "goalSize", "I", false)
  | 6 => ("RoomTrees$Search", "goalPrint", "I", false)
  | 7 => ("RoomTrees$Search", "left", "I", false)
  | 8 => ("RoomTrees$Search", "moves", "I", false)
  | _ => ("RoomTrees$Search", "first", "I", false)
def tyX3 : Nat → FieldType := fun k => match k with
  | 0 => .array (.object "RoomTrees$Forest")
  | 1 => .object "RoomTrees$Step"
  | 2 => .object "RoomTrees$Speller"
  | 3 => .object "RoomTrees$Text"
  | 4 => .object "RoomTrees$Text"
  | 5 => .int
  | 6 => .int
  | 7 => .int
  | 8 => .int
  | _ => .int
theorem nmX3 : ∀ a, a < 10 → ∀ b, b < 10 → a ≠ b → (TX3 a).2.1 ≠ (TX3 b).2.1 := by decide +kernel
theorem tyX3_ok : ∀ k, k < 10 → parseFieldDescriptor (TX3 k).2.2.1 = some (tyX3 k) := by decide +kernel
abbrev cX3_init : ByteArray := prog_5_method_1_code
def yX3_init : MethodName := ⟨RX3, "<init>", "()V"⟩
abbrev cX3_levelAt : ByteArray := prog_5_method_2_code
def yX3_levelAt : MethodName := ⟨RX3, "levelAt", "(I)LRoomTrees$Forest;"⟩
abbrev cX3_begin : ByteArray := prog_5_method_3_code
def yX3_begin : MethodName := ⟨RX3, "begin", "(LRoomTrees$Forest;)V"⟩
abbrev cX3_dig : ByteArray := prog_5_method_4_code
def yX3_dig : MethodName := ⟨RX3, "dig", "(LRoomTrees$Forest;I)V"⟩
abbrev cX3_deepen : ByteArray := prog_5_method_5_code
def yX3_deepen : MethodName := ⟨RX3, "deepen", "(LRoomTrees$Search;III)V"⟩
abbrev cX3_note : ByteArray := prog_5_method_6_code
def yX3_note : MethodName := ⟨RX3, "note", "(III)V"⟩
abbrev cX3_aim : ByteArray := prog_5_method_7_code
def yX3_aim : MethodName := ⟨RX3, "aim", "(LRoomTrees$Forest;)V"⟩
abbrev cX3_isGoal : ByteArray := prog_5_method_8_code
def yX3_isGoal : MethodName := ⟨RX3, "isGoal", "(LRoomTrees$Forest;)Z"⟩
abbrev cX3_climb : ByteArray := prog_5_method_9_code
def yX3_climb : MethodName := ⟨RX3, "climb", "(LRoomTrees$Search;II)Z"⟩
def RX4 : String := "RoomTrees$Sheet"
def TX4 : u_T := fun k => match k with
  | 0 => ("RoomTrees$Sheet", "bits", "I", true)
  | _ => ("RoomTrees$Sheet", "numbers", "[I", true)
def tyX4 : Nat → FieldType := fun k => match k with
  | 0 => .int
  | _ => .array .int
theorem nmX4 : ∀ a, a < 2 → ∀ b, b < 2 → a ≠ b → (TX4 a).2.1 ≠ (TX4 b).2.1 := by decide +kernel
theorem tyX4_ok : ∀ k, k < 2 → parseFieldDescriptor (TX4 k).2.2.1 = some (tyX4 k) := by decide +kernel
abbrev cX4_init : ByteArray := prog_6_method_1_code
def yX4_init : MethodName := ⟨RX4, "<init>", "(II)V"⟩
abbrev cX4_has : ByteArray := prog_6_method_2_code
def yX4_has : MethodName := ⟨RX4, "has", "(I)Z"⟩
abbrev cX4_holds : ByteArray := prog_6_method_3_code
def yX4_holds : MethodName := ⟨RX4, "holds", "(II)Z"⟩
abbrev cX4_read : ByteArray := prog_6_method_4_code
def yX4_read : MethodName := ⟨RX4, "read", "(I)I"⟩
abbrev cX4_write : ByteArray := prog_6_method_5_code
def yX4_write : MethodName := ⟨RX4, "write", "(II)V"⟩
def RX5 : String := "RoomTrees$Speller"
def TX5 : u_T := fun k => match k with
  | 0 => ("RoomTrees$Speller", "walk", "LRoomTrees$Walk;", true)
  | 1 => ("RoomTrees$Speller", "hanging", "[LRoomTrees$Text;", true)
  | _ => ("RoomTrees$Speller", "trees", "[LRoomTrees$Text;", true)
def tyX5 : Nat → FieldType := fun k => match k with
  | 0 => .object "RoomTrees$Walk"
  | 1 => .array (.object "RoomTrees$Text")
  | _ => .array (.object "RoomTrees$Text")
theorem nmX5 : ∀ a, a < 3 → ∀ b, b < 3 → a ≠ b → (TX5 a).2.1 ≠ (TX5 b).2.1 := by decide +kernel
theorem tyX5_ok : ∀ k, k < 3 → parseFieldDescriptor (TX5 k).2.2.1 = some (tyX5 k) := by decide +kernel
abbrev cX5_init : ByteArray := prog_7_method_1_code
def yX5_init : MethodName := ⟨RX5, "<init>", "()V"⟩
abbrev cX5_spell : ByteArray := prog_7_method_2_code
def yX5_spell : MethodName := ⟨RX5, "spell", "(LRoomTrees$Forest;LRoomTrees$Text;)V"⟩
abbrev cX5_spellVertex : ByteArray := prog_7_method_3_code
def yX5_spellVertex : MethodName := ⟨RX5, "spellVertex", "(LRoomTrees$Forest;I)V"⟩
abbrev cX5_addInOrder : ByteArray := prog_7_method_4_code
def yX5_addInOrder : MethodName := ⟨RX5, "addInOrder", "(LRoomTrees$Text;[LRoomTrees$Text;I)V"⟩
def RX6 : String := "RoomTrees$Step"
def TX6 : u_T := fun k => match k with
  | 0 => ("RoomTrees$Step", "kind", "I", false)
  | 1 => ("RoomTrees$Step", "p", "I", false)
  | 2 => ("RoomTrees$Step", "q", "I", false)
  | 3 => ("RoomTrees$Step", "v", "I", false)
  | 4 => ("RoomTrees$Step", "s", "I", false)
  | 5 => ("RoomTrees$Step", "sign", "I", false)
  | _ => ("RoomTrees$Step", "ahead", "LRoomTrees$Forest;", true)
def tyX6 : Nat → FieldType := fun k => match k with
  | 0 => .int
  | 1 => .int
  | 2 => .int
  | 3 => .int
  | 4 => .int
  | 5 => .int
  | _ => .object "RoomTrees$Forest"
theorem nmX6 : ∀ a, a < 7 → ∀ b, b < 7 → a ≠ b → (TX6 a).2.1 ≠ (TX6 b).2.1 := by decide +kernel
theorem tyX6_ok : ∀ k, k < 7 → parseFieldDescriptor (TX6 k).2.2.1 = some (tyX6 k) := by decide +kernel
abbrev cX6_init : ByteArray := prog_8_method_1_code
def yX6_init : MethodName := ⟨RX6, "<init>", "()V"⟩
abbrev cX6_mean : ByteArray := prog_8_method_2_code
def yX6_mean : MethodName := ⟨RX6, "mean", "(IIIII)V"⟩
abbrev cX6_meanNumber : ByteArray := prog_8_method_3_code
def yX6_meanNumber : MethodName := ⟨RX6, "meanNumber", "(I)Z"⟩
abbrev cX6_shrink : ByteArray := prog_8_method_4_code
def yX6_shrink : MethodName := ⟨RX6, "shrink", "(LRoomTrees$Forest;I)Z"⟩
abbrev cX6_seek : ByteArray := prog_8_method_5_code
def yX6_seek : MethodName := ⟨RX6, "seek", "(LRoomTrees$Forest;IIIZI)Z"⟩
abbrev cX6_refusal : ByteArray := prog_8_method_6_code
def yX6_refusal : MethodName := ⟨RX6, "refusal", "(LRoomTrees$Forest;Z)I"⟩
abbrev cX6_isTold : ByteArray := prog_8_method_7_code
def yX6_isTold : MethodName := ⟨RX6, "isTold", "(LRoomTrees$Forest;)Z"⟩
abbrev cX6_fits : ByteArray := prog_8_method_8_code
def yX6_fits : MethodName := ⟨RX6, "fits", "(LRoomTrees$Forest;)Z"⟩
abbrev cX6_overloads : ByteArray := prog_8_method_9_code
def yX6_overloads : MethodName := ⟨RX6, "overloads", "(LRoomTrees$Forest;)Z"⟩
abbrev cX6_signOn : ByteArray := prog_8_method_10_code
def yX6_signOn : MethodName := ⟨RX6, "signOn", "(LRoomTrees$Forest;)I"⟩
abbrev cX6_act : ByteArray := prog_8_method_11_code
def yX6_act : MethodName := ⟨RX6, "act", "(LRoomTrees$Forest;)V"⟩
abbrev cX6_blowDown : ByteArray := prog_8_method_12_code
def yX6_blowDown : MethodName := ⟨RX6, "blowDown", "(LRoomTrees$Forest;)V"⟩
abbrev cX6_bud : ByteArray := prog_8_method_13_code
def yX6_bud : MethodName := ⟨RX6, "bud", "(LRoomTrees$Forest;)I"⟩
abbrev cX6_absorb : ByteArray := prog_8_method_14_code
def yX6_absorb : MethodName := ⟨RX6, "absorb", "(LRoomTrees$Forest;)V"⟩
abbrev cX6_draw : ByteArray := prog_8_method_15_code
def yX6_draw : MethodName := ⟨RX6, "draw", "(LRoomTrees$Forest;)V"⟩
def RX7 : String := "RoomTrees$Tape"
def TX7 : u_T := fun k => match k with
  | 0 => ("RoomTrees$Tape", "bytes", "[I", true)
  | 1 => ("RoomTrees$Tape", "holders", "[I", true)
  | _ => ("RoomTrees$Tape", "length", "I", false)
def tyX7 : Nat → FieldType := fun k => match k with
  | 0 => .array .int
  | 1 => .array .int
  | _ => .int
theorem nmX7 : ∀ a, a < 3 → ∀ b, b < 3 → a ≠ b → (TX7 a).2.1 ≠ (TX7 b).2.1 := by decide +kernel
theorem tyX7_ok : ∀ k, k < 3 → parseFieldDescriptor (TX7 k).2.2.1 = some (tyX7 k) := by decide +kernel
abbrev cX7_init : ByteArray := prog_9_method_1_code
def yX7_init : MethodName := ⟨RX7, "<init>", "()V"⟩
abbrev cX7_add : ByteArray := prog_9_method_2_code
def yX7_add : MethodName := ⟨RX7, "add", "(I)V"⟩
abbrev cX7_read : ByteArray := prog_9_method_3_code
def yX7_read : MethodName := ⟨RX7, "read", "(LRoomTrees$Forest;)I"⟩
abbrev cX7_hang : ByteArray := prog_9_method_4_code
def yX7_hang : MethodName := ⟨RX7, "hang", "(LRoomTrees$Forest;I)I"⟩
abbrev cX7_byteAt : ByteArray := prog_9_method_5_code
def yX7_byteAt : MethodName := ⟨RX7, "byteAt", "(I)I"⟩
abbrev cX7_isDigit : ByteArray := prog_9_method_6_code
def yX7_isDigit : MethodName := ⟨RX7, "isDigit", "(I)Z"⟩
abbrev cX7_skipBlanks : ByteArray := prog_9_method_7_code
def yX7_skipBlanks : MethodName := ⟨RX7, "skipBlanks", "(I)I"⟩
abbrev cX7_weightSize : ByteArray := prog_9_method_8_code
def yX7_weightSize : MethodName := ⟨RX7, "weightSize", "(I)I"⟩
abbrev cX7_weightAt : ByteArray := prog_9_method_9_code
def yX7_weightAt : MethodName := ⟨RX7, "weightAt", "(II)I"⟩
def RX8 : String := "RoomTrees$Text"
def TX8 : u_T := fun k => match k with
  | 0 => ("RoomTrees$Text", "bytes", "[B", true)
  | _ => ("RoomTrees$Text", "length", "I", false)
def tyX8 : Nat → FieldType := fun k => match k with
  | 0 => .array .byte
  | _ => .int
theorem nmX8 : ∀ a, a < 2 → ∀ b, b < 2 → a ≠ b → (TX8 a).2.1 ≠ (TX8 b).2.1 := by decide +kernel
theorem tyX8_ok : ∀ k, k < 2 → parseFieldDescriptor (TX8 k).2.2.1 = some (tyX8 k) := by decide +kernel
abbrev cX8_init : ByteArray := prog_10_method_1_code
def yX8_init : MethodName := ⟨RX8, "<init>", "()V"⟩
abbrev cX8_add : ByteArray := prog_10_method_2_code
def yX8_add : MethodName := ⟨RX8, "add", "(I)V"⟩
abbrev cX8_addWeight : ByteArray := prog_10_method_3_code
def yX8_addWeight : MethodName := ⟨RX8, "addWeight", "(I)V"⟩
abbrev cX8_addAll : ByteArray := prog_10_method_4_code
def yX8_addAll : MethodName := ⟨RX8, "addAll", "(LRoomTrees$Text;)V"⟩
abbrev cX8_byteAt : ByteArray := prog_10_method_5_code
def yX8_byteAt : MethodName := ⟨RX8, "byteAt", "(I)I"⟩
abbrev cX8_isAhead : ByteArray := prog_10_method_6_code
def yX8_isAhead : MethodName := ⟨RX8, "isAhead", "(LRoomTrees$Text;)Z"⟩
abbrev cX8_isSame : ByteArray := prog_10_method_7_code
def yX8_isSame : MethodName := ⟨RX8, "isSame", "(LRoomTrees$Text;)Z"⟩
def RX9 : String := "RoomTrees$Trail"
def TX9 : u_T := fun k => match k with
  | 0 => ("RoomTrees$Trail", "steps", "[LRoomTrees$Step;", true)
  | 1 => ("RoomTrees$Trail", "done", "I", false)
  | _ => ("RoomTrees$Trail", "known", "I", false)
def tyX9 : Nat → FieldType := fun k => match k with
  | 0 => .array (.object "RoomTrees$Step")
  | 1 => .int
  | _ => .int
theorem nmX9 : ∀ a, a < 3 → ∀ b, b < 3 → a ≠ b → (TX9 a).2.1 ≠ (TX9 b).2.1 := by decide +kernel
theorem tyX9_ok : ∀ k, k < 3 → parseFieldDescriptor (TX9 k).2.2.1 = some (tyX9 k) := by decide +kernel
abbrev cX9_init : ByteArray := prog_11_method_1_code
def yX9_init : MethodName := ⟨RX9, "<init>", "()V"⟩
abbrev cX9_stepAt : ByteArray := prog_11_method_2_code
def yX9_stepAt : MethodName := ⟨RX9, "stepAt", "(I)LRoomTrees$Step;"⟩
abbrev cX9_clear : ByteArray := prog_11_method_3_code
def yX9_clear : MethodName := ⟨RX9, "clear", "()V"⟩
abbrev cX9_perform : ByteArray := prog_11_method_4_code
def yX9_perform : MethodName := ⟨RX9, "perform", "(LRoomTrees$Step;LRoomTrees$Forest;)V"⟩
abbrev cX9_back : ByteArray := prog_11_method_5_code
def yX9_back : MethodName := ⟨RX9, "back", "(LRoomTrees$Forest;)Z"⟩
abbrev cX9_again : ByteArray := prog_11_method_6_code
def yX9_again : MethodName := ⟨RX9, "again", "(LRoomTrees$Forest;)Z"⟩
abbrev cX9_signs : ByteArray := prog_11_method_7_code
def yX9_signs : MethodName := ⟨RX9, "signs", "()I"⟩
def RX10 : String := "RoomTrees$Walk"
def TX10 : u_T := fun k => match k with
  | 0 => ("RoomTrees$Walk", "order", "[I", true)
  | 1 => ("RoomTrees$Walk", "holders", "[I", true)
  | 2 => ("RoomTrees$Walk", "depths", "[I", true)
  | 3 => ("RoomTrees$Walk", "size", "I", false)
  | _ => ("RoomTrees$Walk", "seen", "I", false)
def tyX10 : Nat → FieldType := fun k => match k with
  | 0 => .array .int
  | 1 => .array .int
  | 2 => .array .int
  | 3 => .int
  | _ => .int
theorem nmX10 : ∀ a, a < 5 → ∀ b, b < 5 → a ≠ b → (TX10 a).2.1 ≠ (TX10 b).2.1 := by decide +kernel
theorem tyX10_ok : ∀ k, k < 5 → parseFieldDescriptor (TX10 k).2.2.1 = some (tyX10 k) := by decide +kernel
abbrev cX10_init : ByteArray := prog_12_method_1_code
def yX10_init : MethodName := ⟨RX10, "<init>", "()V"⟩
abbrev cX10_over : ByteArray := prog_12_method_2_code
def yX10_over : MethodName := ⟨RX10, "over", "(LRoomTrees$Forest;I)V"⟩
abbrev cX10_from : ByteArray := prog_12_method_3_code
def yX10_from : MethodName := ⟨RX10, "from", "(LRoomTrees$Forest;I)V"⟩
abbrev cX10_spread : ByteArray := prog_12_method_4_code
def yX10_spread : MethodName := ⟨RX10, "spread", "(LRoomTrees$Forest;II)V"⟩
abbrev cX10_enter : ByteArray := prog_12_method_5_code
def yX10_enter : MethodName := ⟨RX10, "enter", "(III)V"⟩
abbrev cX10_placeAt : ByteArray := prog_12_method_6_code
def yX10_placeAt : MethodName := ⟨RX10, "placeAt", "(I)I"⟩
abbrev cX10_holderOf : ByteArray := prog_12_method_7_code
def yX10_holderOf : MethodName := ⟨RX10, "holderOf", "(I)I"⟩
abbrev cX10_depthAt : ByteArray := prog_12_method_8_code
def yX10_depthAt : MethodName := ⟨RX10, "depthAt", "(I)I"⟩
abbrev cX10_farthest : ByteArray := prog_12_method_9_code
def yX10_farthest : MethodName := ⟨RX10, "farthest", "()I"⟩
abbrev cX10_path : ByteArray := prog_12_method_10_code
def yX10_path : MethodName := ⟨RX10, "path", "(LRoomTrees$Forest;II)I"⟩
def RX11 : String := "RoomTrees"
def TX11 : u_T := fun k => match k with
  | 0 => ("RoomTrees", "told", "[I", true)
  | 1 => ("RoomTrees", "forest", "LRoomTrees$Forest;", true)
  | 2 => ("RoomTrees", "thought", "LRoomTrees$Forest;", true)
  | 3 => ("RoomTrees", "step", "LRoomTrees$Step;", true)
  | 4 => ("RoomTrees", "trail", "LRoomTrees$Trail;", true)
  | 5 => ("RoomTrees", "walk", "LRoomTrees$Walk;", true)
  | 6 => ("RoomTrees", "reckoner", "LRoomTrees$Reckoner;", true)
  | 7 => ("RoomTrees", "speller", "LRoomTrees$Speller;", true)
  | 8 => ("RoomTrees", "spelled", "LRoomTrees$Text;", true)
  | 9 => ("RoomTrees", "search", "LRoomTrees$Search;", true)
  | 10 => ("RoomTrees", "tape", "LRoomTrees$Tape;", true)
  | 11 => ("RoomTrees", "shelves", "[LRoomTrees$Forest;", true)
  | 12 => ("RoomTrees", "sheets", "[LRoomTrees$Sheet;", true)
  | 13 => ("RoomTrees", "crew", "LRoomTrees$Crew;", true)
  | 14 => ("RoomTrees", "imageForest", "LRoomTrees$Forest;", true)
  | 15 => ("RoomTrees", "imageCrew", "LRoomTrees$Crew;", true)
  | _ => ("RoomTrees", "imaged", "Z", false)
def tyX11 : Nat → FieldType := fun k => match k with
  | 0 => .array .int
  | 1 => .object "RoomTrees$Forest"
  | 2 => .object "RoomTrees$Forest"
  | 3 => .object "RoomTrees$Step"
  | 4 => .object "RoomTrees$Trail"
  | 5 => .object "RoomTrees$Walk"
  | 6 => .object "RoomTrees$Reckoner"
  | 7 => .object "RoomTrees$Speller"
  | 8 => .object "RoomTrees$Text"
  | 9 => .object "RoomTrees$Search"
  | 10 => .object "RoomTrees$Tape"
  | 11 => .array (.object "RoomTrees$Forest")
  | 12 => .array (.object "RoomTrees$Sheet")
  | 13 => .object "RoomTrees$Crew"
  | 14 => .object "RoomTrees$Forest"
  | 15 => .object "RoomTrees$Crew"
  | _ => .boolean
theorem nmX11 : ∀ a, a < 17 → ∀ b, b < 17 → a ≠ b → (TX11 a).2.1 ≠ (TX11 b).2.1 := by decide +kernel
theorem tyX11_ok : ∀ k, k < 17 → parseFieldDescriptor (TX11 k).2.2.1 = some (tyX11 k) := by decide +kernel
abbrev cX11_init : ByteArray := prog_1_method_1_code
def yX11_init : MethodName := ⟨RX11, "<init>", "()V"⟩
abbrev cX11_vertex : ByteArray := prog_1_method_2_code
def yX11_vertex : MethodName := ⟨RX11, "vertex", "(I)I"⟩
abbrev cX11_weigh : ByteArray := prog_1_method_3_code
def yX11_weigh : MethodName := ⟨RX11, "weigh", "(II)I"⟩
abbrev cX11_tie : ByteArray := prog_1_method_4_code
def yX11_tie : MethodName := ⟨RX11, "tie", "(II)I"⟩
abbrev cX11_cut : ByteArray := prog_1_method_5_code
def yX11_cut : MethodName := ⟨RX11, "cut", "(II)I"⟩
abbrev cX11_take : ByteArray := prog_1_method_6_code
def yX11_take : MethodName := ⟨RX11, "take", "(I)I"⟩
abbrev cX11_at : ByteArray := prog_1_method_7_code
def yX11_at : MethodName := ⟨RX11, "at", "(II)I"⟩
abbrev cX11_table : ByteArray := prog_1_method_8_code
def yX11_table : MethodName := ⟨RX11, "table", "(II)I"⟩
abbrev cX11_move : ByteArray := prog_1_method_9_code
def yX11_move : MethodName := ⟨RX11, "move", "(IIIII)I"⟩
abbrev cX11_undo : ByteArray := prog_1_method_10_code
def yX11_undo : MethodName := ⟨RX11, "undo", "()I"⟩
abbrev cX11_redo : ByteArray := prog_1_method_11_code
def yX11_redo : MethodName := ⟨RX11, "redo", "()I"⟩
abbrev cX11_trail : ByteArray := prog_1_method_12_code
def yX11_trail : MethodName := ⟨RX11, "trail", "(II)I"⟩
abbrev cX11_factor : ByteArray := prog_1_method_13_code
def yX11_factor : MethodName := ⟨RX11, "factor", "()I"⟩
abbrev cX11_minor : ByteArray := prog_1_method_14_code
def yX11_minor : MethodName := ⟨RX11, "minor", "(I)I"⟩
abbrev cX11_det : ByteArray := prog_1_method_15_code
def yX11_det : MethodName := ⟨RX11, "det", "()I"⟩
abbrev cX11_link : ByteArray := prog_1_method_16_code
def yX11_link : MethodName := ⟨RX11, "link", "(III)I"⟩
abbrev cX11_inertia : ByteArray := prog_1_method_17_code
def yX11_inertia : MethodName := ⟨RX11, "inertia", "(I)I"⟩
abbrev cX11_kernel : ByteArray := prog_1_method_18_code
def yX11_kernel : MethodName := ⟨RX11, "kernel", "(I)I"⟩
abbrev cX11_wu : ByteArray := prog_1_method_19_code
def yX11_wu : MethodName := ⟨RX11, "wu", "(I)I"⟩
abbrev cX11_mu : ByteArray := prog_1_method_20_code
def yX11_mu : MethodName := ⟨RX11, "mu", "()I"⟩
abbrev cX11_fraction : ByteArray := prog_1_method_21_code
def yX11_fraction : MethodName := ⟨RX11, "fraction", "(III)I"⟩
abbrev cX11_room : ByteArray := prog_1_method_22_code
def yX11_room : MethodName := ⟨RX11, "room", "(II)I"⟩
abbrev cX11_oneRoom : ByteArray := prog_1_method_23_code
def yX11_oneRoom : MethodName := ⟨RX11, "oneRoom", "(II)I"⟩
abbrev cX11_chain : ByteArray := prog_1_method_24_code
def yX11_chain : MethodName := ⟨RX11, "chain", "(III)I"⟩
abbrev cX11_plant : ByteArray := prog_1_method_25_code
def yX11_plant : MethodName := ⟨RX11, "plant", "(II)I"⟩
abbrev cX11_feed : ByteArray := prog_1_method_26_code
def yX11_feed : MethodName := ⟨RX11, "feed", "(JI)I"⟩
abbrev cX11_forest : ByteArray := prog_1_method_27_code
def yX11_forest : MethodName := ⟨RX11, "forest", "()I"⟩
abbrev cX11_least : ByteArray := prog_1_method_28_code
def yX11_least : MethodName := ⟨RX11, "least", "(I)I"⟩
abbrev cX11_keep : ByteArray := prog_1_method_29_code
def yX11_keep : MethodName := ⟨RX11, "keep", "(I)I"⟩
abbrev cX11_fetch : ByteArray := prog_1_method_30_code
def yX11_fetch : MethodName := ⟨RX11, "fetch", "(I)I"⟩
abbrev cX11_drop : ByteArray := prog_1_method_31_code
def yX11_drop : MethodName := ⟨RX11, "drop", "(I)I"⟩
abbrev cX11_alike : ByteArray := prog_1_method_32_code
def yX11_alike : MethodName := ⟨RX11, "alike", "(I)I"⟩
abbrev cX11_worker : ByteArray := prog_1_method_33_code
def yX11_worker : MethodName := ⟨RX11, "worker", "(II)I"⟩
abbrev cX11_workerIs : ByteArray := prog_1_method_34_code
def yX11_workerIs : MethodName := ⟨RX11, "workerIs", "(II)I"⟩
abbrev cX11_become : ByteArray := prog_1_method_35_code
def yX11_become : MethodName := ⟨RX11, "become", "(II)I"⟩
abbrev cX11_as : ByteArray := prog_1_method_36_code
def yX11_as : MethodName := ⟨RX11, "as", "(II)I"⟩
abbrev cX11_next : ByteArray := prog_1_method_37_code
def yX11_next : MethodName := ⟨RX11, "next", "(II)I"⟩
abbrev cX11_work : ByteArray := prog_1_method_38_code
def yX11_work : MethodName := ⟨RX11, "work", "(II)I"⟩
abbrev cX11_rest : ByteArray := prog_1_method_39_code
def yX11_rest : MethodName := ⟨RX11, "rest", "(II)I"⟩
abbrev cX11_best : ByteArray := prog_1_method_40_code
def yX11_best : MethodName := ⟨RX11, "best", "(I)I"⟩
abbrev cX11_fewest : ByteArray := prog_1_method_41_code
def yX11_fewest : MethodName := ⟨RX11, "fewest", "(II)I"⟩
abbrev cX11_reach : ByteArray := prog_1_method_42_code
def yX11_reach : MethodName := ⟨RX11, "reach", "(II)I"⟩
abbrev cX11_sheet : ByteArray := prog_1_method_43_code
def yX11_sheet : MethodName := ⟨RX11, "sheet", "(III)I"⟩
abbrev cX11_put : ByteArray := prog_1_method_44_code
def yX11_put : MethodName := ⟨RX11, "put", "(III)I"⟩
abbrev cX11_number : ByteArray := prog_1_method_45_code
def yX11_number : MethodName := ⟨RX11, "number", "(II)I"⟩
abbrev cX11_copy : ByteArray := prog_1_method_46_code
def yX11_copy : MethodName := ⟨RX11, "copy", "(IIIII)I"⟩
abbrev cX11_weighAll : ByteArray := prog_1_method_47_code
def yX11_weighAll : MethodName := ⟨RX11, "weighAll", "(I)I"⟩
abbrev cX11_book : ByteArray := prog_1_method_48_code
def yX11_book : MethodName := ⟨RX11, "book", "(I)I"⟩
abbrev cX11_plays : ByteArray := prog_1_method_49_code
def yX11_plays : MethodName := ⟨RX11, "plays", "(II)I"⟩
abbrev cX11_image : ByteArray := prog_1_method_50_code
def yX11_image : MethodName := ⟨RX11, "image", "()I"⟩
abbrev cX11_restore : ByteArray := prog_1_method_51_code
def yX11_restore : MethodName := ⟨RX11, "restore", "()I"⟩
abbrev cX11_count : ByteArray := prog_1_method_52_code
def yX11_count : MethodName := ⟨RX11, "count", "(I)I"⟩
abbrev cX11_told : ByteArray := prog_1_method_53_code
def yX11_told : MethodName := ⟨RX11, "told", "(I)I"⟩
abbrev cX11_refuse : ByteArray := prog_1_method_54_code
def yX11_refuse : MethodName := ⟨RX11, "refuse", "(I)I"⟩
abbrev cX11_tell : ByteArray := prog_1_method_55_code
def yX11_tell : MethodName := ⟨RX11, "tell", "(J)I"⟩
abbrev cX11_swap : ByteArray := prog_1_method_56_code
def yX11_swap : MethodName := ⟨RX11, "swap", "(LRoomTrees$Forest;)I"⟩
abbrev cX11_treeOf : ByteArray := prog_1_method_57_code
def yX11_treeOf : MethodName := ⟨RX11, "treeOf", "(I)I"⟩
abbrev cX11_thinkToTheEnd : ByteArray := prog_1_method_58_code
def yX11_thinkToTheEnd : MethodName := ⟨RX11, "thinkToTheEnd", "(II)I"⟩
abbrev cX11_shelvesHeld : ByteArray := prog_1_method_59_code
def yX11_shelvesHeld : MethodName := ⟨RX11, "shelvesHeld", "()I"⟩
abbrev cX11_isPlace : ByteArray := prog_1_method_60_code
def yX11_isPlace : MethodName := ⟨RX11, "isPlace", "(I)Z"⟩
abbrev cX11_isIn : ByteArray := prog_1_method_61_code
def yX11_isIn : MethodName := ⟨RX11, "isIn", "(II)Z"⟩
abbrev cX11_isWeight : ByteArray := prog_1_method_62_code
def yX11_isWeight : MethodName := ⟨RX11, "isWeight", "(I)Z"⟩
abbrev cX11_isPart : ByteArray := prog_1_method_63_code
def yX11_isPart : MethodName := ⟨RX11, "isPart", "(I)Z"⟩
abbrev cX11_isPrime : ByteArray := prog_1_method_64_code
def yX11_isPrime : MethodName := ⟨RX11, "isPrime", "(I)Z"⟩
abbrev cX11_isWorkerKind : ByteArray := prog_1_method_65_code
def yX11_isWorkerKind : MethodName := ⟨RX11, "isWorkerKind", "(I)Z"⟩
abbrev cX11_isStart : ByteArray := prog_1_method_66_code
def yX11_isStart : MethodName := ⟨RX11, "isStart", "(I)Z"⟩
abbrev cX11_isChain : ByteArray := prog_1_method_67_code
def yX11_isChain : MethodName := ⟨RX11, "isChain", "(II)Z"⟩
abbrev cX11_leastOf : ByteArray := prog_1_method_68_code
def yX11_leastOf : MethodName := ⟨RX11, "leastOf", "(I)I"⟩
abbrev cX11_greatestOf : ByteArray := prog_1_method_69_code
def yX11_greatestOf : MethodName := ⟨RX11, "greatestOf", "(I)I"⟩
abbrev cX11_commonDivisor : ByteArray := prog_1_method_70_code
def yX11_commonDivisor : MethodName := ⟨RX11, "commonDivisor", "(JJ)J"⟩
abbrev cX11_chainNumber : ByteArray := prog_1_method_71_code
def yX11_chainNumber : MethodName := ⟨RX11, "chainNumber", "(III)I"⟩
def RX12 : String := "RoomTreesModel"
def TX12 : u_T := fun k => match k with
  | 0 => ("RoomTreesModel", "errors", "[I", true)
  | 1 => ("RoomTreesModel", "f", "[I", true)
  | 2 => ("RoomTreesModel", "past", "[[I", true)
  | 3 => ("RoomTreesModel", "deeds", "[I", true)
  | 4 => ("RoomTreesModel", "done", "I", false)
  | 5 => ("RoomTreesModel", "all", "I", false)
  | 6 => ("RoomTreesModel", "minors", "[J", true)
  | 7 => ("RoomTreesModel", "sums", "[J", true)
  | 8 => ("RoomTreesModel", "terms", "[J", true)
  | 9 => ("RoomTreesModel", "rows", "[[I", true)
  | 10 => ("RoomTreesModel", "tape", "[I", true)
  | 11 => ("RoomTreesModel", "taped", "I", false)
  | 12 => ("RoomTreesModel", "at", "I", false)
  | 13 => ("RoomTreesModel", "isWrong", "Z", false)
  | 14 => ("RoomTreesModel", "read", "[I", true)
  | 15 => ("RoomTreesModel", "open", "[I", true)
  | 16 => ("RoomTreesModel", "hang", "[[I", true)
  | 17 => ("RoomTreesModel", "hangs", "[I", true)
  | 18 => ("RoomTreesModel", "best", "[[I", true)
  | 19 => ("RoomTreesModel", "bests", "[I", true)
  | 20 => ("RoomTreesModel", "text", "[I", true)
  | 21 => ("RoomTreesModel", "texted", "I", false)
  | 22 => ("RoomTreesModel", "shelves", "[[I", true)
  | 23 => ("RoomTreesModel", "isHeld", "[Z", true)
  | 24 => ("RoomTreesModel", "due", "[I", true)
  | 25 => ("RoomTreesModel", "dues", "I", false)
  | 26 => ("RoomTreesModel", "workers", "[I", true)
  | 27 => ("RoomTreesModel", "hired", "I", false)
  | 28 => ("RoomTreesModel", "thought", "[[I", true)
  | 29 => ("RoomTreesModel", "fewestLeft", "I", false)
  | 30 => ("RoomTreesModel", "fewestMoves", "I", false)
  | 31 => ("RoomTreesModel", "fewestFirst", "I", false)
  | 32 => ("RoomTreesModel", "bitsOf", "[I", true)
  | 33 => ("RoomTreesModel", "sizeOf", "[I", true)
  | 34 => ("RoomTreesModel", "numbers", "[I", true)
  | 35 => ("RoomTreesModel", "passing", "[I", true)
  | 36 => ("RoomTreesModel", "kept", "[I", true)
  | 37 => ("RoomTreesModel", "keptWorkers", "[I", true)
  | 38 => ("RoomTreesModel", "keptHired", "I", false)
  | _ => ("RoomTreesModel", "isKept", "Z", false)
def tyX12 : Nat → FieldType := fun k => match k with
  | 0 => .array .int
  | 1 => .array .int
  | 2 => .array (.array .int)
  | 3 => .array .int
  | 4 => .int
  | 5 => .int
  | 6 => .array .long
  | 7 => .array .long
  | 8 => .array .long
  | 9 => .array (.array .int)
  | 10 => .array .int
  | 11 => .int
  | 12 => .int
  | 13 => .boolean
  | 14 => .array .int
  | 15 => .array .int
  | 16 => .array (.array .int)
  | 17 => .array .int
  | 18 => .array (.array .int)
  | 19 => .array .int
  | 20 => .array .int
  | 21 => .int
  | 22 => .array (.array .int)
  | 23 => .array .boolean
  | 24 => .array .int
  | 25 => .int
  | 26 => .array .int
  | 27 => .int
  | 28 => .array (.array .int)
  | 29 => .int
  | 30 => .int
  | 31 => .int
  | 32 => .array .int
  | 33 => .array .int
  | 34 => .array .int
  | 35 => .array .int
  | 36 => .array .int
  | 37 => .array .int
  | 38 => .int
  | _ => .boolean
theorem nmX12 : ∀ a, a < 40 → ∀ b, b < 40 → a ≠ b → (TX12 a).2.1 ≠ (TX12 b).2.1 := by decide +kernel
theorem tyX12_ok : ∀ k, k < 40 → parseFieldDescriptor (TX12 k).2.2.1 = some (tyX12 k) := by decide +kernel
abbrev cX12_init : ByteArray := prog_14_method_1_code
def yX12_init : MethodName := ⟨RX12, "<init>", "()V"⟩
abbrev cX12_in : ByteArray := prog_14_method_2_code
def yX12_in : MethodName := ⟨RX12, "in", "(JJJ)Z"⟩
abbrev cX12_error : ByteArray := prog_14_method_3_code
def yX12_error : MethodName := ⟨RX12, "error", "(I)I"⟩
abbrev cX12_copies : ByteArray := prog_14_method_4_code
def yX12_copies : MethodName := ⟨RX12, "copies", "([I[I)V"⟩
abbrev cX12_has : ByteArray := prog_14_method_5_code
def yX12_has : MethodName := ⟨RX12, "has", "(II)Z"⟩
abbrev cX12_many : ByteArray := prog_14_method_6_code
def yX12_many : MethodName := ⟨RX12, "many", "(I)I"⟩
abbrev cX12_lowest : ByteArray := prog_14_method_7_code
def yX12_lowest : MethodName := ⟨RX12, "lowest", "(I)I"⟩
abbrev cX12_isThere : ByteArray := prog_14_method_8_code
def yX12_isThere : MethodName := ⟨RX12, "isThere", "([II)Z"⟩
abbrev cX12_isVertex : ByteArray := prog_14_method_9_code
def yX12_isVertex : MethodName := ⟨RX12, "isVertex", "(I)Z"⟩
abbrev cX12_isWeight : ByteArray := prog_14_method_10_code
def yX12_isWeight : MethodName := ⟨RX12, "isWeight", "(I)Z"⟩
abbrev cX12_comes : ByteArray := prog_14_method_11_code
def yX12_comes : MethodName := ⟨RX12, "comes", "([II)I"⟩
abbrev cX12_ties : ByteArray := prog_14_method_12_code
def yX12_ties : MethodName := ⟨RX12, "ties", "([III)V"⟩
abbrev cX12_cuts : ByteArray := prog_14_method_13_code
def yX12_cuts : MethodName := ⟨RX12, "cuts", "([III)V"⟩
abbrev cX12_leaves : ByteArray := prog_14_method_14_code
def yX12_leaves : MethodName := ⟨RX12, "leaves", "([II)V"⟩
abbrev cX12_treeOf : ByteArray := prog_14_method_15_code
def yX12_treeOf : MethodName := ⟨RX12, "treeOf", "([II)I"⟩
abbrev cX12_trees : ByteArray := prog_14_method_16_code
def yX12_trees : MethodName := ⟨RX12, "trees", "([I)I"⟩
abbrev cX12_lightest : ByteArray := prog_14_method_17_code
def yX12_lightest : MethodName := ⟨RX12, "lightest", "([II)I"⟩
abbrev cX12_other : ByteArray := prog_14_method_18_code
def yX12_other : MethodName := ⟨RX12, "other", "([II)I"⟩
abbrev cX12_isAsTold : ByteArray := prog_14_method_19_code
def yX12_isAsTold : MethodName := ⟨RX12, "isAsTold", "([IIIIII)Z"⟩
abbrev cX12_canBe : ByteArray := prog_14_method_20_code
def yX12_canBe : MethodName := ⟨RX12, "canBe", "([IIII)Z"⟩
abbrev cX12_room : ByteArray := prog_14_method_21_code
def yX12_room : MethodName := ⟨RX12, "room", "(I)I"⟩
abbrev cX12_isLight : ByteArray := prog_14_method_22_code
def yX12_isLight : MethodName := ⟨RX12, "isLight", "([IIIII)Z"⟩
abbrev cX12_refused : ByteArray := prog_14_method_23_code
def yX12_refused : MethodName := ⟨RX12, "refused", "([IIIIII)I"⟩
abbrev cX12_signOf : ByteArray := prog_14_method_24_code
def yX12_signOf : MethodName := ⟨RX12, "signOf", "([IIII)I"⟩
abbrev cX12_goesDown : ByteArray := prog_14_method_25_code
def yX12_goesDown : MethodName := ⟨RX12, "goesDown", "([II)V"⟩
abbrev cX12_goesUp : ByteArray := prog_14_method_26_code
def yX12_goesUp : MethodName := ⟨RX12, "goesUp", "([IIII)V"⟩
abbrev cX12_absorbs : ByteArray := prog_14_method_27_code
def yX12_absorbs : MethodName := ⟨RX12, "absorbs", "([II)V"⟩
abbrev cX12_draws : ByteArray := prog_14_method_28_code
def yX12_draws : MethodName := ⟨RX12, "draws", "([IIII)V"⟩
abbrev cX12_does : ByteArray := prog_14_method_29_code
def yX12_does : MethodName := ⟨RX12, "does", "([IIIIII)V"⟩
abbrev cX12_byHand : ByteArray := prog_14_method_30_code
def yX12_byHand : MethodName := ⟨RX12, "byHand", "()V"⟩
abbrev cX12_goes : ByteArray := prog_14_method_31_code
def yX12_goes : MethodName := ⟨RX12, "goes", "(IIIII)V"⟩
abbrev cX12_move : ByteArray := prog_14_method_32_code
def yX12_move : MethodName := ⟨RX12, "move", "(IIIII)I"⟩
abbrev cX12_undo : ByteArray := prog_14_method_33_code
def yX12_undo : MethodName := ⟨RX12, "undo", "()I"⟩
abbrev cX12_redo : ByteArray := prog_14_method_34_code
def yX12_redo : MethodName := ⟨RX12, "redo", "()I"⟩
abbrev cX12_trail : ByteArray := prog_14_method_35_code
def yX12_trail : MethodName := ⟨RX12, "trail", "(II)I"⟩
abbrev cX12_factor : ByteArray := prog_14_method_36_code
def yX12_factor : MethodName := ⟨RX12, "factor", "()I"⟩
abbrev cX12_vertex : ByteArray := prog_14_method_37_code
def yX12_vertex : MethodName := ⟨RX12, "vertex", "(I)I"⟩
abbrev cX12_weigh : ByteArray := prog_14_method_38_code
def yX12_weigh : MethodName := ⟨RX12, "weigh", "(II)I"⟩
abbrev cX12_tie : ByteArray := prog_14_method_39_code
def yX12_tie : MethodName := ⟨RX12, "tie", "(II)I"⟩
abbrev cX12_cut : ByteArray := prog_14_method_40_code
def yX12_cut : MethodName := ⟨RX12, "cut", "(II)I"⟩
abbrev cX12_take : ByteArray := prog_14_method_41_code
def yX12_take : MethodName := ⟨RX12, "take", "(I)I"⟩
abbrev cX12_possible : ByteArray := prog_14_method_42_code
def yX12_possible : MethodName := ⟨RX12, "possible", "(I)I"⟩
abbrev cX12_farthest : ByteArray := prog_14_method_43_code
def yX12_farthest : MethodName := ⟨RX12, "farthest", "(I)I"⟩
abbrev cX12_at : ByteArray := prog_14_method_44_code
def yX12_at : MethodName := ⟨RX12, "at", "(II)I"⟩
abbrev cX12_pair : ByteArray := prog_14_method_45_code
def yX12_pair : MethodName := ⟨RX12, "pair", "(II)I"⟩
abbrev cX12_table : ByteArray := prog_14_method_46_code
def yX12_table : MethodName := ⟨RX12, "table", "(II)I"⟩
abbrev cX12_layMinors : ByteArray := prog_14_method_47_code
def yX12_layMinors : MethodName := ⟨RX12, "layMinors", "()V"⟩
abbrev cX12_minorOf : ByteArray := prog_14_method_48_code
def yX12_minorOf : MethodName := ⟨RX12, "minorOf", "(I)J"⟩
abbrev cX12_orOver : ByteArray := prog_14_method_49_code
def yX12_orOver : MethodName := ⟨RX12, "orOver", "(J)I"⟩
abbrev cX12_minor : ByteArray := prog_14_method_50_code
def yX12_minor : MethodName := ⟨RX12, "minor", "(I)I"⟩
abbrev cX12_det : ByteArray := prog_14_method_51_code
def yX12_det : MethodName := ⟨RX12, "det", "()I"⟩
abbrev cX12_without : ByteArray := prog_14_method_52_code
def yX12_without : MethodName := ⟨RX12, "without", "(II)J"⟩
abbrev cX12_place : ByteArray := prog_14_method_53_code
def yX12_place : MethodName := ⟨RX12, "place", "(II)I"⟩
abbrev cX12_behind : ByteArray := prog_14_method_54_code
def yX12_behind : MethodName := ⟨RX12, "behind", "(II)I"⟩
abbrev cX12_divisor : ByteArray := prog_14_method_55_code
def yX12_divisor : MethodName := ⟨RX12, "divisor", "(JJ)J"⟩
abbrev cX12_link : ByteArray := prog_14_method_56_code
def yX12_link : MethodName := ⟨RX12, "link", "(III)I"⟩
abbrev cX12_layTerms : ByteArray := prog_14_method_57_code
def yX12_layTerms : MethodName := ⟨RX12, "layTerms", "()V"⟩
abbrev cX12_above : ByteArray := prog_14_method_58_code
def yX12_above : MethodName := ⟨RX12, "above", "()I"⟩
abbrev cX12_noughts : ByteArray := prog_14_method_59_code
def yX12_noughts : MethodName := ⟨RX12, "noughts", "()I"⟩
abbrev cX12_inertiaOf : ByteArray := prog_14_method_60_code
def yX12_inertiaOf : MethodName := ⟨RX12, "inertiaOf", "(I)I"⟩
abbrev cX12_inertia : ByteArray := prog_14_method_61_code
def yX12_inertia : MethodName := ⟨RX12, "inertia", "(I)I"⟩
abbrev cX12_inverse : ByteArray := prog_14_method_62_code
def yX12_inverse : MethodName := ⟨RX12, "inverse", "(II)I"⟩
abbrev cX12_mod : ByteArray := prog_14_method_63_code
def yX12_mod : MethodName := ⟨RX12, "mod", "(II)I"⟩
abbrev cX12_layRows : ByteArray := prog_14_method_64_code
def yX12_layRows : MethodName := ⟨RX12, "layRows", "(I)V"⟩
abbrev cX12_kernelOf : ByteArray := prog_14_method_65_code
def yX12_kernelOf : MethodName := ⟨RX12, "kernelOf", "(I)I"⟩
abbrev cX12_kernel : ByteArray := prog_14_method_66_code
def yX12_kernel : MethodName := ⟨RX12, "kernel", "(I)I"⟩
abbrev cX12_isWu : ByteArray := prog_14_method_67_code
def yX12_isWu : MethodName := ⟨RX12, "isWu", "(I)Z"⟩
abbrev cX12_leastWu : ByteArray := prog_14_method_68_code
def yX12_leastWu : MethodName := ⟨RX12, "leastWu", "()I"⟩
abbrev cX12_manyWu : ByteArray := prog_14_method_69_code
def yX12_manyWu : MethodName := ⟨RX12, "manyWu", "()I"⟩
abbrev cX12_wu : ByteArray := prog_14_method_70_code
def yX12_wu : MethodName := ⟨RX12, "wu", "(I)I"⟩
abbrev cX12_mu : ByteArray := prog_14_method_71_code
def yX12_mu : MethodName := ⟨RX12, "mu", "()I"⟩
abbrev cX12_way : ByteArray := prog_14_method_72_code
def yX12_way : MethodName := ⟨RX12, "way", "(II)I"⟩
abbrev cX12_fraction : ByteArray := prog_14_method_73_code
def yX12_fraction : MethodName := ⟨RX12, "fraction", "(III)I"⟩
abbrev cX12_isLine : ByteArray := prog_14_method_74_code
def yX12_isLine : MethodName := ⟨RX12, "isLine", "(I)Z"⟩
abbrev cX12_roomN : ByteArray := prog_14_method_75_code
def yX12_roomN : MethodName := ⟨RX12, "roomN", "(I)J"⟩
abbrev cX12_roomM : ByteArray := prog_14_method_76_code
def yX12_roomM : MethodName := ⟨RX12, "roomM", "(I)J"⟩
abbrev cX12_isOver : ByteArray := prog_14_method_77_code
def yX12_isOver : MethodName := ⟨RX12, "isOver", "(J)Z"⟩
abbrev cX12_room_ : ByteArray := prog_14_method_78_code
def yX12_room_ : MethodName := ⟨RX12, "room", "(II)I"⟩
abbrev cX12_oneRoom : ByteArray := prog_14_method_79_code
def yX12_oneRoom : MethodName := ⟨RX12, "oneRoom", "(II)I"⟩
abbrev cX12_isChain : ByteArray := prog_14_method_80_code
def yX12_isChain : MethodName := ⟨RX12, "isChain", "(II)Z"⟩
abbrev cX12_chained : ByteArray := prog_14_method_81_code
def yX12_chained : MethodName := ⟨RX12, "chained", "(III)I"⟩
abbrev cX12_chain : ByteArray := prog_14_method_82_code
def yX12_chain : MethodName := ⟨RX12, "chain", "(III)I"⟩
abbrev cX12_plant : ByteArray := prog_14_method_83_code
def yX12_plant : MethodName := ⟨RX12, "plant", "(II)I"⟩
abbrev cX12_feed : ByteArray := prog_14_method_84_code
def yX12_feed : MethodName := ⟨RX12, "feed", "(JI)I"⟩
abbrev cX12_here : ByteArray := prog_14_method_85_code
def yX12_here : MethodName := ⟨RX12, "here", "()I"⟩
abbrev cX12_byteAt : ByteArray := prog_14_method_86_code
def yX12_byteAt : MethodName := ⟨RX12, "byteAt", "(I)I"⟩
abbrev cX12_isDigit : ByteArray := prog_14_method_87_code
def yX12_isDigit : MethodName := ⟨RX12, "isDigit", "(I)Z"⟩
abbrev cX12_weightHere : ByteArray := prog_14_method_88_code
def yX12_weightHere : MethodName := ⟨RX12, "weightHere", "()I"⟩
abbrev cX12_opensHere : ByteArray := prog_14_method_89_code
def yX12_opensHere : MethodName := ⟨RX12, "opensHere", "(I)I"⟩
abbrev cX12_forestHere : ByteArray := prog_14_method_90_code
def yX12_forestHere : MethodName := ⟨RX12, "forestHere", "()V"⟩
abbrev cX12_forest : ByteArray := prog_14_method_91_code
def yX12_forest : MethodName := ⟨RX12, "forest", "()I"⟩
abbrev cX12_isAhead : ByteArray := prog_14_method_92_code
def yX12_isAhead : MethodName := ⟨RX12, "isAhead", "([II[II)Z"⟩
abbrev cX12_laysWeight : ByteArray := prog_14_method_93_code
def yX12_laysWeight : MethodName := ⟨RX12, "laysWeight", "([III)I"⟩
abbrev cX12_layHang : ByteArray := prog_14_method_94_code
def yX12_layHang : MethodName := ⟨RX12, "layHang", "([III)V"⟩
abbrev cX12_layTree : ByteArray := prog_14_method_95_code
def yX12_layTree : MethodName := ⟨RX12, "layTree", "([II)V"⟩
abbrev cX12_layText : ByteArray := prog_14_method_96_code
def yX12_layText : MethodName := ⟨RX12, "layText", "([I)V"⟩
abbrev cX12_least : ByteArray := prog_14_method_97_code
def yX12_least : MethodName := ⟨RX12, "least", "(I)I"⟩
abbrev cX12_isFour : ByteArray := prog_14_method_98_code
def yX12_isFour : MethodName := ⟨RX12, "isFour", "(I)Z"⟩
abbrev cX12_keep : ByteArray := prog_14_method_99_code
def yX12_keep : MethodName := ⟨RX12, "keep", "(I)I"⟩
abbrev cX12_fetch : ByteArray := prog_14_method_100_code
def yX12_fetch : MethodName := ⟨RX12, "fetch", "(I)I"⟩
abbrev cX12_drop : ByteArray := prog_14_method_101_code
def yX12_drop : MethodName := ⟨RX12, "drop", "(I)I"⟩
abbrev cX12_layDue : ByteArray := prog_14_method_102_code
def yX12_layDue : MethodName := ⟨RX12, "layDue", "([I)V"⟩
abbrev cX12_isDue : ByteArray := prog_14_method_103_code
def yX12_isDue : MethodName := ⟨RX12, "isDue", "([I)Z"⟩
abbrev cX12_alike : ByteArray := prog_14_method_104_code
def yX12_alike : MethodName := ⟨RX12, "alike", "(I)I"⟩
abbrev cX12_isWorker : ByteArray := prog_14_method_105_code
def yX12_isWorker : MethodName := ⟨RX12, "isWorker", "(I)Z"⟩
abbrev cX12_worker : ByteArray := prog_14_method_106_code
def yX12_worker : MethodName := ⟨RX12, "worker", "(II)I"⟩
abbrev cX12_cost : ByteArray := prog_14_method_107_code
def yX12_cost : MethodName := ⟨RX12, "cost", "(II)I"⟩
abbrev cX12_workerIs : ByteArray := prog_14_method_108_code
def yX12_workerIs : MethodName := ⟨RX12, "workerIs", "(II)I"⟩
abbrev cX12_become : ByteArray := prog_14_method_109_code
def yX12_become : MethodName := ⟨RX12, "become", "(II)I"⟩
abbrev cX12_as : ByteArray := prog_14_method_110_code
def yX12_as : MethodName := ⟨RX12, "as", "(II)I"⟩
abbrev cX12_found : ByteArray := prog_14_method_111_code
def yX12_found : MethodName := ⟨RX12, "found", "([IIIIIZ)I"⟩
abbrev cX12_nextOf : ByteArray := prog_14_method_112_code
def yX12_nextOf : MethodName := ⟨RX12, "nextOf", "([III)I"⟩
abbrev cX12_next : ByteArray := prog_14_method_113_code
def yX12_next : MethodName := ⟨RX12, "next", "(II)I"⟩
abbrev cX12_work : ByteArray := prog_14_method_114_code
def yX12_work : MethodName := ⟨RX12, "work", "(II)I"⟩
abbrev cX12_toTheEnd : ByteArray := prog_14_method_115_code
def yX12_toTheEnd : MethodName := ⟨RX12, "toTheEnd", "(II)I"⟩
abbrev cX12_weights : ByteArray := prog_14_method_116_code
def yX12_weights : MethodName := ⟨RX12, "weights", "([I)I"⟩
abbrev cX12_rest : ByteArray := prog_14_method_117_code
def yX12_rest : MethodName := ⟨RX12, "rest", "(II)I"⟩
abbrev cX12_best : ByteArray := prog_14_method_118_code
def yX12_best : MethodName := ⟨RX12, "best", "(I)I"⟩
abbrev cX12_tries : ByteArray := prog_14_method_119_code
def yX12_tries : MethodName := ⟨RX12, "tries", "(III)V"⟩
abbrev cX12_fewest : ByteArray := prog_14_method_120_code
def yX12_fewest : MethodName := ⟨RX12, "fewest", "(II)I"⟩
abbrev cX12_comesTo : ByteArray := prog_14_method_121_code
def yX12_comesTo : MethodName := ⟨RX12, "comesTo", "(III)Z"⟩
abbrev cX12_reach : ByteArray := prog_14_method_122_code
def yX12_reach : MethodName := ⟨RX12, "reach", "(II)I"⟩
abbrev cX12_sheet : ByteArray := prog_14_method_123_code
def yX12_sheet : MethodName := ⟨RX12, "sheet", "(III)I"⟩
abbrev cX12_lacks : ByteArray := prog_14_method_124_code
def yX12_lacks : MethodName := ⟨RX12, "lacks", "(II)I"⟩
abbrev cX12_lays : ByteArray := prog_14_method_125_code
def yX12_lays : MethodName := ⟨RX12, "lays", "(III)V"⟩
abbrev cX12_put : ByteArray := prog_14_method_126_code
def yX12_put : MethodName := ⟨RX12, "put", "(III)I"⟩
abbrev cX12_number : ByteArray := prog_14_method_127_code
def yX12_number : MethodName := ⟨RX12, "number", "(II)I"⟩
abbrev cX12_copy : ByteArray := prog_14_method_128_code
def yX12_copy : MethodName := ⟨RX12, "copy", "(IIIII)I"⟩
abbrev cX12_notThere : ByteArray := prog_14_method_129_code
def yX12_notThere : MethodName := ⟨RX12, "notThere", "(I)I"⟩
abbrev cX12_weighAll : ByteArray := prog_14_method_130_code
def yX12_weighAll : MethodName := ⟨RX12, "weighAll", "(I)I"⟩
abbrev cX12_book : ByteArray := prog_14_method_131_code
def yX12_book : MethodName := ⟨RX12, "book", "(I)I"⟩
abbrev cX12_plays : ByteArray := prog_14_method_132_code
def yX12_plays : MethodName := ⟨RX12, "plays", "(II)I"⟩
abbrev cX12_image : ByteArray := prog_14_method_133_code
def yX12_image : MethodName := ⟨RX12, "image", "()I"⟩
abbrev cX12_restore : ByteArray := prog_14_method_134_code
def yX12_restore : MethodName := ⟨RX12, "restore", "()I"⟩
abbrev cX12_edges : ByteArray := prog_14_method_135_code
def yX12_edges : MethodName := ⟨RX12, "edges", "()I"⟩
abbrev cX12_heldOnes : ByteArray := prog_14_method_136_code
def yX12_heldOnes : MethodName := ⟨RX12, "heldOnes", "()I"⟩
abbrev cX12_allJobs : ByteArray := prog_14_method_137_code
def yX12_allJobs : MethodName := ⟨RX12, "allJobs", "()I"⟩
abbrev cX12_count : ByteArray := prog_14_method_138_code
def yX12_count : MethodName := ⟨RX12, "count", "(I)I"⟩
abbrev cX12_told : ByteArray := prog_14_method_139_code
def yX12_told : MethodName := ⟨RX12, "told", "(I)I"⟩
def RJ6 : String := "java/lang/Integer"
def TJ6 : u_T := fun k => match k with
  | _ => ("", "", "", false)
def tyJ6 : Nat → FieldType := fun k => match k with
  | _ => .int
theorem nmJ6 : ∀ a, a < 0 → ∀ b, b < 0 → a ≠ b → (TJ6 a).2.1 ≠ (TJ6 b).2.1 := by decide +kernel
theorem tyJ6_ok : ∀ k, k < 0 → parseFieldDescriptor (TJ6 k).2.2.1 = some (tyJ6 k) := by decide +kernel
abbrev cJ6_bitCount_0f7a4 : ByteArray := prog_15_method_49_code
def yJ6_bitCount_0f7a4 : MethodName := ⟨RJ6, "bitCount", "(I)I"⟩
def RJ9 : String := "java/lang/Math"
def TJ9 : u_T := fun k => match k with
  | _ => ("", "", "", false)
def tyJ9 : Nat → FieldType := fun k => match k with
  | _ => .int
theorem nmJ9 : ∀ a, a < 0 → ∀ b, b < 0 → a ≠ b → (TJ9 a).2.1 ≠ (TJ9 b).2.1 := by decide +kernel
theorem tyJ9_ok : ∀ k, k < 0 → parseFieldDescriptor (TJ9 k).2.2.1 = some (tyJ9 k) := by decide +kernel
abbrev cJ9_floorMod_f86c9 : ByteArray := prog_16_method_52_code
def yJ9_floorMod_f86c9 : MethodName := ⟨RJ9, "floorMod", "(JJ)J"⟩
abbrev cJ9_max_7cf53 : ByteArray := prog_16_method_65_code
def yJ9_max_7cf53 : MethodName := ⟨RJ9, "max", "(II)I"⟩
abbrev cJ9_min_7cf53 : ByteArray := prog_16_method_69_code
def yJ9_min_7cf53 : MethodName := ⟨RJ9, "min", "(II)I"⟩
def RJ10 : String := "java/lang/System"
def TJ10 : u_T := fun k => match k with
  | _ => ("", "", "", false)
def tyJ10 : Nat → FieldType := fun k => match k with
  | _ => .int
theorem nmJ10 : ∀ a, a < 0 → ∀ b, b < 0 → a ≠ b → (TJ10 a).2.1 ≠ (TJ10 b).2.1 := by decide +kernel
theorem tyJ10_ok : ∀ k, k < 0 → parseFieldDescriptor (TJ10 k).2.2.1 = some (tyJ10 k) := by decide +kernel
def RJ7 : String := "java/util/Arrays"
def TJ7 : u_T := fun k => match k with
  | _ => ("", "", "", false)
def tyJ7 : Nat → FieldType := fun k => match k with
  | _ => .int
theorem nmJ7 : ∀ a, a < 0 → ∀ b, b < 0 → a ≠ b → (TJ7 a).2.1 ≠ (TJ7 b).2.1 := by decide +kernel
theorem tyJ7_ok : ∀ k, k < 0 → parseFieldDescriptor (TJ7 k).2.2.1 = some (tyJ7 k) := by decide +kernel
abbrev cJ7_fill_53178 : ByteArray := prog_18_method_103_code
def yJ7_fill_53178 : MethodName := ⟨RJ7, "fill", "([II)V"⟩
def RL : String := "RoomTreesLaw"
abbrev cL_law : ByteArray := code
def yL_law : MethodName := ⟨RL, "law", "([I)Z"⟩
abbrev vwCl : List vw_C := [(RX0, TX0, 4), (RX1, TX1, 3), (RX2, TX2, 12), (RX3, TX3, 10), (RX4, TX4, 2), (RX5, TX5, 3), (RX6, TX6, 7), (RX7, TX7, 3), (RX8, TX8, 2), (RX9, TX9, 3), (RX10, TX10, 5), (RX11, TX11, 17), (RX12, TX12, 40)]

section
-- ===== PART A: goes FIRST, ahead of the names: the tables' words, and 'selects' of the private methods out of them =====
/-- a private method of a class that the tables say can be made, by its rows of tables_1 -/
def lw_okq (q : MethodName × Nat) : Prop := (q.1.cls ≠ "java/lang/invoke/MethodHandle" ∧ q.1.cls ≠ "java/lang/invoke/VarHandle") ∧ Cond.instantiable q.1.cls q.2 ∈ tables_1 ∧ Cond.privateMethod q.1 ∈ tables_1 ∧ Cond.instanceMethod q.1 ∈ tables_1
theorem lw_p0 : lw_okq (⟨"RoughTables", "change", "()I"⟩, 6) := ⟨⟨by decide +kernel, by decide +kernel⟩, List.mem_of_getElem? (i := 18) (by decide +kernel), List.mem_of_getElem? (i := 238) (by decide +kernel), List.mem_of_getElem? (i := 239) (by decide +kernel)⟩
theorem lw_p1 : lw_okq (⟨"RoughTables$State", "refusalOfTable", "(II)I"⟩, 4) := ⟨⟨by decide +kernel, by decide +kernel⟩, List.mem_of_getElem? (i := 26) (by decide +kernel), List.mem_of_getElem? (i := 250) (by decide +kernel), List.mem_of_getElem? (i := 251) (by decide +kernel)⟩
theorem lw_p2 : lw_okq (⟨"RoughTables$State", "refusalOfRow", "(IIII)I"⟩, 4) := ⟨⟨by decide +kernel, by decide +kernel⟩, List.mem_of_getElem? (i := 26) (by decide +kernel), List.mem_of_getElem? (i := 257) (by decide +kernel), List.mem_of_getElem? (i := 258) (by decide +kernel)⟩
theorem lw_p3 : lw_okq (⟨"RoughTables$State", "refusalOfMerge", "(II)I"⟩, 4) := ⟨⟨by decide +kernel, by decide +kernel⟩, List.mem_of_getElem? (i := 26) (by decide +kernel), List.mem_of_getElem? (i := 268) (by decide +kernel), List.mem_of_getElem? (i := 269) (by decide +kernel)⟩
theorem lw_p4 : lw_okq (⟨"RoughTables$History", "dropOldest", "()V"⟩, 2) := ⟨⟨by decide +kernel, by decide +kernel⟩, List.mem_of_getElem? (i := 124) (by decide +kernel), List.mem_of_getElem? (i := 280) (by decide +kernel), List.mem_of_getElem? (i := 281) (by decide +kernel)⟩
theorem lw_p5 : lw_okq (⟨"RoughTables$History", "slotAt", "(I)LRoughTables$State;"⟩, 2) := ⟨⟨by decide +kernel, by decide +kernel⟩, List.mem_of_getElem? (i := 124) (by decide +kernel), List.mem_of_getElem? (i := 284) (by decide +kernel), List.mem_of_getElem? (i := 285) (by decide +kernel)⟩
theorem lw_p6 : lw_okq (⟨"RoughTables$State", "makeTable", "(II)I"⟩, 4) := ⟨⟨by decide +kernel, by decide +kernel⟩, List.mem_of_getElem? (i := 26) (by decide +kernel), List.mem_of_getElem? (i := 313) (by decide +kernel), List.mem_of_getElem? (i := 314) (by decide +kernel)⟩
theorem lw_p7 : lw_okq (⟨"RoughTables$State", "putRow", "(IIII)I"⟩, 4) := ⟨⟨by decide +kernel, by decide +kernel⟩, List.mem_of_getElem? (i := 26) (by decide +kernel), List.mem_of_getElem? (i := 332) (by decide +kernel), List.mem_of_getElem? (i := 333) (by decide +kernel)⟩
theorem lw_p8 : lw_okq (⟨"RoughTables$Sketch", "bitOf", "(I)I"⟩, 7) := ⟨⟨by decide +kernel, by decide +kernel⟩, List.mem_of_getElem? (i := 60) (by decide +kernel), List.mem_of_getElem? (i := 347) (by decide +kernel), List.mem_of_getElem? (i := 348) (by decide +kernel)⟩
theorem lw_p9 : lw_okq (⟨"RoughTables$Sketch", "keepHash", "(I)V"⟩, 7) := ⟨⟨by decide +kernel, by decide +kernel⟩, List.mem_of_getElem? (i := 60) (by decide +kernel), List.mem_of_getElem? (i := 351) (by decide +kernel), List.mem_of_getElem? (i := 352) (by decide +kernel)⟩
theorem lw_p10 : lw_okq (⟨"RoughTables$Sketch", "placeOf", "(I)I"⟩, 7) := ⟨⟨by decide +kernel, by decide +kernel⟩, List.mem_of_getElem? (i := 60) (by decide +kernel), List.mem_of_getElem? (i := 355) (by decide +kernel), List.mem_of_getElem? (i := 356) (by decide +kernel)⟩
theorem lw_p11 : lw_okq (⟨"RoughTables$Sketch", "registerOf", "(I)I"⟩, 7) := ⟨⟨by decide +kernel, by decide +kernel⟩, List.mem_of_getElem? (i := 60) (by decide +kernel), List.mem_of_getElem? (i := 359) (by decide +kernel), List.mem_of_getElem? (i := 360) (by decide +kernel)⟩
theorem lw_p12 : lw_okq (⟨"RoughTables$Sketch", "raise", "(II)V"⟩, 7) := ⟨⟨by decide +kernel, by decide +kernel⟩, List.mem_of_getElem? (i := 60) (by decide +kernel), List.mem_of_getElem? (i := 366) (by decide +kernel), List.mem_of_getElem? (i := 367) (by decide +kernel)⟩
theorem lw_p13 : lw_okq (⟨"RoughTables$Sketch", "filledRegisters", "()I"⟩, 7) := ⟨⟨by decide +kernel, by decide +kernel⟩, List.mem_of_getElem? (i := 60) (by decide +kernel), List.mem_of_getElem? (i := 393) (by decide +kernel), List.mem_of_getElem? (i := 394) (by decide +kernel)⟩
theorem lw_p14 : lw_okq (⟨"RoughTables$Sketch", "roughByHashes", "()I"⟩, 7) := ⟨⟨by decide +kernel, by decide +kernel⟩, List.mem_of_getElem? (i := 60) (by decide +kernel), List.mem_of_getElem? (i := 404) (by decide +kernel), List.mem_of_getElem? (i := 405) (by decide +kernel)⟩
theorem lw_p15 : lw_okq (⟨"RoughTables$Sketch", "roughByRanks", "()I"⟩, 7) := ⟨⟨by decide +kernel, by decide +kernel⟩, List.mem_of_getElem? (i := 60) (by decide +kernel), List.mem_of_getElem? (i := 409) (by decide +kernel), List.mem_of_getElem? (i := 410) (by decide +kernel)⟩
def lw_privs_1 : List (MethodName × Nat) := [(⟨"RoughTables", "change", "()I"⟩, 6), (⟨"RoughTables$State", "refusalOfTable", "(II)I"⟩, 4), (⟨"RoughTables$State", "refusalOfRow", "(IIII)I"⟩, 4), (⟨"RoughTables$State", "refusalOfMerge", "(II)I"⟩, 4), (⟨"RoughTables$History", "dropOldest", "()V"⟩, 2), (⟨"RoughTables$History", "slotAt", "(I)LRoughTables$State;"⟩, 2), (⟨"RoughTables$State", "makeTable", "(II)I"⟩, 4), (⟨"RoughTables$State", "putRow", "(IIII)I"⟩, 4), (⟨"RoughTables$Sketch", "bitOf", "(I)I"⟩, 7), (⟨"RoughTables$Sketch", "keepHash", "(I)V"⟩, 7), (⟨"RoughTables$Sketch", "placeOf", "(I)I"⟩, 7), (⟨"RoughTables$Sketch", "registerOf", "(I)I"⟩, 7), (⟨"RoughTables$Sketch", "raise", "(II)V"⟩, 7), (⟨"RoughTables$Sketch", "filledRegisters", "()I"⟩, 7), (⟨"RoughTables$Sketch", "roughByHashes", "()I"⟩, 7), (⟨"RoughTables$Sketch", "roughByRanks", "()I"⟩, 7)]
theorem lw_r1 : ∀ q ∈ lw_privs_1, lw_okq q := List.forall_mem_cons.mpr ⟨lw_p0, List.forall_mem_cons.mpr ⟨lw_p1, List.forall_mem_cons.mpr ⟨lw_p2, List.forall_mem_cons.mpr ⟨lw_p3, List.forall_mem_cons.mpr ⟨lw_p4, List.forall_mem_cons.mpr ⟨lw_p5, List.forall_mem_cons.mpr ⟨lw_p6, List.forall_mem_cons.mpr ⟨lw_p7, List.forall_mem_cons.mpr ⟨lw_p8, List.forall_mem_cons.mpr ⟨lw_p9, List.forall_mem_cons.mpr ⟨lw_p10, List.forall_mem_cons.mpr ⟨lw_p11, List.forall_mem_cons.mpr ⟨lw_p12, List.forall_mem_cons.mpr ⟨lw_p13, List.forall_mem_cons.mpr ⟨lw_p14, List.forall_mem_cons.mpr ⟨lw_p15, fun _ h => absurd h List.not_mem_nil⟩⟩⟩⟩⟩⟩⟩⟩⟩⟩⟩⟩⟩⟩⟩⟩
theorem lw_p16 : lw_okq (⟨"RoughTables$State", "unite", "(II)I"⟩, 4) := ⟨⟨by decide +kernel, by decide +kernel⟩, List.mem_of_getElem? (i := 26) (by decide +kernel), List.mem_of_getElem? (i := 418) (by decide +kernel), List.mem_of_getElem? (i := 419) (by decide +kernel)⟩
theorem lw_p17 : lw_okq (⟨"RoughTables$State", "empty", "(I)I"⟩, 4) := ⟨⟨by decide +kernel, by decide +kernel⟩, List.mem_of_getElem? (i := 26) (by decide +kernel), List.mem_of_getElem? (i := 431) (by decide +kernel), List.mem_of_getElem? (i := 432) (by decide +kernel)⟩
theorem lw_p18 : lw_okq (⟨"RoughTables$State", "tablesWithThing", "(I)I"⟩, 4) := ⟨⟨by decide +kernel, by decide +kernel⟩, List.mem_of_getElem? (i := 26) (by decide +kernel), List.mem_of_getElem? (i := 538) (by decide +kernel), List.mem_of_getElem? (i := 539) (by decide +kernel)⟩
theorem lw_p19 : lw_okq (⟨"RoughTables$State", "errorSize", "(I)I"⟩, 4) := ⟨⟨by decide +kernel, by decide +kernel⟩, List.mem_of_getElem? (i := 26) (by decide +kernel), List.mem_of_getElem? (i := 574) (by decide +kernel), List.mem_of_getElem? (i := 575) (by decide +kernel)⟩
theorem lw_p20 : lw_okq (⟨"RoughTables$Trial", "faultOfNext", "(LRoughTables$Text;)I"⟩, 6) := ⟨⟨by decide +kernel, by decide +kernel⟩, List.mem_of_getElem? (i := 175) (by decide +kernel), List.mem_of_getElem? (i := 644) (by decide +kernel), List.mem_of_getElem? (i := 645) (by decide +kernel)⟩
theorem lw_p21 : lw_okq (⟨"RoughTables$Command", "numbersWanted", "()I"⟩, 3) := ⟨⟨by decide +kernel, by decide +kernel⟩, List.mem_of_getElem? (i := 157) (by decide +kernel), List.mem_of_getElem? (i := 656) (by decide +kernel), List.mem_of_getElem? (i := 657) (by decide +kernel)⟩
theorem lw_p22 : lw_okq (⟨"RoughTablesModel", "makeTable", "(II)I"⟩, 15) := ⟨⟨by decide +kernel, by decide +kernel⟩, List.mem_of_getElem? (i := 676) (by decide +kernel), List.mem_of_getElem? (i := 735) (by decide +kernel), List.mem_of_getElem? (i := 736) (by decide +kernel)⟩
theorem lw_p23 : lw_okq (⟨"RoughTablesModel", "forgets", "(I)V"⟩, 15) := ⟨⟨by decide +kernel, by decide +kernel⟩, List.mem_of_getElem? (i := 676) (by decide +kernel), List.mem_of_getElem? (i := 742) (by decide +kernel), List.mem_of_getElem? (i := 743) (by decide +kernel)⟩
theorem lw_p24 : lw_okq (⟨"RoughTablesModel", "ends", "(I)I"⟩, 15) := ⟨⟨by decide +kernel, by decide +kernel⟩, List.mem_of_getElem? (i := 676) (by decide +kernel), List.mem_of_getElem? (i := 746) (by decide +kernel), List.mem_of_getElem? (i := 747) (by decide +kernel)⟩
theorem lw_p25 : lw_okq (⟨"RoughTablesModel", "swap", "()V"⟩, 15) := ⟨⟨by decide +kernel, by decide +kernel⟩, List.mem_of_getElem? (i := 676) (by decide +kernel), List.mem_of_getElem? (i := 750) (by decide +kernel), List.mem_of_getElem? (i := 751) (by decide +kernel)⟩
theorem lw_p26 : lw_okq (⟨"RoughTablesModel", "records", "()V"⟩, 15) := ⟨⟨by decide +kernel, by decide +kernel⟩, List.mem_of_getElem? (i := 676) (by decide +kernel), List.mem_of_getElem? (i := 754) (by decide +kernel), List.mem_of_getElem? (i := 755) (by decide +kernel)⟩
theorem lw_p27 : lw_okq (⟨"RoughTablesModel", "lays", "(I)V"⟩, 15) := ⟨⟨by decide +kernel, by decide +kernel⟩, List.mem_of_getElem? (i := 676) (by decide +kernel), List.mem_of_getElem? (i := 758) (by decide +kernel), List.mem_of_getElem? (i := 759) (by decide +kernel)⟩
theorem lw_p28 : lw_okq (⟨"RoughTablesModel", "seesRow", "(IIII)I"⟩, 15) := ⟨⟨by decide +kernel, by decide +kernel⟩, List.mem_of_getElem? (i := 676) (by decide +kernel), List.mem_of_getElem? (i := 766) (by decide +kernel), List.mem_of_getElem? (i := 767) (by decide +kernel)⟩
theorem lw_p29 : lw_okq (⟨"RoughTablesModel", "isTable", "(I)Z"⟩, 15) := ⟨⟨by decide +kernel, by decide +kernel⟩, List.mem_of_getElem? (i := 676) (by decide +kernel), List.mem_of_getElem? (i := 770) (by decide +kernel), List.mem_of_getElem? (i := 771) (by decide +kernel)⟩
theorem lw_p30 : lw_okq (⟨"RoughTablesModel", "sees", "(II)V"⟩, 15) := ⟨⟨by decide +kernel, by decide +kernel⟩, List.mem_of_getElem? (i := 676) (by decide +kernel), List.mem_of_getElem? (i := 777) (by decide +kernel), List.mem_of_getElem? (i := 778) (by decide +kernel)⟩
theorem lw_p31 : lw_okq (⟨"RoughTablesModel", "added", "(II)I"⟩, 15) := ⟨⟨by decide +kernel, by decide +kernel⟩, List.mem_of_getElem? (i := 676) (by decide +kernel), List.mem_of_getElem? (i := 798) (by decide +kernel), List.mem_of_getElem? (i := 799) (by decide +kernel)⟩
def lw_privs_2 : List (MethodName × Nat) := [(⟨"RoughTables$State", "unite", "(II)I"⟩, 4), (⟨"RoughTables$State", "empty", "(I)I"⟩, 4), (⟨"RoughTables$State", "tablesWithThing", "(I)I"⟩, 4), (⟨"RoughTables$State", "errorSize", "(I)I"⟩, 4), (⟨"RoughTables$Trial", "faultOfNext", "(LRoughTables$Text;)I"⟩, 6), (⟨"RoughTables$Command", "numbersWanted", "()I"⟩, 3), (⟨"RoughTablesModel", "makeTable", "(II)I"⟩, 15), (⟨"RoughTablesModel", "forgets", "(I)V"⟩, 15), (⟨"RoughTablesModel", "ends", "(I)I"⟩, 15), (⟨"RoughTablesModel", "swap", "()V"⟩, 15), (⟨"RoughTablesModel", "records", "()V"⟩, 15), (⟨"RoughTablesModel", "lays", "(I)V"⟩, 15), (⟨"RoughTablesModel", "seesRow", "(IIII)I"⟩, 15), (⟨"RoughTablesModel", "isTable", "(I)Z"⟩, 15), (⟨"RoughTablesModel", "sees", "(II)V"⟩, 15), (⟨"RoughTablesModel", "added", "(II)I"⟩, 15)]
theorem lw_r2 : ∀ q ∈ lw_privs_2, lw_okq q := List.forall_mem_cons.mpr ⟨lw_p16, List.forall_mem_cons.mpr ⟨lw_p17, List.forall_mem_cons.mpr ⟨lw_p18, List.forall_mem_cons.mpr ⟨lw_p19, List.forall_mem_cons.mpr ⟨lw_p20, List.forall_mem_cons.mpr ⟨lw_p21, List.forall_mem_cons.mpr ⟨lw_p22, List.forall_mem_cons.mpr ⟨lw_p23, List.forall_mem_cons.mpr ⟨lw_p24, List.forall_mem_cons.mpr ⟨lw_p25, List.forall_mem_cons.mpr ⟨lw_p26, List.forall_mem_cons.mpr ⟨lw_p27, List.forall_mem_cons.mpr ⟨lw_p28, List.forall_mem_cons.mpr ⟨lw_p29, List.forall_mem_cons.mpr ⟨lw_p30, List.forall_mem_cons.mpr ⟨lw_p31, fun _ h => absurd h List.not_mem_nil⟩⟩⟩⟩⟩⟩⟩⟩⟩⟩⟩⟩⟩⟩⟩⟩
theorem lw_p32 : lw_okq (⟨"RoughTablesModel", "toldOf", "(I)I"⟩, 15) := ⟨⟨by decide +kernel, by decide +kernel⟩, List.mem_of_getElem? (i := 676) (by decide +kernel), List.mem_of_getElem? (i := 804) (by decide +kernel), List.mem_of_getElem? (i := 805) (by decide +kernel)⟩
theorem lw_p33 : lw_okq (⟨"RoughTablesModel", "mergesInto", "(II)I"⟩, 15) := ⟨⟨by decide +kernel, by decide +kernel⟩, List.mem_of_getElem? (i := 676) (by decide +kernel), List.mem_of_getElem? (i := 842) (by decide +kernel), List.mem_of_getElem? (i := 843) (by decide +kernel)⟩
theorem lw_p34 : lw_okq (⟨"RoughTablesModel", "areAlike", "(II)Z"⟩, 15) := ⟨⟨by decide +kernel, by decide +kernel⟩, List.mem_of_getElem? (i := 676) (by decide +kernel), List.mem_of_getElem? (i := 846) (by decide +kernel), List.mem_of_getElem? (i := 847) (by decide +kernel)⟩
theorem lw_p35 : lw_okq (⟨"RoughTablesModel", "resetsOne", "(I)I"⟩, 15) := ⟨⟨by decide +kernel, by decide +kernel⟩, List.mem_of_getElem? (i := 676) (by decide +kernel), List.mem_of_getElem? (i := 857) (by decide +kernel), List.mem_of_getElem? (i := 858) (by decide +kernel)⟩
theorem lw_p36 : lw_okq (⟨"RoughTablesModel", "exact", "(I)I"⟩, 15) := ⟨⟨by decide +kernel, by decide +kernel⟩, List.mem_of_getElem? (i := 676) (by decide +kernel), List.mem_of_getElem? (i := 861) (by decide +kernel), List.mem_of_getElem? (i := 862) (by decide +kernel)⟩
theorem lw_p37 : lw_okq (⟨"RoughTablesModel", "error", "(I)I"⟩, 15) := ⟨⟨by decide +kernel, by decide +kernel⟩, List.mem_of_getElem? (i := 676) (by decide +kernel), List.mem_of_getElem? (i := 869) (by decide +kernel), List.mem_of_getElem? (i := 870) (by decide +kernel)⟩
theorem lw_p38 : lw_okq (⟨"RoughTablesModel", "couldHave", "(II)Z"⟩, 15) := ⟨⟨by decide +kernel, by decide +kernel⟩, List.mem_of_getElem? (i := 676) (by decide +kernel), List.mem_of_getElem? (i := 889) (by decide +kernel), List.mem_of_getElem? (i := 890) (by decide +kernel)⟩
theorem lw_p39 : lw_okq (⟨"RoughTablesModel", "laysMix", "(I)V"⟩, 15) := ⟨⟨by decide +kernel, by decide +kernel⟩, List.mem_of_getElem? (i := 676) (by decide +kernel), List.mem_of_getElem? (i := 893) (by decide +kernel), List.mem_of_getElem? (i := 894) (by decide +kernel)⟩
theorem lw_p40 : lw_okq (⟨"RoughTablesModel", "seenBy", "(Z)I"⟩, 15) := ⟨⟨by decide +kernel, by decide +kernel⟩, List.mem_of_getElem? (i := 676) (by decide +kernel), List.mem_of_getElem? (i := 905) (by decide +kernel), List.mem_of_getElem? (i := 906) (by decide +kernel)⟩
theorem lw_p41 : lw_okq (⟨"RoughTablesModel", "rightOnes", "()I"⟩, 15) := ⟨⟨by decide +kernel, by decide +kernel⟩, List.mem_of_getElem? (i := 676) (by decide +kernel), List.mem_of_getElem? (i := 909) (by decide +kernel), List.mem_of_getElem? (i := 910) (by decide +kernel)⟩
theorem lw_p42 : lw_okq (⟨"RoughTablesModel", "amount", "(I)I"⟩, 15) := ⟨⟨by decide +kernel, by decide +kernel⟩, List.mem_of_getElem? (i := 676) (by decide +kernel), List.mem_of_getElem? (i := 931) (by decide +kernel), List.mem_of_getElem? (i := 932) (by decide +kernel)⟩
theorem lw_p43 : lw_okq (⟨"RoughTablesModel", "seenByBoth", "(III)I"⟩, 15) := ⟨⟨by decide +kernel, by decide +kernel⟩, List.mem_of_getElem? (i := 676) (by decide +kernel), List.mem_of_getElem? (i := 947) (by decide +kernel), List.mem_of_getElem? (i := 948) (by decide +kernel)⟩
theorem lw_p44 : lw_okq (⟨"RoughTablesModel", "toldOfBoth", "(II)I"⟩, 15) := ⟨⟨by decide +kernel, by decide +kernel⟩, List.mem_of_getElem? (i := 676) (by decide +kernel), List.mem_of_getElem? (i := 951) (by decide +kernel), List.mem_of_getElem? (i := 952) (by decide +kernel)⟩
theorem lw_p45 : lw_okq (⟨"RoughTablesModel", "brings", "(I)V"⟩, 15) := ⟨⟨by decide +kernel, by decide +kernel⟩, List.mem_of_getElem? (i := 676) (by decide +kernel), List.mem_of_getElem? (i := 959) (by decide +kernel), List.mem_of_getElem? (i := 960) (by decide +kernel)⟩
theorem lw_p46 : lw_okq (⟨"RoughTablesModel", "does", "()I"⟩, 15) := ⟨⟨by decide +kernel, by decide +kernel⟩, List.mem_of_getElem? (i := 676) (by decide +kernel), List.mem_of_getElem? (i := 975) (by decide +kernel), List.mem_of_getElem? (i := 976) (by decide +kernel)⟩
theorem lw_p47 : lw_okq (⟨"RoughTablesModel", "command", "()I"⟩, 15) := ⟨⟨by decide +kernel, by decide +kernel⟩, List.mem_of_getElem? (i := 676) (by decide +kernel), List.mem_of_getElem? (i := 979) (by decide +kernel), List.mem_of_getElem? (i := 980) (by decide +kernel)⟩
def lw_privs_3 : List (MethodName × Nat) := [(⟨"RoughTablesModel", "toldOf", "(I)I"⟩, 15), (⟨"RoughTablesModel", "mergesInto", "(II)I"⟩, 15), (⟨"RoughTablesModel", "areAlike", "(II)Z"⟩, 15), (⟨"RoughTablesModel", "resetsOne", "(I)I"⟩, 15), (⟨"RoughTablesModel", "exact", "(I)I"⟩, 15), (⟨"RoughTablesModel", "error", "(I)I"⟩, 15), (⟨"RoughTablesModel", "couldHave", "(II)Z"⟩, 15), (⟨"RoughTablesModel", "laysMix", "(I)V"⟩, 15), (⟨"RoughTablesModel", "seenBy", "(Z)I"⟩, 15), (⟨"RoughTablesModel", "rightOnes", "()I"⟩, 15), (⟨"RoughTablesModel", "amount", "(I)I"⟩, 15), (⟨"RoughTablesModel", "seenByBoth", "(III)I"⟩, 15), (⟨"RoughTablesModel", "toldOfBoth", "(II)I"⟩, 15), (⟨"RoughTablesModel", "brings", "(I)V"⟩, 15), (⟨"RoughTablesModel", "does", "()I"⟩, 15), (⟨"RoughTablesModel", "command", "()I"⟩, 15)]
theorem lw_r3 : ∀ q ∈ lw_privs_3, lw_okq q := List.forall_mem_cons.mpr ⟨lw_p32, List.forall_mem_cons.mpr ⟨lw_p33, List.forall_mem_cons.mpr ⟨lw_p34, List.forall_mem_cons.mpr ⟨lw_p35, List.forall_mem_cons.mpr ⟨lw_p36, List.forall_mem_cons.mpr ⟨lw_p37, List.forall_mem_cons.mpr ⟨lw_p38, List.forall_mem_cons.mpr ⟨lw_p39, List.forall_mem_cons.mpr ⟨lw_p40, List.forall_mem_cons.mpr ⟨lw_p41, List.forall_mem_cons.mpr ⟨lw_p42, List.forall_mem_cons.mpr ⟨lw_p43, List.forall_mem_cons.mpr ⟨lw_p44, List.forall_mem_cons.mpr ⟨lw_p45, List.forall_mem_cons.mpr ⟨lw_p46, List.forall_mem_cons.mpr ⟨lw_p47, fun _ h => absurd h List.not_mem_nil⟩⟩⟩⟩⟩⟩⟩⟩⟩⟩⟩⟩⟩⟩⟩⟩
theorem lw_p48 : lw_okq (⟨"RoughTablesModel", "here", "()I"⟩, 15) := ⟨⟨by decide +kernel, by decide +kernel⟩, List.mem_of_getElem? (i := 676) (by decide +kernel), List.mem_of_getElem? (i := 983) (by decide +kernel), List.mem_of_getElem? (i := 984) (by decide +kernel)⟩
theorem lw_p49 : lw_okq (⟨"RoughTablesModel", "number", "(I)I"⟩, 15) := ⟨⟨by decide +kernel, by decide +kernel⟩, List.mem_of_getElem? (i := 676) (by decide +kernel), List.mem_of_getElem? (i := 987) (by decide +kernel), List.mem_of_getElem? (i := 988) (by decide +kernel)⟩
theorem lw_p50 : lw_okq (⟨"RoughTablesModel", "must", "(I)V"⟩, 15) := ⟨⟨by decide +kernel, by decide +kernel⟩, List.mem_of_getElem? (i := 676) (by decide +kernel), List.mem_of_getElem? (i := 991) (by decide +kernel), List.mem_of_getElem? (i := 992) (by decide +kernel)⟩
def lw_privs_4 : List (MethodName × Nat) := [(⟨"RoughTablesModel", "here", "()I"⟩, 15), (⟨"RoughTablesModel", "number", "(I)I"⟩, 15), (⟨"RoughTablesModel", "must", "(I)V"⟩, 15)]
theorem lw_r4 : ∀ q ∈ lw_privs_4, lw_okq q := List.forall_mem_cons.mpr ⟨lw_p48, List.forall_mem_cons.mpr ⟨lw_p49, List.forall_mem_cons.mpr ⟨lw_p50, fun _ h => absurd h List.not_mem_nil⟩⟩⟩
def lw_privs : List (MethodName × Nat) := lw_privs_1 ++ (lw_privs_2 ++ (lw_privs_3 ++ (lw_privs_4)))
def lw_tbl : List Cond := k2_sels lw_privs ++ tables_1
theorem lw_privs_ok : ∀ q ∈ lw_privs, lw_okq q := by
  show ∀ q ∈ lw_privs_1 ++ (lw_privs_2 ++ (lw_privs_3 ++ (lw_privs_4))), lw_okq q
  exact List.forall_mem_append.mpr ⟨lw_r1, List.forall_mem_append.mpr ⟨lw_r2, List.forall_mem_append.mpr ⟨lw_r3, lw_r4⟩⟩⟩
/-- the streams that the claim lets the run draw from -/
abbrev lw_cs : List Choice := [Jvm.Choice.named "NaN.bits"]
theorem lw_bits : nanBits ∈ lw_cs := by first | decide | exact List.mem_cons_self | simp [lw_cs, nanBits]
-- ===== end of PART A; then your names; then what follows =====
end
section
def RX0 : String := "RoughTables$Command"
def TX0 : u_T := fun k => match k with
  | 0 => ("RoughTables$Command", "numbers", "[I", true)
  | 1 => ("RoughTables$Command", "letter", "C", false)
  | _ => ("RoughTables$Command", "end", "I", false)
def tyX0 : Nat → FieldType := fun k => match k with
  | 0 => .array .int
  | 1 => .char
  | _ => .int
abbrev wsX00 : List Cond := u_ws RX0 TX0 3
theorem nmX0 : ∀ a, a < 3 → ∀ b, b < 3 → a ≠ b → (TX0 a).2.1 ≠ (TX0 b).2.1 := by decide +kernel
theorem tyX0_ok : ∀ k, k < 3 → parseFieldDescriptor (TX0 k).2.2.1 = some (tyX0 k) := by decide +kernel
abbrev cX0_init : ByteArray := prog_2_method_1_code
def yX0_init : MethodName := ⟨RX0, "<init>", "()V"⟩
abbrev cX0_put : ByteArray := prog_2_method_2_code
def yX0_put : MethodName := ⟨RX0, "put", "(CII)V"⟩
abbrev cX0_putMore : ByteArray := prog_2_method_3_code
def yX0_putMore : MethodName := ⟨RX0, "putMore", "(II)V"⟩
abbrev cX0_numberAt : ByteArray := prog_2_method_4_code
def yX0_numberAt : MethodName := ⟨RX0, "numberAt", "(I)I"⟩
abbrev cX0_read : ByteArray := prog_2_method_5_code
def yX0_read : MethodName := ⟨RX0, "read", "(LRoughTables$Text;I)Z"⟩
abbrev cX0_numbersWanted : ByteArray := prog_2_method_6_code
def yX0_numbersWanted : MethodName := ⟨RX0, "numbersWanted", "()I"⟩
def RX1 : String := "RoughTables$History"
def TX1 : u_T := fun k => match k with
  | 0 => ("RoughTables$History", "slots", "[LRoughTables$State;", true)
  | _ => ("RoughTables$History", "size", "I", false)
def tyX1 : Nat → FieldType := fun k => match k with
  | 0 => .array (.object "RoughTables$State")
  | _ => .int
abbrev wsX10 : List Cond := u_ws RX1 TX1 2
theorem nmX1 : ∀ a, a < 2 → ∀ b, b < 2 → a ≠ b → (TX1 a).2.1 ≠ (TX1 b).2.1 := by decide +kernel
theorem tyX1_ok : ∀ k, k < 2 → parseFieldDescriptor (TX1 k).2.2.1 = some (tyX1 k) := by decide +kernel
abbrev cX1_init : ByteArray := prog_3_method_1_code
def yX1_init : MethodName := ⟨RX1, "<init>", "()V"⟩
abbrev cX1_record : ByteArray := prog_3_method_2_code
def yX1_record : MethodName := ⟨RX1, "record", "(LRoughTables$State;)V"⟩
abbrev cX1_restore : ByteArray := prog_3_method_3_code
def yX1_restore : MethodName := ⟨RX1, "restore", "(LRoughTables$State;)V"⟩
abbrev cX1_slotAt : ByteArray := prog_3_method_4_code
def yX1_slotAt : MethodName := ⟨RX1, "slotAt", "(I)LRoughTables$State;"⟩
abbrev cX1_dropOldest : ByteArray := prog_3_method_5_code
def yX1_dropOldest : MethodName := ⟨RX1, "dropOldest", "()V"⟩
def RX2 : String := "RoughTables$Log"
def TX2 : u_T := fun k => match k with
  | 0 => ("RoughTables$Log", "size", "I", false)
  | 1 => ("RoughTables$Log", "numbers", "[I", true)
  | 2 => ("RoughTables$Log", "told", "[I", true)
  | _ => ("RoughTables$Log", "exact", "[I", true)
def tyX2 : Nat → FieldType := fun k => match k with
  | 0 => .int
  | 1 => .array .int
  | 2 => .array .int
  | _ => .array .int
abbrev wsX20 : List Cond := u_ws RX2 TX2 4
theorem nmX2 : ∀ a, a < 4 → ∀ b, b < 4 → a ≠ b → (TX2 a).2.1 ≠ (TX2 b).2.1 := by decide +kernel
theorem tyX2_ok : ∀ k, k < 4 → parseFieldDescriptor (TX2 k).2.2.1 = some (tyX2 k) := by decide +kernel
abbrev cX2_init : ByteArray := prog_4_method_1_code
def yX2_init : MethodName := ⟨RX2, "<init>", "()V"⟩
abbrev cX2_write : ByteArray := prog_4_method_2_code
def yX2_write : MethodName := ⟨RX2, "write", "(III)V"⟩
abbrev cX2_entry : ByteArray := prog_4_method_3_code
def yX2_entry : MethodName := ⟨RX2, "entry", "(II)I"⟩
abbrev cX2_copyFrom : ByteArray := prog_4_method_4_code
def yX2_copyFrom : MethodName := ⟨RX2, "copyFrom", "(LRoughTables$Log;)V"⟩
def RX3 : String := "RoughTables$Sketch"
def TX3 : u_T := fun k => match k with
  | 0 => ("RoughTables$Sketch", "kind", "I", false)
  | 1 => ("RoughTables$Sketch", "seed", "I", false)
  | 2 => ("RoughTables$Sketch", "additions", "I", false)
  | 3 => ("RoughTables$Sketch", "lit", "I", false)
  | 4 => ("RoughTables$Sketch", "kept", "I", false)
  | 5 => ("RoughTables$Sketch", "hashes", "[I", true)
  | _ => ("RoughTables$Sketch", "registers", "[I", true)
def tyX3 : Nat → FieldType := fun k => match k with
  | 0 => .int
  | 1 => .int
  | 2 => .int
  | 3 => .int
  | 4 => .int
  | 5 => .array .int
  | _ => .array .int
abbrev wsX30 : List Cond := u_ws RX3 TX3 7
theorem nmX3 : ∀ a, a < 7 → ∀ b, b < 7 → a ≠ b → (TX3 a).2.1 ≠ (TX3 b).2.1 := by decide +kernel
theorem tyX3_ok : ∀ k, k < 7 → parseFieldDescriptor (TX3 k).2.2.1 = some (tyX3 k) := by decide +kernel
abbrev cX3_init : ByteArray := prog_5_method_1_code
def yX3_init : MethodName := ⟨RX3, "<init>", "()V"⟩
abbrev cX3_begin : ByteArray := prog_5_method_2_code
def yX3_begin : MethodName := ⟨RX3, "begin", "(II)V"⟩
abbrev cX3_copyFrom : ByteArray := prog_5_method_3_code
def yX3_copyFrom : MethodName := ⟨RX3, "copyFrom", "(LRoughTables$Sketch;)V"⟩
abbrev cX3_isLike : ByteArray := prog_5_method_4_code
def yX3_isLike : MethodName := ⟨RX3, "isLike", "(LRoughTables$Sketch;)Z"⟩
abbrev cX3_take : ByteArray := prog_5_method_5_code
def yX3_take : MethodName := ⟨RX3, "take", "(I)V"⟩
abbrev cX3_unite : ByteArray := prog_5_method_6_code
def yX3_unite : MethodName := ⟨RX3, "unite", "(LRoughTables$Sketch;)V"⟩
abbrev cX3_staysWith : ByteArray := prog_5_method_7_code
def yX3_staysWith : MethodName := ⟨RX3, "staysWith", "(I)Z"⟩
abbrev cX3_lowestRaising : ByteArray := prog_5_method_8_code
def yX3_lowestRaising : MethodName := ⟨RX3, "lowestRaising", "()I"⟩
abbrev cX3_bitOf : ByteArray := prog_5_method_9_code
def yX3_bitOf : MethodName := ⟨RX3, "bitOf", "(I)I"⟩
abbrev cX3_registerOf : ByteArray := prog_5_method_10_code
def yX3_registerOf : MethodName := ⟨RX3, "registerOf", "(I)I"⟩
abbrev cX3_raise : ByteArray := prog_5_method_11_code
def yX3_raise : MethodName := ⟨RX3, "raise", "(II)V"⟩
abbrev cX3_placeOf : ByteArray := prog_5_method_12_code
def yX3_placeOf : MethodName := ⟨RX3, "placeOf", "(I)I"⟩
abbrev cX3_keepHash : ByteArray := prog_5_method_13_code
def yX3_keepHash : MethodName := ⟨RX3, "keepHash", "(I)V"⟩
abbrev cX3_filledRegisters : ByteArray := prog_5_method_14_code
def yX3_filledRegisters : MethodName := ⟨RX3, "filledRegisters", "()I"⟩
abbrev cX3_low : ByteArray := prog_5_method_15_code
def yX3_low : MethodName := ⟨RX3, "low", "()I"⟩
abbrev cX3_high : ByteArray := prog_5_method_16_code
def yX3_high : MethodName := ⟨RX3, "high", "()I"⟩
abbrev cX3_rough : ByteArray := prog_5_method_17_code
def yX3_rough : MethodName := ⟨RX3, "rough", "()I"⟩
abbrev cX3_roughByHashes : ByteArray := prog_5_method_18_code
def yX3_roughByHashes : MethodName := ⟨RX3, "roughByHashes", "()I"⟩
abbrev cX3_roughByRanks : ByteArray := prog_5_method_19_code
def yX3_roughByRanks : MethodName := ⟨RX3, "roughByRanks", "()I"⟩
abbrev cX3_told : ByteArray := prog_5_method_20_code
def yX3_told : MethodName := ⟨RX3, "told", "()I"⟩
abbrev cX3_partAt : ByteArray := prog_5_method_21_code
def yX3_partAt : MethodName := ⟨RX3, "partAt", "(I)I"⟩
def RX4 : String := "RoughTables$State"
def TX4 : u_T := fun k => match k with
  | 0 => ("RoughTables$State", "tables", "[LRoughTables$Table;", true)
  | 1 => ("RoughTables$State", "log", "LRoughTables$Log;", true)
  | 2 => ("RoughTables$State", "made", "I", false)
  | _ => ("RoughTables$State", "time", "I", false)
def tyX4 : Nat → FieldType := fun k => match k with
  | 0 => .array (.object "RoughTables$Table")
  | 1 => .object "RoughTables$Log"
  | 2 => .int
  | _ => .int
abbrev wsX40 : List Cond := u_ws RX4 TX4 4
theorem nmX4 : ∀ a, a < 4 → ∀ b, b < 4 → a ≠ b → (TX4 a).2.1 ≠ (TX4 b).2.1 := by decide +kernel
theorem tyX4_ok : ∀ k, k < 4 → parseFieldDescriptor (TX4 k).2.2.1 = some (tyX4 k) := by decide +kernel
abbrev cX4_init : ByteArray := prog_6_method_1_code
def yX4_init : MethodName := ⟨RX4, "<init>", "()V"⟩
abbrev cX4_find : ByteArray := prog_6_method_2_code
def yX4_find : MethodName := ⟨RX4, "find", "(I)LRoughTables$Table;"⟩
abbrev cX4_copyFrom : ByteArray := prog_6_method_3_code
def yX4_copyFrom : MethodName := ⟨RX4, "copyFrom", "(LRoughTables$State;)V"⟩
abbrev cX4_refusalOf : ByteArray := prog_6_method_4_code
def yX4_refusalOf : MethodName := ⟨RX4, "refusalOf", "(LRoughTables$Command;)I"⟩
abbrev cX4_refusalOfTable : ByteArray := prog_6_method_5_code
def yX4_refusalOfTable : MethodName := ⟨RX4, "refusalOfTable", "(II)I"⟩
abbrev cX4_refusalOfRow : ByteArray := prog_6_method_6_code
def yX4_refusalOfRow : MethodName := ⟨RX4, "refusalOfRow", "(IIII)I"⟩
abbrev cX4_refusalOfMerge : ByteArray := prog_6_method_7_code
def yX4_refusalOfMerge : MethodName := ⟨RX4, "refusalOfMerge", "(II)I"⟩
abbrev cX4_carryOut : ByteArray := prog_6_method_8_code
def yX4_carryOut : MethodName := ⟨RX4, "carryOut", "(LRoughTables$Command;)I"⟩
abbrev cX4_makeTable : ByteArray := prog_6_method_9_code
def yX4_makeTable : MethodName := ⟨RX4, "makeTable", "(II)I"⟩
abbrev cX4_putRow : ByteArray := prog_6_method_10_code
def yX4_putRow : MethodName := ⟨RX4, "putRow", "(IIII)I"⟩
abbrev cX4_unite : ByteArray := prog_6_method_11_code
def yX4_unite : MethodName := ⟨RX4, "unite", "(II)I"⟩
abbrev cX4_empty : ByteArray := prog_6_method_12_code
def yX4_empty : MethodName := ⟨RX4, "empty", "(I)I"⟩
abbrev cX4_tablesWithThing : ByteArray := prog_6_method_13_code
def yX4_tablesWithThing : MethodName := ⟨RX4, "tablesWithThing", "(I)I"⟩
abbrev cX4_thingsOfAny : ByteArray := prog_6_method_14_code
def yX4_thingsOfAny : MethodName := ⟨RX4, "thingsOfAny", "()I"⟩
abbrev cX4_thingsOfAll : ByteArray := prog_6_method_15_code
def yX4_thingsOfAll : MethodName := ⟨RX4, "thingsOfAll", "()I"⟩
abbrev cX4_tablesWithoutError : ByteArray := prog_6_method_16_code
def yX4_tablesWithoutError : MethodName := ⟨RX4, "tablesWithoutError", "()I"⟩
abbrev cX4_placeByError : ByteArray := prog_6_method_17_code
def yX4_placeByError : MethodName := ⟨RX4, "placeByError", "(I)I"⟩
abbrev cX4_errorSize : ByteArray := prog_6_method_18_code
def yX4_errorSize : MethodName := ⟨RX4, "errorSize", "(I)I"⟩
def RX5 : String := "RoughTables$Table"
def TX5 : u_T := fun k => match k with
  | 0 => ("RoughTables$Table", "sketch", "LRoughTables$Sketch;", true)
  | 1 => ("RoughTables$Table", "times", "[I", true)
  | 2 => ("RoughTables$Table", "exact", "I", false)
  | _ => ("RoughTables$Table", "resets", "I", false)
def tyX5 : Nat → FieldType := fun k => match k with
  | 0 => .object "RoughTables$Sketch"
  | 1 => .array .int
  | 2 => .int
  | _ => .int
abbrev wsX50 : List Cond := u_ws RX5 TX5 4
theorem nmX5 : ∀ a, a < 4 → ∀ b, b < 4 → a ≠ b → (TX5 a).2.1 ≠ (TX5 b).2.1 := by decide +kernel
theorem tyX5_ok : ∀ k, k < 4 → parseFieldDescriptor (TX5 k).2.2.1 = some (tyX5 k) := by decide +kernel
abbrev cX5_init : ByteArray := prog_7_method_1_code
def yX5_init : MethodName := ⟨RX5, "<init>", "()V"⟩
abbrev cX5_begin : ByteArray := prog_7_method_2_code
def yX5_begin : MethodName := ⟨RX5, "begin", "(II)V"⟩
abbrev cX5_beginAgain : ByteArray := prog_7_method_3_code
def yX5_beginAgain : MethodName := ⟨RX5, "beginAgain", "()V"⟩
abbrev cX5_copyFrom : ByteArray := prog_7_method_4_code
def yX5_copyFrom : MethodName := ⟨RX5, "copyFrom", "(LRoughTables$Table;)V"⟩
abbrev cX5_saw : ByteArray := prog_7_method_5_code
def yX5_saw : MethodName := ⟨RX5, "saw", "(I)Z"⟩
abbrev cX5_timeOf : ByteArray := prog_7_method_6_code
def yX5_timeOf : MethodName := ⟨RX5, "timeOf", "(I)I"⟩
abbrev cX5_knowAllOf : ByteArray := prog_7_method_7_code
def yX5_knowAllOf : MethodName := ⟨RX5, "knowAllOf", "(LRoughTables$Table;)V"⟩
abbrev cX5_know : ByteArray := prog_7_method_8_code
def yX5_know : MethodName := ⟨RX5, "know", "(II)V"⟩
abbrev cX5_thingAt : ByteArray := prog_7_method_9_code
def yX5_thingAt : MethodName := ⟨RX5, "thingAt", "(I)I"⟩
abbrev cX5_sawToo : ByteArray := prog_7_method_10_code
def yX5_sawToo : MethodName := ⟨RX5, "sawToo", "(LRoughTables$Table;)I"⟩
abbrev cX5_sawEither : ByteArray := prog_7_method_11_code
def yX5_sawEither : MethodName := ⟨RX5, "sawEither", "(LRoughTables$Table;)I"⟩
abbrev cX5_error : ByteArray := prog_7_method_12_code
def yX5_error : MethodName := ⟨RX5, "error", "()I"⟩
abbrev cX5_property : ByteArray := prog_7_method_13_code
def yX5_property : MethodName := ⟨RX5, "property", "(I)I"⟩
def RX6 : String := "RoughTables$Text"
def TX6 : u_T := fun k => match k with
  | 0 => ("RoughTables$Text", "signs", "[C", true)
  | _ => ("RoughTables$Text", "length", "I", false)
def tyX6 : Nat → FieldType := fun k => match k with
  | 0 => .array .char
  | _ => .int
abbrev wsX60 : List Cond := u_ws RX6 TX6 2
theorem nmX6 : ∀ a, a < 2 → ∀ b, b < 2 → a ≠ b → (TX6 a).2.1 ≠ (TX6 b).2.1 := by decide +kernel
theorem tyX6_ok : ∀ k, k < 2 → parseFieldDescriptor (TX6 k).2.2.1 = some (tyX6 k) := by decide +kernel
abbrev cX6_init : ByteArray := prog_8_method_1_code
def yX6_init : MethodName := ⟨RX6, "<init>", "()V"⟩
abbrev cX6_append : ByteArray := prog_8_method_2_code
def yX6_append : MethodName := ⟨RX6, "append", "(C)Z"⟩
abbrev cX6_empty : ByteArray := prog_8_method_3_code
def yX6_empty : MethodName := ⟨RX6, "empty", "()I"⟩
abbrev cX6_signAt : ByteArray := prog_8_method_4_code
def yX6_signAt : MethodName := ⟨RX6, "signAt", "(I)C"⟩
abbrev cX6_digitsAt : ByteArray := prog_8_method_5_code
def yX6_digitsAt : MethodName := ⟨RX6, "digitsAt", "(I)I"⟩
abbrev cX6_numberAt : ByteArray := prog_8_method_6_code
def yX6_numberAt : MethodName := ⟨RX6, "numberAt", "(II)I"⟩
def RX7 : String := "RoughTables$Trial"
def TX7 : u_T := fun k => match k with
  | 0 => ("RoughTables$Trial", "state", "LRoughTables$State;", true)
  | 1 => ("RoughTables$Trial", "command", "LRoughTables$Command;", true)
  | 2 => ("RoughTables$Trial", "done", "I", false)
  | 3 => ("RoughTables$Trial", "at", "I", false)
  | 4 => ("RoughTables$Trial", "reason", "I", false)
  | _ => ("RoughTables$Trial", "cause", "I", false)
def tyX7 : Nat → FieldType := fun k => match k with
  | 0 => .object "RoughTables$State"
  | 1 => .object "RoughTables$Command"
  | 2 => .int
  | 3 => .int
  | 4 => .int
  | _ => .int
abbrev wsX70 : List Cond := u_ws RX7 TX7 6
theorem nmX7 : ∀ a, a < 6 → ∀ b, b < 6 → a ≠ b → (TX7 a).2.1 ≠ (TX7 b).2.1 := by decide +kernel
theorem tyX7_ok : ∀ k, k < 6 → parseFieldDescriptor (TX7 k).2.2.1 = some (tyX7 k) := by decide +kernel
abbrev cX7_init : ByteArray := prog_9_method_1_code
def yX7_init : MethodName := ⟨RX7, "<init>", "()V"⟩
abbrev cX7_run : ByteArray := prog_9_method_2_code
def yX7_run : MethodName := ⟨RX7, "run", "(LRoughTables$Text;LRoughTables$State;)V"⟩
abbrev cX7_faultOfNext : ByteArray := prog_9_method_3_code
def yX7_faultOfNext : MethodName := ⟨RX7, "faultOfNext", "(LRoughTables$Text;)I"⟩
def RX8 : String := "RoughTables"
def TX8 : u_T := fun k => match k with
  | 0 => ("RoughTables", "now", "LRoughTables$State;", true)
  | 1 => ("RoughTables", "history", "LRoughTables$History;", true)
  | 2 => ("RoughTables", "text", "LRoughTables$Text;", true)
  | 3 => ("RoughTables", "order", "LRoughTables$Command;", true)
  | 4 => ("RoughTables", "trial", "LRoughTables$Trial;", true)
  | _ => ("RoughTables", "scratch", "LRoughTables$Sketch;", true)
def tyX8 : Nat → FieldType := fun k => match k with
  | 0 => .object "RoughTables$State"
  | 1 => .object "RoughTables$History"
  | 2 => .object "RoughTables$Text"
  | 3 => .object "RoughTables$Command"
  | 4 => .object "RoughTables$Trial"
  | _ => .object "RoughTables$Sketch"
abbrev wsX80 : List Cond := u_ws RX8 TX8 6
theorem nmX8 : ∀ a, a < 6 → ∀ b, b < 6 → a ≠ b → (TX8 a).2.1 ≠ (TX8 b).2.1 := by decide +kernel
theorem tyX8_ok : ∀ k, k < 6 → parseFieldDescriptor (TX8 k).2.2.1 = some (tyX8 k) := by decide +kernel
abbrev cX8_init : ByteArray := prog_1_method_1_code
def yX8_init : MethodName := ⟨RX8, "<init>", "()V"⟩
abbrev cX8_table : ByteArray := prog_1_method_2_code
def yX8_table : MethodName := ⟨RX8, "table", "(II)I"⟩
abbrev cX8_add : ByteArray := prog_1_method_3_code
def yX8_add : MethodName := ⟨RX8, "add", "(II)I"⟩
abbrev cX8_addRow : ByteArray := prog_1_method_4_code
def yX8_addRow : MethodName := ⟨RX8, "addRow", "(IIII)I"⟩
abbrev cX8_merge : ByteArray := prog_1_method_5_code
def yX8_merge : MethodName := ⟨RX8, "merge", "(II)I"⟩
abbrev cX8_reset : ByteArray := prog_1_method_6_code
def yX8_reset : MethodName := ⟨RX8, "reset", "(I)I"⟩
abbrev cX8_change : ByteArray := prog_1_method_7_code
def yX8_change : MethodName := ⟨RX8, "change", "()I"⟩
abbrev cX8_tableOf : ByteArray := prog_1_method_8_code
def yX8_tableOf : MethodName := ⟨RX8, "tableOf", "(II)I"⟩
abbrev cX8_keptAt : ByteArray := prog_1_method_9_code
def yX8_keptAt : MethodName := ⟨RX8, "keptAt", "(II)I"⟩
abbrev cX8_sawAt : ByteArray := prog_1_method_10_code
def yX8_sawAt : MethodName := ⟨RX8, "sawAt", "(III)I"⟩
abbrev cX8_hash : ByteArray := prog_1_method_11_code
def yX8_hash : MethodName := ⟨RX8, "hash", "(II)I"⟩
abbrev cX8_has : ByteArray := prog_1_method_12_code
def yX8_has : MethodName := ⟨RX8, "has", "(III)I"⟩
abbrev cX8_logAt : ByteArray := prog_1_method_13_code
def yX8_logAt : MethodName := ⟨RX8, "logAt", "(II)I"⟩
abbrev cX8_count : ByteArray := prog_1_method_14_code
def yX8_count : MethodName := ⟨RX8, "count", "(I)I"⟩
abbrev cX8_errorBits : ByteArray := prog_1_method_15_code
def yX8_errorBits : MethodName := ⟨RX8, "errorBits", "(I)I"⟩
abbrev cX8_byError : ByteArray := prog_1_method_16_code
def yX8_byError : MethodName := ⟨RX8, "byError", "(I)I"⟩
abbrev cX8_would : ByteArray := prog_1_method_17_code
def yX8_would : MethodName := ⟨RX8, "would", "(II)I"⟩
abbrev cX8_raises : ByteArray := prog_1_method_18_code
def yX8_raises : MethodName := ⟨RX8, "raises", "(I)I"⟩
abbrev cX8_both : ByteArray := prog_1_method_19_code
def yX8_both : MethodName := ⟨RX8, "both", "(III)I"⟩
abbrev cX8_undo : ByteArray := prog_1_method_20_code
def yX8_undo : MethodName := ⟨RX8, "undo", "()I"⟩
abbrev cX8_type : ByteArray := prog_1_method_21_code
def yX8_type : MethodName := ⟨RX8, "type", "(I)I"⟩
abbrev cX8_clearText : ByteArray := prog_1_method_22_code
def yX8_clearText : MethodName := ⟨RX8, "clearText", "()I"⟩
abbrev cX8_fault : ByteArray := prog_1_method_23_code
def yX8_fault : MethodName := ⟨RX8, "fault", "(I)I"⟩
abbrev cX8_play : ByteArray := prog_1_method_24_code
def yX8_play : MethodName := ⟨RX8, "play", "()I"⟩
abbrev cX8_within : ByteArray := prog_1_method_25_code
def yX8_within : MethodName := ⟨RX8, "within", "(II)Z"⟩
abbrev cX8_isThing : ByteArray := prog_1_method_26_code
def yX8_isThing : MethodName := ⟨RX8, "isThing", "(I)Z"⟩
abbrev cX8_hashOf : ByteArray := prog_1_method_27_code
def yX8_hashOf : MethodName := ⟨RX8, "hashOf", "(II)I"⟩
abbrev cX8_rankOf : ByteArray := prog_1_method_28_code
def yX8_rankOf : MethodName := ⟨RX8, "rankOf", "(I)I"⟩
abbrev cX8_spread : ByteArray := prog_1_method_29_code
def yX8_spread : MethodName := ⟨RX8, "spread", "(II)I"⟩
abbrev cX8_bitsOfQuotient : ByteArray := prog_1_method_30_code
def yX8_bitsOfQuotient : MethodName := ⟨RX8, "bitsOfQuotient", "(II)I"⟩
def RX9 : String := "RoughTablesModel"
def TX9 : u_T := fun k => match k with
  | 0 => ("RoughTablesModel", "now", "[I", true)
  | 1 => ("RoughTablesModel", "aside", "[I", true)
  | 2 => ("RoughTablesModel", "past0", "[I", true)
  | 3 => ("RoughTablesModel", "past1", "[I", true)
  | 4 => ("RoughTablesModel", "past2", "[I", true)
  | 5 => ("RoughTablesModel", "past3", "[I", true)
  | 6 => ("RoughTablesModel", "oldest", "I", false)
  | 7 => ("RoughTablesModel", "states", "I", false)
  | 8 => ("RoughTablesModel", "mix", "[I", true)
  | 9 => ("RoughTablesModel", "text", "[I", true)
  | 10 => ("RoughTablesModel", "length", "I", false)
  | 11 => ("RoughTablesModel", "at", "I", false)
  | 12 => ("RoughTablesModel", "isForm", "Z", false)
  | 13 => ("RoughTablesModel", "reason", "I", false)
  | _ => ("RoughTablesModel", "cause", "I", false)
def tyX9 : Nat → FieldType := fun k => match k with
  | 0 => .array .int
  | 1 => .array .int
  | 2 => .array .int
  | 3 => .array .int
  | 4 => .array .int
  | 5 => .array .int
  | 6 => .int
  | 7 => .int
  | 8 => .array .int
  | 9 => .array .int
  | 10 => .int
  | 11 => .int
  | 12 => .boolean
  | 13 => .int
  | _ => .int
abbrev wsX90 : List Cond := u_ws RX9 TX9 15
theorem nmX9 : ∀ a, a < 15 → ∀ b, b < 15 → a ≠ b → (TX9 a).2.1 ≠ (TX9 b).2.1 := by decide +kernel
theorem tyX9_ok : ∀ k, k < 15 → parseFieldDescriptor (TX9 k).2.2.1 = some (tyX9 k) := by decide +kernel
abbrev cX9_init : ByteArray := prog_11_method_1_code
def yX9_init : MethodName := ⟨RX9, "<init>", "()V"⟩
abbrev cX9_in : ByteArray := prog_11_method_3_code
def yX9_in : MethodName := ⟨RX9, "in", "(III)Z"⟩
abbrev cX9_copy : ByteArray := prog_11_method_4_code
def yX9_copy : MethodName := ⟨RX9, "copy", "([I[I)V"⟩
abbrev cX9_lays : ByteArray := prog_11_method_5_code
def yX9_lays : MethodName := ⟨RX9, "lays", "(I)V"⟩
abbrev cX9_brings : ByteArray := prog_11_method_6_code
def yX9_brings : MethodName := ⟨RX9, "brings", "(I)V"⟩
abbrev cX9_records : ByteArray := prog_11_method_7_code
def yX9_records : MethodName := ⟨RX9, "records", "()V"⟩
abbrev cX9_isTable : ByteArray := prog_11_method_8_code
def yX9_isTable : MethodName := ⟨RX9, "isTable", "(I)Z"⟩
abbrev cX9_isThing : ByteArray := prog_11_method_9_code
def yX9_isThing : MethodName := ⟨RX9, "isThing", "(I)Z"⟩
abbrev cX9_hashOf : ByteArray := prog_11_method_10_code
def yX9_hashOf : MethodName := ⟨RX9, "hashOf", "(II)I"⟩
abbrev cX9_rank : ByteArray := prog_11_method_11_code
def yX9_rank : MethodName := ⟨RX9, "rank", "(I)I"⟩
abbrev cX9_keepHash : ByteArray := prog_11_method_12_code
def yX9_keepHash : MethodName := ⟨RX9, "keepHash", "([III)V"⟩
abbrev cX9_keepRegister : ByteArray := prog_11_method_13_code
def yX9_keepRegister : MethodName := ⟨RX9, "keepRegister", "([IIII)V"⟩
abbrev cX9_keeps : ByteArray := prog_11_method_14_code
def yX9_keeps : MethodName := ⟨RX9, "keeps", "([III)V"⟩
abbrev cX9_lit : ByteArray := prog_11_method_15_code
def yX9_lit : MethodName := ⟨RX9, "lit", "(I)I"⟩
abbrev cX9_filled : ByteArray := prog_11_method_16_code
def yX9_filled : MethodName := ⟨RX9, "filled", "([II)I"⟩
abbrev cX9_low : ByteArray := prog_11_method_17_code
def yX9_low : MethodName := ⟨RX9, "low", "([II)I"⟩
abbrev cX9_harmonic : ByteArray := prog_11_method_18_code
def yX9_harmonic : MethodName := ⟨RX9, "harmonic", "(II)I"⟩
abbrev cX9_byRegisters : ByteArray := prog_11_method_19_code
def yX9_byRegisters : MethodName := ⟨RX9, "byRegisters", "([II)I"⟩
abbrev cX9_rough : ByteArray := prog_11_method_20_code
def yX9_rough : MethodName := ⟨RX9, "rough", "([II)I"⟩
abbrev cX9_high : ByteArray := prog_11_method_21_code
def yX9_high : MethodName := ⟨RX9, "high", "([II)I"⟩
abbrev cX9_told : ByteArray := prog_11_method_22_code
def yX9_told : MethodName := ⟨RX9, "told", "([II)I"⟩
abbrev cX9_toldOf : ByteArray := prog_11_method_23_code
def yX9_toldOf : MethodName := ⟨RX9, "toldOf", "(I)I"⟩
abbrev cX9_exact : ByteArray := prog_11_method_24_code
def yX9_exact : MethodName := ⟨RX9, "exact", "(I)I"⟩
abbrev cX9_error : ByteArray := prog_11_method_25_code
def yX9_error : MethodName := ⟨RX9, "error", "(I)I"⟩
abbrev cX9_added : ByteArray := prog_11_method_26_code
def yX9_added : MethodName := ⟨RX9, "added", "(II)I"⟩
abbrev cX9_makeTable : ByteArray := prog_11_method_27_code
def yX9_makeTable : MethodName := ⟨RX9, "makeTable", "(II)I"⟩
abbrev cX9_forgets : ByteArray := prog_11_method_28_code
def yX9_forgets : MethodName := ⟨RX9, "forgets", "(I)V"⟩
abbrev cX9_sees : ByteArray := prog_11_method_29_code
def yX9_sees : MethodName := ⟨RX9, "sees", "(II)V"⟩
abbrev cX9_seesRow : ByteArray := prog_11_method_30_code
def yX9_seesRow : MethodName := ⟨RX9, "seesRow", "(IIII)I"⟩
abbrev cX9_mingles : ByteArray := prog_11_method_31_code
def yX9_mingles : MethodName := ⟨RX9, "mingles", "([II[II)V"⟩
abbrev cX9_areAlike : ByteArray := prog_11_method_32_code
def yX9_areAlike : MethodName := ⟨RX9, "areAlike", "(II)Z"⟩
abbrev cX9_mergesInto : ByteArray := prog_11_method_33_code
def yX9_mergesInto : MethodName := ⟨RX9, "mergesInto", "(II)I"⟩
abbrev cX9_resetsOne : ByteArray := prog_11_method_34_code
def yX9_resetsOne : MethodName := ⟨RX9, "resetsOne", "(I)I"⟩
abbrev cX9_ends : ByteArray := prog_11_method_35_code
def yX9_ends : MethodName := ⟨RX9, "ends", "(I)I"⟩
abbrev cX9_swap : ByteArray := prog_11_method_36_code
def yX9_swap : MethodName := ⟨RX9, "swap", "()V"⟩
abbrev cX9_table : ByteArray := prog_11_method_37_code
def yX9_table : MethodName := ⟨RX9, "table", "(II)I"⟩
abbrev cX9_add : ByteArray := prog_11_method_38_code
def yX9_add : MethodName := ⟨RX9, "add", "(II)I"⟩
abbrev cX9_addRow : ByteArray := prog_11_method_39_code
def yX9_addRow : MethodName := ⟨RX9, "addRow", "(IIII)I"⟩
abbrev cX9_merge : ByteArray := prog_11_method_40_code
def yX9_merge : MethodName := ⟨RX9, "merge", "(II)I"⟩
abbrev cX9_reset : ByteArray := prog_11_method_41_code
def yX9_reset : MethodName := ⟨RX9, "reset", "(I)I"⟩
abbrev cX9_tableOf : ByteArray := prog_11_method_42_code
def yX9_tableOf : MethodName := ⟨RX9, "tableOf", "(II)I"⟩
abbrev cX9_keptAt : ByteArray := prog_11_method_43_code
def yX9_keptAt : MethodName := ⟨RX9, "keptAt", "(II)I"⟩
abbrev cX9_sawAt : ByteArray := prog_11_method_44_code
def yX9_sawAt : MethodName := ⟨RX9, "sawAt", "(III)I"⟩
abbrev cX9_hash : ByteArray := prog_11_method_45_code
def yX9_hash : MethodName := ⟨RX9, "hash", "(II)I"⟩
abbrev cX9_laysMix : ByteArray := prog_11_method_46_code
def yX9_laysMix : MethodName := ⟨RX9, "laysMix", "(I)V"⟩
abbrev cX9_couldHave : ByteArray := prog_11_method_47_code
def yX9_couldHave : MethodName := ⟨RX9, "couldHave", "(II)Z"⟩
abbrev cX9_has : ByteArray := prog_11_method_48_code
def yX9_has : MethodName := ⟨RX9, "has", "(III)I"⟩
abbrev cX9_logAt : ByteArray := prog_11_method_49_code
def yX9_logAt : MethodName := ⟨RX9, "logAt", "(II)I"⟩
abbrev cX9_seenBy : ByteArray := prog_11_method_50_code
def yX9_seenBy : MethodName := ⟨RX9, "seenBy", "(Z)I"⟩
abbrev cX9_rightOnes : ByteArray := prog_11_method_51_code
def yX9_rightOnes : MethodName := ⟨RX9, "rightOnes", "()I"⟩
abbrev cX9_count : ByteArray := prog_11_method_52_code
def yX9_count : MethodName := ⟨RX9, "count", "(I)I"⟩
abbrev cX9_errorBits : ByteArray := prog_11_method_53_code
def yX9_errorBits : MethodName := ⟨RX9, "errorBits", "(I)I"⟩
abbrev cX9_amount : ByteArray := prog_11_method_54_code
def yX9_amount : MethodName := ⟨RX9, "amount", "(I)I"⟩
abbrev cX9_byError : ByteArray := prog_11_method_55_code
def yX9_byError : MethodName := ⟨RX9, "byError", "(I)I"⟩
abbrev cX9_would : ByteArray := prog_11_method_56_code
def yX9_would : MethodName := ⟨RX9, "would", "(II)I"⟩
abbrev cX9_raises : ByteArray := prog_11_method_57_code
def yX9_raises : MethodName := ⟨RX9, "raises", "(I)I"⟩
abbrev cX9_toldOfBoth : ByteArray := prog_11_method_58_code
def yX9_toldOfBoth : MethodName := ⟨RX9, "toldOfBoth", "(II)I"⟩
abbrev cX9_seenByBoth : ByteArray := prog_11_method_59_code
def yX9_seenByBoth : MethodName := ⟨RX9, "seenByBoth", "(III)I"⟩
abbrev cX9_both : ByteArray := prog_11_method_60_code
def yX9_both : MethodName := ⟨RX9, "both", "(III)I"⟩
abbrev cX9_undo : ByteArray := prog_11_method_61_code
def yX9_undo : MethodName := ⟨RX9, "undo", "()I"⟩
abbrev cX9_type : ByteArray := prog_11_method_62_code
def yX9_type : MethodName := ⟨RX9, "type", "(I)I"⟩
abbrev cX9_clearText : ByteArray := prog_11_method_63_code
def yX9_clearText : MethodName := ⟨RX9, "clearText", "()I"⟩
abbrev cX9_here : ByteArray := prog_11_method_64_code
def yX9_here : MethodName := ⟨RX9, "here", "()I"⟩
abbrev cX9_must : ByteArray := prog_11_method_65_code
def yX9_must : MethodName := ⟨RX9, "must", "(I)V"⟩
abbrev cX9_number : ByteArray := prog_11_method_66_code
def yX9_number : MethodName := ⟨RX9, "number", "(I)I"⟩
abbrev cX9_command : ByteArray := prog_11_method_67_code
def yX9_command : MethodName := ⟨RX9, "command", "()I"⟩
abbrev cX9_does : ByteArray := prog_11_method_68_code
def yX9_does : MethodName := ⟨RX9, "does", "()I"⟩
abbrev cX9_fault : ByteArray := prog_11_method_69_code
def yX9_fault : MethodName := ⟨RX9, "fault", "(I)I"⟩
abbrev cX9_play : ByteArray := prog_11_method_70_code
def yX9_play : MethodName := ⟨RX9, "play", "()I"⟩
def RJx145de : String := "java/io/Serializable"
def TJx145de : u_T := fun k => match k with
  | _ => ("", "", "", false)
def tyJx145de : Nat → FieldType := fun k => match k with
  | _ => .int
theorem nmJx145de : ∀ a, a < 0 → ∀ b, b < 0 → a ≠ b → (TJx145de a).2.1 ≠ (TJx145de b).2.1 := by decide +kernel
theorem tyJx145de_ok : ∀ k, k < 0 → parseFieldDescriptor (TJx145de k).2.2.1 = some (tyJx145de k) := by decide +kernel
def RJxb160c : String := "java/lang/Comparable"
def TJxb160c : u_T := fun k => match k with
  | _ => ("", "", "", false)
def tyJxb160c : Nat → FieldType := fun k => match k with
  | _ => .int
theorem nmJxb160c : ∀ a, a < 0 → ∀ b, b < 0 → a ≠ b → (TJxb160c a).2.1 ≠ (TJxb160c b).2.1 := by decide +kernel
theorem tyJxb160c_ok : ∀ k, k < 0 → parseFieldDescriptor (TJxb160c k).2.2.1 = some (tyJxb160c k) := by decide +kernel
def RJxf58ca : String := "java/lang/Float"
def TJxf58ca : u_T := fun k => match k with
  | _ => ("", "", "", false)
def tyJxf58ca : Nat → FieldType := fun k => match k with
  | _ => .int
theorem nmJxf58ca : ∀ a, a < 0 → ∀ b, b < 0 → a ≠ b → (TJxf58ca a).2.1 ≠ (TJxf58ca b).2.1 := by decide +kernel
theorem tyJxf58ca_ok : ∀ k, k < 0 → parseFieldDescriptor (TJxf58ca k).2.2.1 = some (tyJxf58ca k) := by decide +kernel
abbrev cJxf58ca_isNaN_12338 : ByteArray := prog_12_method_6_code
def yJxf58ca_isNaN_12338 : MethodName := ⟨RJxf58ca, "isNaN", "(F)Z"⟩
abbrev cJxf58ca_floatToIntBits_5c35a : ByteArray := prog_12_method_24_code
def yJxf58ca_floatToIntBits_5c35a : MethodName := ⟨RJxf58ca, "floatToIntBits", "(F)I"⟩
def RJ6 : String := "java/lang/Integer"
def TJ6 : u_T := fun k => match k with
  | _ => ("", "", "", false)
def tyJ6 : Nat → FieldType := fun k => match k with
  | _ => .int
theorem nmJ6 : ∀ a, a < 0 → ∀ b, b < 0 → a ≠ b → (TJ6 a).2.1 ≠ (TJ6 b).2.1 := by decide +kernel
theorem tyJ6_ok : ∀ k, k < 0 → parseFieldDescriptor (TJ6 k).2.2.1 = some (tyJ6 k) := by decide +kernel
abbrev cJ6_bitCount_0f7a4 : ByteArray := prog_13_method_49_code
def yJ6_bitCount_0f7a4 : MethodName := ⟨RJ6, "bitCount", "(I)I"⟩
def RJ9 : String := "java/lang/Math"
def TJ9 : u_T := fun k => match k with
  | _ => ("", "", "", false)
def tyJ9 : Nat → FieldType := fun k => match k with
  | _ => .int
theorem nmJ9 : ∀ a, a < 0 → ∀ b, b < 0 → a ≠ b → (TJ9 a).2.1 ≠ (TJ9 b).2.1 := by decide +kernel
theorem tyJ9_ok : ∀ k, k < 0 → parseFieldDescriptor (TJ9 k).2.2.1 = some (tyJ9 k) := by decide +kernel
abbrev cJ9_abs_0f7a4 : ByteArray := prog_14_method_59_code
def yJ9_abs_0f7a4 : MethodName := ⟨RJ9, "abs", "(I)I"⟩
abbrev cJ9_max_7cf53 : ByteArray := prog_14_method_65_code
def yJ9_max_7cf53 : MethodName := ⟨RJ9, "max", "(II)I"⟩
abbrev cJ9_min_7cf53 : ByteArray := prog_14_method_69_code
def yJ9_min_7cf53 : MethodName := ⟨RJ9, "min", "(II)I"⟩
def RJxd2413 : String := "java/lang/Number"
def TJxd2413 : u_T := fun k => match k with
  | _ => ("", "", "", false)
def tyJxd2413 : Nat → FieldType := fun k => match k with
  | _ => .int
theorem nmJxd2413 : ∀ a, a < 0 → ∀ b, b < 0 → a ≠ b → (TJxd2413 a).2.1 ≠ (TJxd2413 b).2.1 := by decide +kernel
theorem tyJxd2413_ok : ∀ k, k < 0 → parseFieldDescriptor (TJxd2413 k).2.2.1 = some (tyJxd2413 k) := by decide +kernel
def RJ10 : String := "java/lang/System"
def TJ10 : u_T := fun k => match k with
  | _ => ("", "", "", false)
def tyJ10 : Nat → FieldType := fun k => match k with
  | _ => .int
theorem nmJ10 : ∀ a, a < 0 → ∀ b, b < 0 → a ≠ b → (TJ10 a).2.1 ≠ (TJ10 b).2.1 := by decide +kernel
theorem tyJ10_ok : ∀ k, k < 0 → parseFieldDescriptor (TJ10 k).2.2.1 = some (tyJ10 k) := by decide +kernel
def RJxfd54e : String := "java/lang/constant/Constable"
def TJxfd54e : u_T := fun k => match k with
  | _ => ("", "", "", false)
def tyJxfd54e : Nat → FieldType := fun k => match k with
  | _ => .int
theorem nmJxfd54e : ∀ a, a < 0 → ∀ b, b < 0 → a ≠ b → (TJxfd54e a).2.1 ≠ (TJxfd54e b).2.1 := by decide +kernel
theorem tyJxfd54e_ok : ∀ k, k < 0 → parseFieldDescriptor (TJxfd54e k).2.2.1 = some (tyJxfd54e k) := by decide +kernel
def RJx3cf43 : String := "java/lang/constant/ConstantDesc"
def TJx3cf43 : u_T := fun k => match k with
  | _ => ("", "", "", false)
def tyJx3cf43 : Nat → FieldType := fun k => match k with
  | _ => .int
theorem nmJx3cf43 : ∀ a, a < 0 → ∀ b, b < 0 → a ≠ b → (TJx3cf43 a).2.1 ≠ (TJx3cf43 b).2.1 := by decide +kernel
theorem tyJx3cf43_ok : ∀ k, k < 0 → parseFieldDescriptor (TJx3cf43 k).2.2.1 = some (tyJx3cf43 k) := by decide +kernel
def RJ7 : String := "java/util/Arrays"
def TJ7 : u_T := fun k => match k with
  | _ => ("", "", "", false)
def tyJ7 : Nat → FieldType := fun k => match k with
  | _ => .int
theorem nmJ7 : ∀ a, a < 0 → ∀ b, b < 0 → a ≠ b → (TJ7 a).2.1 ≠ (TJ7 b).2.1 := by decide +kernel
theorem tyJ7_ok : ∀ k, k < 0 → parseFieldDescriptor (TJ7 k).2.2.1 = some (tyJ7 k) := by decide +kernel
abbrev cJ7_fill_53178 : ByteArray := prog_17_method_103_code
def yJ7_fill_53178 : MethodName := ⟨RJ7, "fill", "([II)V"⟩
def RL : String := "RoughTablesLaw"
abbrev cL_law : ByteArray := code
def yL_law : MethodName := ⟨RL, "law", "([I)Z"⟩
def wsL_law_r1 : List Cond := [Cond.classLink RL 7 RX8, Cond.instantiable RX8 6, Cond.initialized RX8, Cond.classLink RL 10 RX9, Cond.instantiable RX9 15, Cond.initialized RX9, Cond.methodLink RL 9 yX8_init, Cond.instanceMethod yX8_init, Cond.code yX8_init cX8_init 1 none, Cond.methodLink RX8 1 objectInit, Cond.instanceMethod objectInit, Cond.code objectInit ⟨#[0xb1]⟩ 1 none, Cond.classLink RX8 7 RX4, Cond.instantiable RX4 4, Cond.initialized RX4, Cond.fieldLink RX8 10 "RoughTables" "now" "LRoughTables$State;", Cond.classLink RX8 16 RX1, Cond.instantiable RX1 2, Cond.initialized RX1, Cond.fieldLink RX8 19 "RoughTables" "history" "LRoughTables$History;", Cond.classLink RX8 23 RX6, Cond.instantiable RX6 2, Cond.initialized RX6, Cond.fieldLink RX8 26 "RoughTables" "text" "LRoughTables$Text;"]
def wsL_law_r2 : List Cond := [Cond.classLink RX8 30 RX0, Cond.instantiable RX0 3, Cond.initialized RX0, Cond.fieldLink RX8 33 "RoughTables" "order" "LRoughTables$Command;", Cond.classLink RX8 37 RX7, Cond.instantiable RX7 6, Cond.initialized RX7, Cond.fieldLink RX8 40 "RoughTables" "trial" "LRoughTables$Trial;", Cond.classLink RX8 44 RX3, Cond.instantiable RX3 7, Cond.initialized RX3, Cond.fieldLink RX8 47 "RoughTables" "scratch" "LRoughTables$Sketch;", Cond.methodLink RX8 9 yX4_init, Cond.instanceMethod yX4_init, Cond.code yX4_init cX4_init 2 none, Cond.methodLink RX4 3 objectInit, Cond.classLink RX4 9 RX5, Cond.fieldLink RX4 11 "RoughTables$State" "tables" "[LRoughTables$Table;", Cond.classLink RX4 17 RX2, Cond.instantiable RX2 4, Cond.initialized RX2, Cond.fieldLink RX4 20 "RoughTables$State" "log" "LRoughTables$Log;", Cond.instantiable RX5 4, Cond.initialized RX5]
def wsL_law_r3 : List Cond := [Cond.instanceMethod yX2_init, Cond.code yX2_init cX2_init 1 none, Cond.methodLink RX2 3 objectInit, Cond.arrayClass .int, Cond.fieldLink RX2 9 "RoughTables$Log" "numbers" "[I", Cond.fieldLink RX2 15 "RoughTables$Log" "told" "[I", Cond.fieldLink RX2 18 "RoughTables$Log" "exact" "[I", Cond.instanceMethod yX5_init, Cond.code yX5_init cX5_init 1 none, Cond.methodLink RX5 3 objectInit, Cond.classLink RX5 9 RX3, Cond.fieldLink RX5 12 "RoughTables$Table" "sketch" "LRoughTables$Sketch;", Cond.fieldLink RX5 18 "RoughTables$Table" "times" "[I", Cond.instanceMethod yX3_init, Cond.code yX3_init cX3_init 1 none, Cond.methodLink RX3 3 objectInit, Cond.fieldLink RX3 9 "RoughTables$Sketch" "hashes" "[I", Cond.fieldLink RX3 15 "RoughTables$Sketch" "registers" "[I", Cond.methodLink RX8 18 yX1_init, Cond.instanceMethod yX1_init, Cond.code yX1_init cX1_init 2 none, Cond.methodLink RX1 3 objectInit, Cond.classLink RX1 9 RX4, Cond.fieldLink RX1 11 "RoughTables$History" "slots" "[LRoughTables$State;"]
def wsL_law_r4 : List Cond := [Cond.methodLink RX1 17 yX4_init, Cond.instanceMethod yX6_init, Cond.code yX6_init cX6_init 1 none, Cond.methodLink RX6 3 objectInit, Cond.arrayClass .char, Cond.fieldLink RX6 9 "RoughTables$Text" "signs" "[C", Cond.instanceMethod yX0_init, Cond.code yX0_init cX0_init 1 none, Cond.methodLink RX0 1 objectInit, Cond.fieldLink RX0 7 "RoughTables$Command" "numbers" "[I", Cond.instanceMethod yX7_init, Cond.code yX7_init cX7_init 1 none, Cond.methodLink RX7 3 objectInit, Cond.classLink RX7 9 RX4, Cond.fieldLink RX7 12 "RoughTables$Trial" "state" "LRoughTables$State;", Cond.classLink RX7 18 RX0, Cond.fieldLink RX7 21 "RoughTables$Trial" "command" "LRoughTables$Command;", Cond.methodLink RX7 11 yX4_init, Cond.methodLink RL 12 yX9_init, Cond.instanceMethod yX9_init, Cond.code yX9_init cX9_init 1 none, Cond.methodLink RX9 1 objectInit, Cond.fieldLink RX9 7 "RoughTablesModel" "now" "[I", Cond.fieldLink RX9 13 "RoughTablesModel" "aside" "[I"]
def wsL_law_r5 : List Cond := [Cond.fieldLink RX9 16 "RoughTablesModel" "past0" "[I", Cond.fieldLink RX9 19 "RoughTablesModel" "past1" "[I", Cond.fieldLink RX9 22 "RoughTablesModel" "past2" "[I", Cond.fieldLink RX9 25 "RoughTablesModel" "past3" "[I", Cond.fieldLink RX9 28 "RoughTablesModel" "mix" "[I", Cond.fieldLink RX9 31 "RoughTablesModel" "text" "[I", Cond.methodLink RL 13 yX8_table, Cond.instanceMethod yX8_table, Cond.selects RX8 yX8_table yX8_table, Cond.code yX8_table cX8_table 3 (some .int), Cond.methodLink RX8 51 yX0_put, Cond.instanceMethod yX0_put, Cond.selects RX0 yX0_put yX0_put, Cond.code yX0_put cX0_put 4 none, Cond.fieldLink RX0 13 "RoughTables$Command" "letter" "C", Cond.methodLink RX8 55 yX8_change, Cond.instanceMethod yX8_change, Cond.selects RX8 yX8_change yX8_change, Cond.code yX8_change cX8_change 2 (some .int), Cond.methodLink RX8 63 yX4_refusalOf, Cond.instanceMethod yX4_refusalOf, Cond.selects RX4 yX4_refusalOf yX4_refusalOf, Cond.code yX4_refusalOf cX4_refusalOf 4 (some .int), Cond.fieldLink RX4 49 "RoughTables$Command" "letter" "C"]
def wsL_law_r6 : List Cond := [Cond.methodLink RX4 43 yX0_numberAt, Cond.instanceMethod yX0_numberAt, Cond.selects RX0 yX0_numberAt yX0_numberAt, Cond.code yX0_numberAt cX0_numberAt 2 (some .int), Cond.methodLink RX4 53 yX4_refusalOfTable, Cond.instanceMethod yX4_refusalOfTable, Cond.selects RX4 yX4_refusalOfTable yX4_refusalOfTable, Cond.code yX4_refusalOfTable cX4_refusalOfTable 3 (some .int), Cond.fieldLink RX4 25 "RoughTables$State" "made" "I", Cond.static yX8_within, Cond.code yX8_within cX8_within 2 (some .boolean), Cond.methodLink RX4 57 yX4_refusalOfRow, Cond.instanceMethod yX4_refusalOfRow, Cond.selects RX4 yX4_refusalOfRow yX4_refusalOfRow, Cond.code yX4_refusalOfRow cX4_refusalOfRow 5 (some .int), Cond.fieldLink RX4 29 "RoughTables$State" "time" "I", Cond.methodLink RX4 36 yX4_find, Cond.instanceMethod yX4_find, Cond.selects RX4 yX4_find yX4_find, Cond.code yX4_find cX4_find 2 (some (.object "RoughTables$Table")), Cond.static yX8_isThing, Cond.code yX8_isThing cX8_isThing 1 (some .boolean), Cond.methodLink RX4 61 yX4_refusalOfMerge, Cond.instanceMethod yX4_refusalOfMerge]
def wsL_law_r7 : List Cond := [Cond.selects RX4 yX4_refusalOfMerge yX4_refusalOfMerge, Cond.code yX4_refusalOfMerge cX4_refusalOfMerge 5 (some .int), Cond.fieldLink RX4 72 "RoughTables$Table" "sketch" "LRoughTables$Sketch;", Cond.methodLink RX4 76 yX3_isLike, Cond.instanceMethod yX3_isLike, Cond.selects RX3 yX3_isLike yX3_isLike, Cond.code yX3_isLike cX3_isLike 2 (some .boolean), Cond.fieldLink RX3 18 "RoughTables$Sketch" "kind" "I", Cond.fieldLink RX3 22 "RoughTables$Sketch" "seed" "I", Cond.methodLink RX8 67 yX1_record, Cond.instanceMethod yX1_record, Cond.selects RX1 yX1_record yX1_record, Cond.code yX1_record cX1_record 3 none, Cond.fieldLink RX1 18 "RoughTables$History" "size" "I", Cond.methodLink RX1 22 yX1_dropOldest, Cond.instanceMethod yX1_dropOldest, Cond.selects RX1 yX1_dropOldest yX1_dropOldest, Cond.code yX1_dropOldest cX1_dropOldest 3 none, Cond.methodLink RX1 25 yX1_slotAt, Cond.instanceMethod yX1_slotAt, Cond.selects RX1 yX1_slotAt yX1_slotAt, Cond.code yX1_slotAt cX1_slotAt 2 (some (.object "RoughTables$State")), Cond.methodLink RX1 29 yX4_copyFrom, Cond.instanceMethod yX4_copyFrom]
def wsL_law_r8 : List Cond := [Cond.selects RX4 yX4_copyFrom yX4_copyFrom, Cond.code yX4_copyFrom cX4_copyFrom 5 none, Cond.methodLink RX4 32 yX2_copyFrom, Cond.instanceMethod yX2_copyFrom, Cond.selects RX2 yX2_copyFrom yX2_copyFrom, Cond.code yX2_copyFrom cX2_copyFrom 2 none, Cond.fieldLink RX2 21 "RoughTables$Log" "size" "I", Cond.methodLink RX2 31 arraycopyName, Cond.native arraycopyName, Cond.static arraycopyName, Cond.initialized "java/lang/System", Cond.methodLink RX4 40 yX5_copyFrom, Cond.instanceMethod yX5_copyFrom, Cond.selects RX5 yX5_copyFrom yX5_copyFrom, Cond.code yX5_copyFrom cX5_copyFrom 2 none, Cond.methodLink RX5 50 arraycopyName, Cond.fieldLink RX5 32 "RoughTables$Table" "exact" "I", Cond.fieldLink RX5 36 "RoughTables$Table" "resets" "I", Cond.methodLink RX5 46 yX3_copyFrom, Cond.instanceMethod yX3_copyFrom, Cond.selects RX3 yX3_copyFrom yX3_copyFrom, Cond.code yX3_copyFrom cX3_copyFrom 2 none, Cond.fieldLink RX3 25 "RoughTables$Sketch" "additions" "I", Cond.fieldLink RX3 28 "RoughTables$Sketch" "lit" "I"]
def wsL_law_r9 : List Cond := [Cond.fieldLink RX3 31 "RoughTables$Sketch" "kept" "I", Cond.methodLink RX3 40 arraycopyName, Cond.methodLink RX8 71 yX4_carryOut, Cond.instanceMethod yX4_carryOut, Cond.selects RX4 yX4_carryOut yX4_carryOut, Cond.code yX4_carryOut cX4_carryOut 4 (some .int), Cond.methodLink RX4 82 yX4_makeTable, Cond.instanceMethod yX4_makeTable, Cond.selects RX4 yX4_makeTable yX4_makeTable, Cond.code yX4_makeTable cX4_makeTable 4 (some .int), Cond.methodLink RX4 94 Lib.Math.min.name, Cond.static Lib.Math.min.name, Cond.initialized "java/lang/Math", Cond.code Lib.Math.min.name Lib.Math.min.code 2 (some .int), Cond.methodLink RX4 99 yX5_begin, Cond.instanceMethod yX5_begin, Cond.selects RX5 yX5_begin yX5_begin, Cond.code yX5_begin cX5_begin 3 none, Cond.methodLink RX5 22 yX3_begin, Cond.instanceMethod yX3_begin, Cond.selects RX3 yX3_begin yX3_begin, Cond.code yX3_begin cX3_begin 3 none, Cond.methodLink RX3 34 yJ7_fill_53178, Cond.static yJ7_fill_53178]
def wsL_law_r10 : List Cond := [Cond.initialized RJ7, Cond.code yJ7_fill_53178 cJ7_fill_53178 4 none, Cond.methodLink RX5 26 yJ7_fill_53178, Cond.methodLink RX4 85 yX4_putRow, Cond.instanceMethod yX4_putRow, Cond.selects RX4 yX4_putRow yX4_putRow, Cond.code yX4_putRow cX4_putRow 8 (some .int), Cond.methodLink RX4 103 yX3_take, Cond.instanceMethod yX3_take, Cond.selects RX3 yX3_take yX3_take, Cond.code yX3_take cX3_take 3 none, Cond.constant RX3 50 (1000000000), Cond.methodLink RX3 51 Lib.Math.min.name, Cond.static yX8_hashOf, Cond.code yX8_hashOf cX8_hashOf 3 (some .int), Cond.constant RX8 222 (40503), Cond.constant RX8 223 (65536), Cond.methodLink RX3 56 yX3_bitOf, Cond.instanceMethod yX3_bitOf, Cond.selects RX3 yX3_bitOf yX3_bitOf, Cond.code yX3_bitOf cX3_bitOf 2 (some .int), Cond.methodLink RX3 60 yX3_keepHash, Cond.instanceMethod yX3_keepHash, Cond.selects RX3 yX3_keepHash yX3_keepHash]
def wsL_law_r11 : List Cond := [Cond.code yX3_keepHash cX3_keepHash 4 none, Cond.methodLink RX3 74 yX3_placeOf, Cond.instanceMethod yX3_placeOf, Cond.selects RX3 yX3_placeOf yX3_placeOf, Cond.code yX3_placeOf cX3_placeOf 3 (some .int), Cond.methodLink RX3 64 yX3_registerOf, Cond.instanceMethod yX3_registerOf, Cond.selects RX3 yX3_registerOf yX3_registerOf, Cond.code yX3_registerOf cX3_registerOf 2 (some .int), Cond.static yX8_rankOf, Cond.code yX8_rankOf cX8_rankOf 3 (some .int), Cond.methodLink RX3 70 yX3_raise, Cond.instanceMethod yX3_raise, Cond.selects RX3 yX3_raise yX3_raise, Cond.code yX3_raise cX3_raise 3 none, Cond.methodLink RX3 81 Lib.Math.max.name, Cond.static Lib.Math.max.name, Cond.code Lib.Math.max.name Lib.Math.max.code 2 (some .int), Cond.methodLink RX4 107 yX5_know, Cond.instanceMethod yX5_know, Cond.selects RX5 yX5_know yX5_know, Cond.code yX5_know cX5_know 3 none, Cond.methodLink RX5 67 Lib.Math.min.name, Cond.methodLink RX4 110 yX3_told]
def wsL_law_r12 : List Cond := [Cond.instanceMethod yX3_told, Cond.selects RX3 yX3_told yX3_told, Cond.code yX3_told cX3_told 1 (some .int), Cond.methodLink RX3 104 yX3_low, Cond.instanceMethod yX3_low, Cond.selects RX3 yX3_low yX3_low, Cond.code yX3_low cX3_low 1 (some .int), Cond.methodLink RX3 84 yJ6_bitCount_0f7a4, Cond.static yJ6_bitCount_0f7a4, Cond.initialized RJ6, Cond.code yJ6_bitCount_0f7a4 cJ6_bitCount_0f7a4 1 (some .int), Cond.constant RJ6 265 (1431655765), Cond.constant RJ6 266 (858993459), Cond.constant RJ6 267 (252645135), Cond.methodLink RX3 89 yX3_filledRegisters, Cond.instanceMethod yX3_filledRegisters, Cond.selects RX3 yX3_filledRegisters yX3_filledRegisters, Cond.code yX3_filledRegisters cX3_filledRegisters 6 (some .int), Cond.methodLink RX3 107 yX3_rough, Cond.instanceMethod yX3_rough, Cond.selects RX3 yX3_rough yX3_rough, Cond.code yX3_rough cX3_rough 2 (some .int), Cond.static yX8_spread, Cond.code yX8_spread cX8_spread 4 (some .int)]
def wsL_law_r13 : List Cond := [Cond.methodLink RX3 96 yX3_roughByHashes, Cond.instanceMethod yX3_roughByHashes, Cond.selects RX3 yX3_roughByHashes yX3_roughByHashes, Cond.code yX3_roughByHashes cX3_roughByHashes 2 (some .int), Cond.constant RX3 102 (458752), Cond.methodLink RX3 99 yX3_roughByRanks, Cond.instanceMethod yX3_roughByRanks, Cond.selects RX3 yX3_roughByRanks yX3_roughByRanks, Cond.code yX3_roughByRanks cX3_roughByRanks 6 (some .int), Cond.constant RX3 103 (655360), Cond.methodLink RX3 110 yX3_high, Cond.instanceMethod yX3_high, Cond.selects RX3 yX3_high yX3_high, Cond.code yX3_high cX3_high 1 (some .int), Cond.methodLink RX4 88 yX4_unite, Cond.instanceMethod yX4_unite, Cond.selects RX4 yX4_unite yX4_unite, Cond.code yX4_unite cX4_unite 5 (some .int), Cond.methodLink RX4 114 yX3_unite, Cond.instanceMethod yX3_unite, Cond.selects RX3 yX3_unite yX3_unite, Cond.code yX3_unite cX3_unite 3 none, Cond.methodLink RX4 117 yX5_knowAllOf, Cond.instanceMethod yX5_knowAllOf]
def wsL_law_r14 : List Cond := [Cond.selects RX5 yX5_knowAllOf yX5_knowAllOf, Cond.code yX5_knowAllOf cX5_knowAllOf 3 none, Cond.methodLink RX5 64 yX5_know, Cond.methodLink RX4 91 yX4_empty, Cond.instanceMethod yX4_empty, Cond.selects RX4 yX4_empty yX4_empty, Cond.code yX4_empty cX4_empty 4 (some .int), Cond.fieldLink RX4 120 "RoughTables$Table" "exact" "I", Cond.methodLink RX4 123 yX2_write, Cond.instanceMethod yX2_write, Cond.selects RX2 yX2_write yX2_write, Cond.code yX2_write cX2_write 5 none, Cond.methodLink RX2 25 Lib.Math.min.name, Cond.methodLink RX4 127 yX5_beginAgain, Cond.instanceMethod yX5_beginAgain, Cond.selects RX5 yX5_beginAgain yX5_beginAgain, Cond.code yX5_beginAgain cX5_beginAgain 2 none, Cond.fieldLink RX5 39 "RoughTables$Sketch" "kind" "I", Cond.fieldLink RX5 42 "RoughTables$Sketch" "seed" "I", Cond.methodLink RX5 45 yX5_begin, Cond.methodLink RL 17 yX9_table, Cond.instanceMethod yX9_table, Cond.selects RX9 yX9_table yX9_table, Cond.code yX9_table cX9_table 3 (some .int)]
def wsL_law_r15 : List Cond := [Cond.methodLink RX9 34 yX9_copy, Cond.static yX9_copy, Cond.code yX9_copy cX9_copy 3 none, Cond.methodLink RX9 141 yX9_makeTable, Cond.instanceMethod yX9_makeTable, Cond.selects RX9 yX9_makeTable yX9_makeTable, Cond.code yX9_makeTable cX9_makeTable 5 (some .int), Cond.methodLink RX9 49 yX9_in, Cond.static yX9_in, Cond.code yX9_in cX9_in 3 (some .boolean), Cond.methodLink RX9 104 yX9_forgets, Cond.instanceMethod yX9_forgets, Cond.selects RX9 yX9_forgets yX9_forgets, Cond.code yX9_forgets cX9_forgets 3 none, Cond.methodLink RX9 144 yX9_ends, Cond.instanceMethod yX9_ends, Cond.selects RX9 yX9_ends yX9_ends, Cond.code yX9_ends cX9_ends 3 (some .int), Cond.methodLink RX9 135 yX9_swap, Cond.instanceMethod yX9_swap, Cond.selects RX9 yX9_swap yX9_swap, Cond.code yX9_swap cX9_swap 3 none, Cond.methodLink RX9 138 yX9_records, Cond.instanceMethod yX9_records]
def wsL_law_r16 : List Cond := [Cond.selects RX9 yX9_records yX9_records, Cond.code yX9_records cX9_records 1 none, Cond.fieldLink RX9 38 "RoughTablesModel" "states" "I", Cond.fieldLink RX9 42 "RoughTablesModel" "oldest" "I", Cond.methodLink RX9 45 yX9_lays, Cond.instanceMethod yX9_lays, Cond.selects RX9 yX9_lays yX9_lays, Cond.code yX9_lays cX9_lays 2 none, Cond.methodLink RL 18 yX8_add, Cond.instanceMethod yX8_add, Cond.selects RX8 yX8_add yX8_add, Cond.code yX8_add cX8_add 3 (some .int), Cond.methodLink RL 21 yX9_add, Cond.instanceMethod yX9_add, Cond.selects RX9 yX9_add yX9_add, Cond.code yX9_add cX9_add 3 (some .int), Cond.methodLink RX9 147 yX9_seesRow, Cond.instanceMethod yX9_seesRow, Cond.selects RX9 yX9_seesRow yX9_seesRow, Cond.code yX9_seesRow cX9_seesRow 7 (some .int), Cond.methodLink RX9 116 yX9_isTable, Cond.instanceMethod yX9_isTable, Cond.selects RX9 yX9_isTable yX9_isTable, Cond.code yX9_isTable cX9_isTable 2 (some .boolean)]
def wsL_law_r17 : List Cond := [Cond.methodLink RX9 120 yX9_isThing, Cond.static yX9_isThing, Cond.code yX9_isThing cX9_isThing 1 (some .boolean), Cond.methodLink RX9 123 yX9_sees, Cond.instanceMethod yX9_sees, Cond.selects RX9 yX9_sees yX9_sees, Cond.code yX9_sees cX9_sees 5 none, Cond.methodLink RX9 107 yX9_hashOf, Cond.static yX9_hashOf, Cond.code yX9_hashOf cX9_hashOf 3 (some .int), Cond.constant RX9 53 (40503), Cond.constant RX9 54 (65536), Cond.methodLink RX9 110 yX9_keeps, Cond.static yX9_keeps, Cond.code yX9_keeps cX9_keeps 3 none, Cond.methodLink RX9 55 yX9_keepHash, Cond.static yX9_keepHash, Cond.code yX9_keepHash cX9_keepHash 7 none, Cond.methodLink RX9 59 yX9_rank, Cond.static yX9_rank, Cond.code yX9_rank cX9_rank 3 (some .int), Cond.methodLink RX9 63 yX9_keepRegister, Cond.static yX9_keepRegister, Cond.code yX9_keepRegister cX9_keepRegister 5 none]
def wsL_law_r18 : List Cond := [Cond.methodLink RX9 113 yX9_added, Cond.instanceMethod yX9_added, Cond.selects RX9 yX9_added yX9_added, Cond.code yX9_added cX9_added 5 (some .int), Cond.constantLong RX9 101 (1000000000), Cond.constant RX9 103 (1000000000), Cond.methodLink RX9 95 yX9_toldOf, Cond.instanceMethod yX9_toldOf, Cond.selects RX9 yX9_toldOf yX9_toldOf, Cond.code yX9_toldOf cX9_toldOf 2 (some .int), Cond.methodLink RX9 92 yX9_told, Cond.static yX9_told, Cond.code yX9_told cX9_told 5 (some .int), Cond.methodLink RX9 83 yX9_rough, Cond.static yX9_rough, Cond.code yX9_rough cX9_rough 2 (some .int), Cond.constant RX9 79 (458752), Cond.methodLink RX9 67 yX9_lit, Cond.static yX9_lit, Cond.code yX9_lit cX9_lit 3 (some .int), Cond.methodLink RX9 74 yX9_harmonic, Cond.static yX9_harmonic, Cond.code yX9_harmonic cX9_harmonic 4 (some .int), Cond.methodLink RX9 80 yX9_byRegisters]
def wsL_law_r19 : List Cond := [Cond.static yX9_byRegisters, Cond.code yX9_byRegisters cX9_byRegisters 5 (some .int), Cond.constant RX9 78 (655360), Cond.methodLink RX9 70 yX9_filled, Cond.static yX9_filled, Cond.code yX9_filled cX9_filled 4 (some .int), Cond.methodLink RX9 86 yX9_low, Cond.static yX9_low, Cond.code yX9_low cX9_low 3 (some .int), Cond.methodLink RX9 89 yX9_high, Cond.static yX9_high, Cond.code yX9_high cX9_high 2 (some .int), Cond.methodLink RL 22 yX8_addRow, Cond.instanceMethod yX8_addRow, Cond.selects RX8 yX8_addRow yX8_addRow, Cond.code yX8_addRow cX8_addRow 5 (some .int), Cond.methodLink RX8 59 yX0_putMore, Cond.instanceMethod yX0_putMore, Cond.selects RX0 yX0_putMore yX0_putMore, Cond.code yX0_putMore cX0_putMore 3 none, Cond.methodLink RL 26 yX9_addRow, Cond.instanceMethod yX9_addRow, Cond.selects RX9 yX9_addRow yX9_addRow, Cond.code yX9_addRow cX9_addRow 5 (some .int)]
def wsL_law_r20 : List Cond := [Cond.methodLink RL 27 yX8_merge, Cond.instanceMethod yX8_merge, Cond.selects RX8 yX8_merge yX8_merge, Cond.code yX8_merge cX8_merge 3 (some .int), Cond.methodLink RL 30 yX9_merge, Cond.instanceMethod yX9_merge, Cond.selects RX9 yX9_merge yX9_merge, Cond.code yX9_merge cX9_merge 3 (some .int), Cond.methodLink RX9 151 yX9_mergesInto, Cond.instanceMethod yX9_mergesInto, Cond.selects RX9 yX9_mergesInto yX9_mergesInto, Cond.code yX9_mergesInto cX9_mergesInto 6 (some .int), Cond.methodLink RX9 127 yX9_areAlike, Cond.instanceMethod yX9_areAlike, Cond.selects RX9 yX9_areAlike yX9_areAlike, Cond.code yX9_areAlike cX9_areAlike 3 (some .boolean), Cond.methodLink RX9 131 yX9_mingles, Cond.static yX9_mingles, Cond.code yX9_mingles cX9_mingles 5 none, Cond.methodLink RL 31 yX8_reset, Cond.instanceMethod yX8_reset, Cond.selects RX8 yX8_reset yX8_reset, Cond.code yX8_reset cX8_reset 2 (some .int), Cond.methodLink RL 35 yX9_reset]
def wsL_law_r21 : List Cond := [Cond.instanceMethod yX9_reset, Cond.selects RX9 yX9_reset yX9_reset, Cond.code yX9_reset cX9_reset 2 (some .int), Cond.methodLink RX9 154 yX9_resetsOne, Cond.instanceMethod yX9_resetsOne, Cond.selects RX9 yX9_resetsOne yX9_resetsOne, Cond.code yX9_resetsOne cX9_resetsOne 5 (some .int), Cond.methodLink RX9 98 yX9_exact, Cond.instanceMethod yX9_exact, Cond.selects RX9 yX9_exact yX9_exact, Cond.code yX9_exact cX9_exact 2 (some .int), Cond.methodLink RL 36 yX8_tableOf, Cond.instanceMethod yX8_tableOf, Cond.selects RX8 yX8_tableOf yX8_tableOf, Cond.code yX8_tableOf cX8_tableOf 4 (some .int), Cond.methodLink RX8 74 yX4_find, Cond.methodLink RX8 78 yX8_within, Cond.methodLink RX8 82 yX5_property, Cond.instanceMethod yX5_property, Cond.selects RX5 yX5_property yX5_property, Cond.code yX5_property cX5_property 2 (some .int), Cond.fieldLink RX5 90 "RoughTables$Sketch" "additions" "I", Cond.methodLink RX5 77 yX3_told, Cond.methodLink RX5 81 yX3_low]
def wsL_law_r22 : List Cond := [Cond.methodLink RX5 84 yX3_high, Cond.methodLink RX5 87 yX5_error, Cond.instanceMethod yX5_error, Cond.selects RX5 yX5_error yX5_error, Cond.code yX5_error cX5_error 1 (some .int), Cond.methodLink RX5 93 yX3_rough, Cond.methodLink RL 39 yX9_tableOf, Cond.instanceMethod yX9_tableOf, Cond.selects RX9 yX9_tableOf yX9_tableOf, Cond.code yX9_tableOf cX9_tableOf 4 (some .int), Cond.methodLink RX9 157 yX9_error, Cond.instanceMethod yX9_error, Cond.selects RX9 yX9_error yX9_error, Cond.code yX9_error cX9_error 2 (some .int), Cond.methodLink RL 40 yX8_keptAt, Cond.instanceMethod yX8_keptAt, Cond.selects RX8 yX8_keptAt yX8_keptAt, Cond.code yX8_keptAt cX8_keptAt 4 (some .int), Cond.fieldLink RX8 88 "RoughTables$Table" "sketch" "LRoughTables$Sketch;", Cond.methodLink RX8 91 yX3_partAt, Cond.instanceMethod yX3_partAt, Cond.selects RX3 yX3_partAt yX3_partAt, Cond.code yX3_partAt cX3_partAt 2 (some .int), Cond.methodLink RL 43 yX9_keptAt]
def wsL_law_r23 : List Cond := [Cond.instanceMethod yX9_keptAt, Cond.selects RX9 yX9_keptAt yX9_keptAt, Cond.code yX9_keptAt cX9_keptAt 4 (some .int), Cond.methodLink RL 44 yX8_sawAt, Cond.instanceMethod yX8_sawAt, Cond.selects RX8 yX8_sawAt yX8_sawAt, Cond.code yX8_sawAt cX8_sawAt 6 (some .int), Cond.methodLink RX8 94 yX5_thingAt, Cond.instanceMethod yX5_thingAt, Cond.selects RX5 yX5_thingAt yX5_thingAt, Cond.code yX5_thingAt cX5_thingAt 4 (some .int), Cond.methodLink RX8 97 yX5_timeOf, Cond.instanceMethod yX5_timeOf, Cond.selects RX5 yX5_timeOf yX5_timeOf, Cond.code yX5_timeOf cX5_timeOf 2 (some .int), Cond.methodLink RL 48 yX9_sawAt, Cond.instanceMethod yX9_sawAt, Cond.selects RX9 yX9_sawAt yX9_sawAt, Cond.code yX9_sawAt cX9_sawAt 7 (some .int), Cond.methodLink RL 49 yX8_hash, Cond.instanceMethod yX8_hash, Cond.selects RX8 yX8_hash yX8_hash, Cond.code yX8_hash cX8_hash 3 (some .int), Cond.methodLink RX8 100 yX8_isThing]
def wsL_law_r24 : List Cond := [Cond.methodLink RX8 104 yX8_hashOf, Cond.methodLink RL 52 yX9_hash, Cond.instanceMethod yX9_hash, Cond.selects RX9 yX9_hash yX9_hash, Cond.code yX9_hash cX9_hash 3 (some .int), Cond.methodLink RL 53 yX8_has, Cond.instanceMethod yX8_has, Cond.selects RX8 yX8_has yX8_has, Cond.code yX8_has cX8_has 6 (some .int), Cond.methodLink RX8 108 yX5_saw, Cond.instanceMethod yX5_saw, Cond.selects RX5 yX5_saw yX5_saw, Cond.code yX5_saw cX5_saw 2 (some .boolean), Cond.methodLink RX5 56 yX5_timeOf, Cond.methodLink RX8 111 yX3_staysWith, Cond.instanceMethod yX3_staysWith, Cond.selects RX3 yX3_staysWith yX3_staysWith, Cond.code yX3_staysWith cX3_staysWith 4 (some .boolean), Cond.methodLink RL 56 yX9_has, Cond.instanceMethod yX9_has, Cond.selects RX9 yX9_has yX9_has, Cond.code yX9_has cX9_has 5 (some .int), Cond.methodLink RX9 163 yX9_couldHave, Cond.instanceMethod yX9_couldHave]
def wsL_law_r25 : List Cond := [Cond.selects RX9 yX9_couldHave yX9_couldHave, Cond.code yX9_couldHave cX9_couldHave 5 (some .boolean), Cond.methodLink RX9 160 yX9_laysMix, Cond.instanceMethod yX9_laysMix, Cond.selects RX9 yX9_laysMix yX9_laysMix, Cond.code yX9_laysMix cX9_laysMix 3 none, Cond.methodLink RL 57 yX8_logAt, Cond.instanceMethod yX8_logAt, Cond.selects RX8 yX8_logAt yX8_logAt, Cond.code yX8_logAt cX8_logAt 3 (some .int), Cond.fieldLink RX8 114 "RoughTables$State" "log" "LRoughTables$Log;", Cond.methodLink RX8 118 yX2_entry, Cond.instanceMethod yX2_entry, Cond.selects RX2 yX2_entry yX2_entry, Cond.code yX2_entry cX2_entry 3 (some .int), Cond.methodLink RL 60 yX9_logAt, Cond.instanceMethod yX9_logAt, Cond.selects RX9 yX9_logAt yX9_logAt, Cond.code yX9_logAt cX9_logAt 3 (some .int), Cond.methodLink RL 61 yX8_count, Cond.instanceMethod yX8_count, Cond.selects RX8 yX8_count yX8_count, Cond.code yX8_count cX8_count 2 (some .int), Cond.fieldLink RX8 123 "RoughTables$State" "made" "I"]
def wsL_law_r26 : List Cond := [Cond.fieldLink RX8 127 "RoughTables$State" "time" "I", Cond.fieldLink RX8 136 "RoughTables$Log" "size" "I", Cond.fieldLink RX8 142 "RoughTables$History" "size" "I", Cond.fieldLink RX8 143 "RoughTables$Text" "length" "I", Cond.methodLink RX8 130 yX4_thingsOfAny, Cond.instanceMethod yX4_thingsOfAny, Cond.selects RX4 yX4_thingsOfAny yX4_thingsOfAny, Cond.code yX4_thingsOfAny cX4_thingsOfAny 3 (some .int), Cond.methodLink RX4 133 yX4_tablesWithThing, Cond.instanceMethod yX4_tablesWithThing, Cond.selects RX4 yX4_tablesWithThing yX4_tablesWithThing, Cond.code yX4_tablesWithThing cX4_tablesWithThing 5 (some .int), Cond.methodLink RX4 130 yX5_saw, Cond.methodLink RX8 133 yX4_thingsOfAll, Cond.instanceMethod yX4_thingsOfAll, Cond.selects RX4 yX4_thingsOfAll yX4_thingsOfAll, Cond.code yX4_thingsOfAll cX4_thingsOfAll 3 (some .int), Cond.methodLink RX8 139 yX4_tablesWithoutError, Cond.instanceMethod yX4_tablesWithoutError, Cond.selects RX4 yX4_tablesWithoutError yX4_tablesWithoutError, Cond.code yX4_tablesWithoutError cX4_tablesWithoutError 4 (some .int), Cond.methodLink RX4 136 yX5_error, Cond.methodLink RL 64 yX9_count, Cond.instanceMethod yX9_count]
def wsL_law_r27 : List Cond := [Cond.selects RX9 yX9_count yX9_count, Cond.code yX9_count cX9_count 2 (some .int), Cond.fieldLink RX9 174 "RoughTablesModel" "length" "I", Cond.methodLink RX9 166 yX9_seenBy, Cond.instanceMethod yX9_seenBy, Cond.selects RX9 yX9_seenBy yX9_seenBy, Cond.code yX9_seenBy cX9_seenBy 6 (some .int), Cond.methodLink RX9 170 yX9_rightOnes, Cond.instanceMethod yX9_rightOnes, Cond.selects RX9 yX9_rightOnes yX9_rightOnes, Cond.code yX9_rightOnes cX9_rightOnes 3 (some .int), Cond.methodLink RL 65 yX8_errorBits, Cond.instanceMethod yX8_errorBits, Cond.selects RX8 yX8_errorBits yX8_errorBits, Cond.code yX8_errorBits cX8_errorBits 3 (some .int), Cond.fieldLink RX8 146 "RoughTables$Table" "exact" "I", Cond.methodLink RX8 149 yX5_error, Cond.methodLink RX8 152 yX8_bitsOfQuotient, Cond.static yX8_bitsOfQuotient, Cond.code yX8_bitsOfQuotient cX8_bitsOfQuotient 9 (some .int), Cond.methodLink RX8 224 Lib.Math.abs.name, Cond.static Lib.Math.abs.name, Cond.code Lib.Math.abs.name Lib.Math.abs.code 1 (some .int), Cond.constantLong RX8 227 (2)]
def wsL_law_r28 : List Cond := [Cond.constant RX8 229 (8388608), Cond.constant RX8 230 (-2147483648), Cond.methodLink RL 68 yX9_errorBits, Cond.instanceMethod yX9_errorBits, Cond.selects RX9 yX9_errorBits yX9_errorBits, Cond.code yX9_errorBits cX9_errorBits 4 (some .int), Cond.methodLink RX9 177 yJxf58ca_floatToIntBits_5c35a, Cond.static yJxf58ca_floatToIntBits_5c35a, Cond.initialized RJxf58ca, Cond.code yJxf58ca_floatToIntBits_5c35a cJxf58ca_floatToIntBits_5c35a 1 (some .int), Cond.methodLink RJxf58ca 74 ⟨"java/lang/Float", "floatToRawIntBits", "(F)I"⟩, Cond.native ⟨"java/lang/Float", "floatToRawIntBits", "(F)I"⟩, Cond.static ⟨"java/lang/Float", "floatToRawIntBits", "(F)I"⟩, Cond.initialized "java/lang/Float", Cond.constant RJxf58ca 77 (2143289344), Cond.methodLink RJxf58ca 59 yJxf58ca_isNaN_12338, Cond.static yJxf58ca_isNaN_12338, Cond.code yJxf58ca_isNaN_12338 cJxf58ca_isNaN_12338 1 (some .boolean), Cond.methodLink RL 69 yX8_byError, Cond.instanceMethod yX8_byError, Cond.selects RX8 yX8_byError yX8_byError, Cond.code yX8_byError cX8_byError 3 (some .int), Cond.methodLink RX8 155 yX4_placeByError, Cond.instanceMethod yX4_placeByError]
def wsL_law_r29 : List Cond := [Cond.selects RX4 yX4_placeByError yX4_placeByError, Cond.code yX4_placeByError cX4_placeByError 6 (some .int), Cond.methodLink RX4 139 yX4_errorSize, Cond.instanceMethod yX4_errorSize, Cond.selects RX4 yX4_errorSize yX4_errorSize, Cond.code yX4_errorSize cX4_errorSize 3 (some .int), Cond.methodLink RX4 142 Lib.Math.abs.name, Cond.methodLink RL 72 yX9_byError, Cond.instanceMethod yX9_byError, Cond.selects RX9 yX9_byError yX9_byError, Cond.code yX9_byError cX9_byError 5 (some .int), Cond.methodLink RX9 183 yX9_amount, Cond.instanceMethod yX9_amount, Cond.selects RX9 yX9_amount yX9_amount, Cond.code yX9_amount cX9_amount 3 (some .int), Cond.methodLink RL 73 yX8_would, Cond.instanceMethod yX8_would, Cond.selects RX8 yX8_would yX8_would, Cond.code yX8_would cX8_would 4 (some .int), Cond.methodLink RX8 158 yX3_copyFrom, Cond.methodLink RX8 162 yX3_take, Cond.methodLink RX8 166 yX3_told, Cond.methodLink RL 76 yX9_would, Cond.instanceMethod yX9_would]
def wsL_law_r30 : List Cond := [Cond.selects RX9 yX9_would yX9_would, Cond.code yX9_would cX9_would 3 (some .int), Cond.methodLink RL 77 yX8_raises, Cond.instanceMethod yX8_raises, Cond.selects RX8 yX8_raises yX8_raises, Cond.code yX8_raises cX8_raises 3 (some .int), Cond.methodLink RX8 169 yX3_lowestRaising, Cond.instanceMethod yX3_lowestRaising, Cond.selects RX3 yX3_lowestRaising yX3_lowestRaising, Cond.code yX3_lowestRaising cX3_lowestRaising 2 (some .int), Cond.methodLink RX3 77 yX3_staysWith, Cond.methodLink RL 80 yX9_raises, Cond.instanceMethod yX9_raises, Cond.selects RX9 yX9_raises yX9_raises, Cond.code yX9_raises cX9_raises 3 (some .int), Cond.methodLink RL 81 yX8_both, Cond.instanceMethod yX8_both, Cond.selects RX8 yX8_both yX8_both, Cond.code yX8_both cX8_both 7 (some .int), Cond.methodLink RX8 186 Lib.Math.max.name, Cond.methodLink RX8 172 yX5_sawEither, Cond.instanceMethod yX5_sawEither, Cond.selects RX5 yX5_sawEither yX5_sawEither, Cond.code yX5_sawEither cX5_sawEither 2 (some .int)]
def wsL_law_r31 : List Cond := [Cond.methodLink RX5 73 yX5_sawToo, Cond.instanceMethod yX5_sawToo, Cond.selects RX5 yX5_sawToo yX5_sawToo, Cond.code yX5_sawToo cX5_sawToo 4 (some .int), Cond.methodLink RX8 176 yX5_sawToo, Cond.methodLink RX8 179 yX3_isLike, Cond.methodLink RX8 183 yX3_unite, Cond.methodLink RL 84 yX9_both, Cond.instanceMethod yX9_both, Cond.selects RX9 yX9_both yX9_both, Cond.code yX9_both cX9_both 6 (some .int), Cond.methodLink RX9 186 yX9_seenByBoth, Cond.instanceMethod yX9_seenByBoth, Cond.selects RX9 yX9_seenByBoth yX9_seenByBoth, Cond.code yX9_seenByBoth cX9_seenByBoth 7 (some .int), Cond.methodLink RX9 190 yX9_toldOfBoth, Cond.instanceMethod yX9_toldOfBoth, Cond.selects RX9 yX9_toldOfBoth yX9_toldOfBoth, Cond.code yX9_toldOfBoth cX9_toldOfBoth 3 (some .int), Cond.methodLink RL 85 yX8_undo, Cond.instanceMethod yX8_undo, Cond.selects RX8 yX8_undo yX8_undo, Cond.code yX8_undo cX8_undo 1 (some .int), Cond.methodLink RX8 191 yX1_restore]
def wsL_law_r32 : List Cond := [Cond.instanceMethod yX1_restore, Cond.selects RX1 yX1_restore yX1_restore, Cond.code yX1_restore cX1_restore 3 none, Cond.methodLink RL 89 yX9_undo, Cond.instanceMethod yX9_undo, Cond.selects RX9 yX9_undo yX9_undo, Cond.code yX9_undo cX9_undo 1 (some .int), Cond.methodLink RX9 193 yX9_brings, Cond.instanceMethod yX9_brings, Cond.selects RX9 yX9_brings yX9_brings, Cond.code yX9_brings cX9_brings 2 none, Cond.methodLink RL 90 yX8_type, Cond.instanceMethod yX8_type, Cond.selects RX8 yX8_type yX8_type, Cond.code yX8_type cX8_type 2 (some .int), Cond.methodLink RX8 194 yX6_append, Cond.instanceMethod yX6_append, Cond.selects RX6 yX6_append yX6_append, Cond.code yX6_append cX6_append 2 (some .boolean), Cond.fieldLink RX6 15 "RoughTables$Text" "length" "I", Cond.methodLink RL 93 yX9_type, Cond.instanceMethod yX9_type, Cond.selects RX9 yX9_type yX9_type, Cond.code yX9_type cX9_type 2 (some .int)]
def wsL_law_r33 : List Cond := [Cond.methodLink RL 94 yX8_clearText, Cond.instanceMethod yX8_clearText, Cond.selects RX8 yX8_clearText yX8_clearText, Cond.code yX8_clearText cX8_clearText 1 (some .int), Cond.methodLink RX8 198 yX6_empty, Cond.instanceMethod yX6_empty, Cond.selects RX6 yX6_empty yX6_empty, Cond.code yX6_empty cX6_empty 2 (some .int), Cond.methodLink RL 97 yX9_clearText, Cond.instanceMethod yX9_clearText, Cond.selects RX9 yX9_clearText yX9_clearText, Cond.code yX9_clearText cX9_clearText 2 (some .int), Cond.methodLink RL 98 yX8_fault, Cond.instanceMethod yX8_fault, Cond.selects RX8 yX8_fault yX8_fault, Cond.code yX8_fault cX8_fault 2 (some .int), Cond.fieldLink RX8 205 "RoughTables$Trial" "reason" "I", Cond.fieldLink RX8 208 "RoughTables$Trial" "at" "I", Cond.fieldLink RX8 211 "RoughTables$Trial" "cause" "I", Cond.methodLink RX8 201 yX7_run, Cond.instanceMethod yX7_run, Cond.selects RX7 yX7_run yX7_run, Cond.code yX7_run cX7_run 4 none, Cond.fieldLink RX7 29 "RoughTables$Trial" "done" "I"]
def wsL_law_r34 : List Cond := [Cond.fieldLink RX7 33 "RoughTables$Trial" "at" "I", Cond.fieldLink RX7 36 "RoughTables$Trial" "reason" "I", Cond.fieldLink RX7 39 "RoughTables$Trial" "cause" "I", Cond.fieldLink RX7 42 "RoughTables$Text" "length" "I", Cond.fieldLink RX7 55 "RoughTables$Command" "end" "I", Cond.methodLink RX7 25 yX4_copyFrom, Cond.methodLink RX7 47 yX7_faultOfNext, Cond.instanceMethod yX7_faultOfNext, Cond.selects RX7 yX7_faultOfNext yX7_faultOfNext, Cond.code yX7_faultOfNext cX7_faultOfNext 2 (some .int), Cond.methodLink RX7 58 yX0_read, Cond.instanceMethod yX0_read, Cond.selects RX0 yX0_read yX0_read, Cond.code yX0_read cX0_read 8 (some .boolean), Cond.fieldLink RX0 35 "RoughTables$Command" "end" "I", Cond.methodLink RX0 17 yX6_signAt, Cond.instanceMethod yX6_signAt, Cond.selects RX6 yX6_signAt yX6_signAt, Cond.code yX6_signAt cX6_signAt 2 (some .char), Cond.methodLink RX0 23 yX0_numbersWanted, Cond.instanceMethod yX0_numbersWanted, Cond.selects RX0 yX0_numbersWanted yX0_numbersWanted, Cond.code yX0_numbersWanted cX0_numbersWanted 1 (some .int), Cond.methodLink RX0 27 yX6_digitsAt]
def wsL_law_r35 : List Cond := [Cond.instanceMethod yX6_digitsAt, Cond.selects RX6 yX6_digitsAt yX6_digitsAt, Cond.code yX6_digitsAt cX6_digitsAt 3 (some .int), Cond.methodLink RX6 19 yX6_signAt, Cond.methodLink RX0 31 yX6_numberAt, Cond.instanceMethod yX6_numberAt, Cond.selects RX6 yX6_numberAt yX6_numberAt, Cond.code yX6_numberAt cX6_numberAt 5 (some .int), Cond.methodLink RX7 62 yX4_refusalOf, Cond.methodLink RX7 51 yX4_carryOut, Cond.methodLink RL 101 yX9_fault, Cond.instanceMethod yX9_fault, Cond.selects RX9 yX9_fault yX9_fault, Cond.code yX9_fault cX9_fault 3 (some .int), Cond.fieldLink RX9 215 "RoughTablesModel" "reason" "I", Cond.fieldLink RX9 218 "RoughTablesModel" "cause" "I", Cond.methodLink RX9 221 yX9_does, Cond.instanceMethod yX9_does, Cond.selects RX9 yX9_does yX9_does, Cond.code yX9_does cX9_does 4 (some .int), Cond.fieldLink RX9 196 "RoughTablesModel" "at" "I", Cond.fieldLink RX9 199 "RoughTablesModel" "isForm" "Z", Cond.methodLink RX9 212 yX9_command, Cond.instanceMethod yX9_command]
def wsL_law_r36 : List Cond := [Cond.selects RX9 yX9_command yX9_command, Cond.code yX9_command cX9_command 6 (some .int), Cond.methodLink RX9 203 yX9_here, Cond.instanceMethod yX9_here, Cond.selects RX9 yX9_here yX9_here, Cond.code yX9_here cX9_here 1 (some .int), Cond.methodLink RX9 209 yX9_number, Cond.instanceMethod yX9_number, Cond.selects RX9 yX9_number yX9_number, Cond.code yX9_number cX9_number 4 (some .int), Cond.methodLink RX9 206 yX9_must, Cond.instanceMethod yX9_must, Cond.selects RX9 yX9_must yX9_must, Cond.code yX9_must cX9_must 2 none, Cond.methodLink RL 102 yX8_play, Cond.instanceMethod yX8_play, Cond.selects RX8 yX8_play yX8_play, Cond.code yX8_play cX8_play 1 (some .int), Cond.fieldLink RX8 214 "RoughTables$Trial" "state" "LRoughTables$State;", Cond.fieldLink RX8 219 "RoughTables$Trial" "done" "I", Cond.methodLink RX8 217 yX4_copyFrom, Cond.methodLink RL 105 yX9_play, Cond.instanceMethod yX9_play, Cond.selects RX9 yX9_play yX9_play]
def wsL_law_r37 : List Cond := [Cond.code yX9_play cX9_play 2 (some .int)]
def wsL_law : List Cond := (wsL_law_r1 ++ (wsL_law_r2 ++ (wsL_law_r3 ++ (wsL_law_r4 ++ (wsL_law_r5 ++ (wsL_law_r6 ++ (wsL_law_r7 ++ (wsL_law_r8 ++ (wsL_law_r9 ++ (wsL_law_r10 ++ (wsL_law_r11 ++ (wsL_law_r12 ++ (wsL_law_r13 ++ (wsL_law_r14 ++ (wsL_law_r15 ++ (wsL_law_r16 ++ (wsL_law_r17 ++ (wsL_law_r18 ++ (wsL_law_r19 ++ (wsL_law_r20 ++ (wsL_law_r21 ++ (wsL_law_r22 ++ (wsL_law_r23 ++ (wsL_law_r24 ++ (wsL_law_r25 ++ (wsL_law_r26 ++ (wsL_law_r27 ++ (wsL_law_r28 ++ (wsL_law_r29 ++ (wsL_law_r30 ++ (wsL_law_r31 ++ (wsL_law_r32 ++ (wsL_law_r33 ++ (wsL_law_r34 ++ (wsL_law_r35 ++ (wsL_law_r36 ++ wsL_law_r37)))))))))))))))))))))))))))))))))))) ++ wsX80 ++ wsX90 ++ wsX40 ++ wsX10 ++ wsX60 ++ wsX00 ++ wsX70 ++ wsX30 ++ wsX20 ++ wsX50 ++ ([] : List Cond)
set_option maxRecDepth 20000 in
theorem inlX0 : ∀ w ∈ wsX00, w ∈ wsL_law := fun _ h => List.mem_append_left _ (List.mem_append_left _ (List.mem_append_left _ (List.mem_append_left _ (List.mem_append_left _ (List.mem_append_right _ h)))))
theorem inlX1 : ∀ w ∈ wsX10, w ∈ wsL_law := fun _ h => List.mem_append_left _ (List.mem_append_left _ (List.mem_append_left _ (List.mem_append_left _ (List.mem_append_left _ (List.mem_append_left _ (List.mem_append_left _ (List.mem_append_right _ h)))))))
theorem inlX2 : ∀ w ∈ wsX20, w ∈ wsL_law := fun _ h => List.mem_append_left _ (List.mem_append_left _ (List.mem_append_right _ h))
theorem inlX3 : ∀ w ∈ wsX30, w ∈ wsL_law := fun _ h => List.mem_append_left _ (List.mem_append_left _ (List.mem_append_left _ (List.mem_append_right _ h)))
theorem inlX4 : ∀ w ∈ wsX40, w ∈ wsL_law := fun _ h => List.mem_append_left _ (List.mem_append_left _ (List.mem_append_left _ (List.mem_append_left _ (List.mem_append_left _ (List.mem_append_left _ (List.mem_append_left _ (List.mem_append_left _ (List.mem_append_right _ h))))))))
theorem inlX5 : ∀ w ∈ wsX50, w ∈ wsL_law := fun _ h => List.mem_append_left _ (List.mem_append_right _ h)
theorem inlX6 : ∀ w ∈ wsX60, w ∈ wsL_law := fun _ h => List.mem_append_left _ (List.mem_append_left _ (List.mem_append_left _ (List.mem_append_left _ (List.mem_append_left _ (List.mem_append_left _ (List.mem_append_right _ h))))))
theorem inlX7 : ∀ w ∈ wsX70, w ∈ wsL_law := fun _ h => List.mem_append_left _ (List.mem_append_left _ (List.mem_append_left _ (List.mem_append_left _ (List.mem_append_right _ h))))
theorem inlX8 : ∀ w ∈ wsX80, w ∈ wsL_law := fun _ h => List.mem_append_left _ (List.mem_append_left _ (List.mem_append_left _ (List.mem_append_left _ (List.mem_append_left _ (List.mem_append_left _ (List.mem_append_left _ (List.mem_append_left _ (List.mem_append_left _ (List.mem_append_left _ (List.mem_append_right _ h))))))))))
theorem inlX9 : ∀ w ∈ wsX90, w ∈ wsL_law := fun _ h => List.mem_append_left _ (List.mem_append_left _ (List.mem_append_left _ (List.mem_append_left _ (List.mem_append_left _ (List.mem_append_left _ (List.mem_append_left _ (List.mem_append_left _ (List.mem_append_left _ (List.mem_append_right _ h)))))))))
abbrev vwCl : List vw_C := [(RX0, TX0, 3), (RX1, TX1, 2), (RX2, TX2, 4), (RX3, TX3, 7), (RX4, TX4, 4), (RX5, TX5, 4), (RX6, TX6, 2), (RX7, TX7, 6), (RX8, TX8, 6), (RX9, TX9, 15)]
end
section
/-! The store of the whole system (class and reference): a cell by its address; what the mirrored methods do to it; the world that holds it; own rows over it. -/
abbrev zE : Type := (Nat × vp_A) ⊕ (Nat × List Value)
abbrev zS : Type := Nat → Option zE
def zup (σ : zS) (q : Nat) (e : zE) : zS := fun j => if j = q then some e else σ j
-- what a mirrored instruction does; none: it would throw, or is outside what is held
def gI (σ : zS) (ci k q : Nat) : Option Int32 := match σ q with
  | some (.inr (c, fs)) => if c = ci then (match fs[k]? with | some (.int x) => some x | _ => none) else none
  | _ => none
def gA (σ : zS) (ci k q : Nat) : Option Nat := match σ q with
  | some (.inr (c, fs)) => if c = ci then (match fs[k]? with | some (.ref x) => some x | _ => none) else none
  | _ => none
def sV (σ : zS) (ci k q : Nat) (v : Value) : Option zS := match σ q with
  | some (.inr (c, fs)) => if c = ci ∧ k < fs.length then some (zup σ q (.inr (ci, fs.set k v))) else none
  | _ => none
def sI (σ : zS) (ci k q : Nat) (x : Int32) : Option zS := sV σ ci k q (.int x)
def sA (σ : zS) (ci k q : Nat) (x : Nat) : Option zS := sV σ ci k q (.ref x)
def aI (kd : Nat) (σ : zS) (q : Nat) (i : Int32) : Option Int32 := match σ q with
  | some (.inl (c, n, .inl f)) => if c = kd ∧ ¬ (i < 0 ∨ n ≤ i.toNatClampNeg) then some (f i.toNatClampNeg) else none
  | _ => none
def uI (kd : Nat) (σ : zS) (q : Nat) (i x : Int32) : Option zS := match σ q with
  | some (.inl (c, n, .inl f)) => if c = kd ∧ ¬ (i < 0 ∨ n ≤ i.toNatClampNeg) then some (zup σ q (.inl (kd, n, .inl (upd f i.toNatClampNeg x)))) else none
  | _ => none
def aA (kd : Nat) (σ : zS) (q : Nat) (i : Int32) : Option Nat := match σ q with
  | some (.inl (c, n, .inr (.inr (.inr (.inr f))))) => if c = kd ∧ ¬ (i < 0 ∨ n ≤ i.toNatClampNeg) then f i.toNatClampNeg else none
  | _ => none
def uA (kd ci : Nat) (σ : zS) (q : Nat) (i : Int32) (v : Nat) : Option zS := match σ q, σ v with
  | some (.inl (c, n, .inr (.inr (.inr (.inr f))))), some (.inr (c2, _)) => if c = kd ∧ c2 = ci ∧ ¬ (i < 0 ∨ n ≤ i.toNatClampNeg) then some (zup σ q (.inl (kd, n, .inr (.inr (.inr (.inr (va_up f i.toNatClampNeg (some v)))))))) else none
  | _, _ => none
def aL (kd : Nat) (σ : zS) (q : Nat) : Option Int32 := match σ q with
  | some (.inl (c, n, _)) => if c = kd then some (Int32.ofNat n) else none
  | _ => none
def isO (σ : zS) (ci q : Nat) : Option Unit := match σ q with
  | some (.inr (c, _)) => if c = ci then some () else none
  | _ => none
def cpI (σ : zS) (q0 : Nat) (sp : Int32) (q1 : Nat) (dp n : Int32) : Option zS := match σ q0, σ q1 with
  | some (.inl (c0, n0, .inl f)), some (.inl (c1, n1, .inl g)) => if c0 = 1 ∧ c1 = 1 ∧ ¬ sp < 0 ∧ ¬ dp < 0 ∧ ¬ n < 0 ∧ sp.toNatClampNeg + n.toNatClampNeg ≤ n0 ∧ dp.toNatClampNeg + n.toNatClampNeg ≤ n1 then some (zup σ q1 (.inl (1, n1, .inl (va_cpy f g sp.toNatClampNeg dp.toNatClampNeg n.toNatClampNeg)))) else none
  | _, _ => none
def ckC (x : Int32) : Option Int32 := if (x.toUInt32 % 65536).toInt32 = x then some x else none
def ckZ (x : Int32) : Option Int32 := if x = 0 ∨ x = 1 then some x else none
def ckD (y : Int32) : Option Unit := if y = 0 then none else some ()
def ckDL (y : Int64) : Option Unit := if y = 0 then none else some ()
def imin (x y : Int32) : Int32 := if y < x then y else x
def imax (x y : Int32) : Int32 := if x < y then y else x
def iabs (x : Int32) : Int32 := if 0 ≤ x then x else 0 - x
theorem ob {α β : Type} {x : Option α} {f : α → Option β} {r : β} (h : x.bind f = some r) : ∃ a, x = some a ∧ f a = some r := by
  cases x with
  | none => cases h
  | some a => exact ⟨a, rfl, h⟩
theorem ckD_ne {y : Int32} {u : Unit} (h : ckD y = some u) : ¬ y = 0 := by
  unfold ckD at h
  split at h
  · cases h
  · assumption
theorem ckDL_ne {y : Int64} {u : Unit} (h : ckDL y = some u) : ¬ y = 0 := by
  unfold ckDL at h
  split at h
  · cases h
  · assumption
def ckN (r : UInt32) : Option Unit := if r &&& 0x7fffffff ≤ 0x7f800000 then some () else none
theorem ckN_n {r : UInt32} {u : Unit} (h : ckN r = some u) : vf_n32 r := by
  unfold ckN at h
  split at h
  · assumption
  · cases h
def irem (x y : Int32) : Int32 := x - x / y * y
def iushr (x y : Int32) : Int32 := (x.toUInt32 >>> (y.toUInt32 &&& Int32.toUInt32 31)).toInt32
def lshl (x : Int64) (y : Int32) : Int64 := x <<< (y.toInt64 &&& 63)
def i2c (x : Int32) : Int32 := (x.toUInt32 % 65536).toInt32
def b2 {α β γ : Type} (x : Option (α × β)) (f : α → β → Option γ) : Option γ := x.bind fun p => f p.1 p.2
def b3 {α β δ γ : Type} (x : Option (α × β × δ)) (f : α → β → δ → Option γ) : Option γ := x.bind fun p => f p.1 p.2.1 p.2.2
def b4 {α β δ ε γ : Type} (x : Option (α × β × δ × ε)) (f : α → β → δ → ε → Option γ) : Option γ := x.bind fun p => f p.1 p.2.1 p.2.2.1 p.2.2.2
def b5 {α β δ ε ζ γ : Type} (x : Option (α × β × δ × ε × ζ)) (f : α → β → δ → ε → ζ → Option γ) : Option γ := x.bind fun p => f p.1 p.2.1 p.2.2.1 p.2.2.2.1 p.2.2.2.2
theorem o2 {α β γ : Type} {x : Option (α × β)} {f : α → β → Option γ} {r : γ} (h : b2 x f = some r) : ∃ a b, x = some (a, b) ∧ f a b = some r := by
  cases x with
  | none => cases h
  | some p => exact ⟨p.1, p.2, rfl, h⟩
theorem o3 {α β δ γ : Type} {x : Option (α × β × δ)} {f : α → β → δ → Option γ} {r : γ} (h : b3 x f = some r) : ∃ a b c, x = some (a, b, c) ∧ f a b c = some r := by
  cases x with
  | none => cases h
  | some p => exact ⟨p.1, p.2.1, p.2.2, rfl, h⟩
theorem o4 {α β δ ε γ : Type} {x : Option (α × β × δ × ε)} {f : α → β → δ → ε → Option γ} {r : γ} (h : b4 x f = some r) : ∃ a b c d, x = some (a, b, c, d) ∧ f a b c d = some r := by
  cases x with
  | none => cases h
  | some p => exact ⟨p.1, p.2.1, p.2.2.1, p.2.2.2, rfl, h⟩
theorem o5 {α β δ ε ζ γ : Type} {x : Option (α × β × δ × ε × ζ)} {f : α → β → δ → ε → ζ → Option γ} {r : γ} (h : b5 x f = some r) : ∃ a b c d e, x = some (a, b, c, d, e) ∧ f a b c d e = some r := by
  cases x with
  | none => cases h
  | some p => exact ⟨p.1, p.2.1, p.2.2.1, p.2.2.2.1, p.2.2.2.2, rfl, h⟩
def bs {ρ ε γ : Type} (x : Option (ρ ⊕ ε)) (f : ρ → Option γ) (g : ε → Option γ) : Option γ := match x with
  | none => none
  | some (.inl r) => f r
  | some (.inr r) => g r
theorem obs {ρ ε γ : Type} {x : Option (ρ ⊕ ε)} {f : ρ → Option γ} {g : ε → Option γ} {r : γ} (h : bs x f g = some r) : (∃ a, x = some (.inl a) ∧ f a = some r) ∨ ∃ a, x = some (.inr a) ∧ g a = some r := by
  match x, h with
  | none, h => cases h
  | some (.inl a), h => exact Or.inl ⟨a, rfl, h⟩
  | some (.inr a), h => exact Or.inr ⟨a, rfl, h⟩
theorem oe {α β : Type} {x : Option α} {a : Option β} {f : α → Option β} {r : β} (h : Option.elim x a f = some r) : (x = none ∧ a = some r) ∨ ∃ y, x = some y ∧ f y = some r := by
  cases x with
  | none => exact Or.inl ⟨rfl, h⟩
  | some y => exact Or.inr ⟨y, rfl, h⟩
theorem zne {x k : Int32} {a : Int} (h : ¬ x = k) (hk : k.toInt = a) : x.toInt ≠ a := fun q => h (Int32.toInt_inj.mp (q.trans hk.symm))
end
section
def m_J6_bitCount_0f7a4 (N : Nat) (σ : zS) (v0 : Int32) : Option (Int32) := (some (v0 - ((iushr v0 1) &&& 1431655765))).bind fun x1 => (some ((x1 &&& 858993459) + ((iushr x1 2) &&& 858993459))).bind fun x3 => (some ((x3 + (iushr x3 4)) &&& 252645135)).bind fun x5 => (some (x5 + (iushr x5 8))).bind fun x7 => (some (x7 + (iushr x7 16))).bind fun x9 => some (x9 &&& 63)
def m_J7_fill_53178_L5 (N : Nat) : Nat → zS → Nat → Int32 → Int32 → Int32 → Option (zS)
  | 0, _, _, _, _, _ => none
  | n + 1, σ, v0, v1, v2, v3 => if v3 ≤ v2 then (some σ) else ((uI 1 σ v0 v2 v1).bind fun σ4 => (some (v2 + 1)).bind fun x6 => m_J7_fill_53178_L5 N n σ4 v0 v1 x6 v3)
def m_J7_fill_53178 (N : Nat) (σ : zS) (v0 : Nat) (v1 : Int32) : Option (zS) := (aL 1 σ v0).bind fun x1 => (m_J7_fill_53178_L5 N N σ v0 v1 0 x1).bind fun σ8 => some σ8
def m_Jxf58ca_isNaN_12338 (N : Nat) (σ : zS) (v0 : UInt32) : Option (Int32) := if (Op.cmpValue (FP.fcmp v0 v0) CmpOp.l) = 0 then (some 0) else (some 1)
def m_Jxf58ca_floatToIntBits_5c35a (N : Nat) (σ : zS) (v0 : UInt32) : Option (Int32) := (m_Jxf58ca_isNaN_12338 N σ v0).bind fun x2 => if x2 = 0 then (some v0.toInt32) else (some 2143289344)
def m_X0_numberAt (N : Nat) (σ : zS) (v0 : Nat) (v1 : Int32) : Option (Int32) := if v1 < 0 then (some 0) else ((gA σ 0 0 v0).bind fun a2 => (aL 1 σ a2).bind fun x4 => if x4 ≤ v1 then (some 0) else ((gA σ 0 0 v0).bind fun a7 => (aI 1 σ a7 v1).bind fun x9 => some x9))
def m_X0_numbersWanted (N : Nat) (σ : zS) (v0 : Nat) : Option (Int32) := (gI σ 0 1 v0).bind fun x1 => if x1 = 97 then (some 2) else (if x1 = 107 then (some 2) else (if x1 = 109 then (some 2) else (if x1 = 115 then (some 4) else (if x1 = 122 then (some 1) else (some 0)))))
def m_X0_put (N : Nat) (σ : zS) (v0 : Nat) (v1 : Int32) (v2 : Int32) (v3 : Int32) : Option (zS) := (ckC v1).bind fun x3 => (sI σ 0 1 v0 x3).bind fun σ1 => (gA σ1 0 0 v0).bind fun a5 => (uI 1 σ1 a5 0 v2).bind fun σ7 => (gA σ7 0 0 v0).bind fun a9 => (uI 1 σ7 a9 1 v3).bind fun σ11 => some σ11
def m_X0_putMore (N : Nat) (σ : zS) (v0 : Nat) (v1 : Int32) (v2 : Int32) : Option (zS) := (gA σ 0 0 v0).bind fun a1 => (uI 1 σ a1 2 v1).bind fun σ3 => (gA σ3 0 0 v0).bind fun a5 => (uI 1 σ3 a5 3 v2).bind fun σ7 => some σ7
def m_X6_signAt (N : Nat) (σ : zS) (v0 : Nat) (v1 : Int32) : Option (Int32) := if v1 < 0 then (some 0) else ((gI σ 6 1 v0).bind fun x2 => if x2 ≤ v1 then (some 0) else (if 80 ≤ v1 then (some 0) else ((gA σ 6 0 v0).bind fun a6 => (aI 0 σ a6 v1).bind fun x8 => (ckC x8).bind fun x10 => some x10)))
def m_X6_digitsAt_L2 (N : Nat) : Nat → zS → Nat → Int32 → Int32 → Option (Int32)
  | 0, _, _, _, _ => none
  | n + 1, σ, v0, v1, v2 => if 3 ≤ v2 then (some v2) else ((isO σ 6 v0).bind fun u2 => (m_X6_signAt N σ v0 (v1 + v2)).bind fun x5 => if x5 < 48 then (some v2) else ((isO σ 6 v0).bind fun u7 => (m_X6_signAt N σ v0 (v1 + v2)).bind fun x10 => if 57 < x10 then (some v2) else ((some (v2 + 1)).bind fun x12 => m_X6_digitsAt_L2 N n σ v0 v1 x12)))
def m_X6_digitsAt (N : Nat) (σ : zS) (v0 : Nat) (v1 : Int32) : Option (Int32) := (m_X6_digitsAt_L2 N N σ v0 v1 0).bind fun y14 => some y14
def m_X6_numberAt_L5 (N : Nat) : Nat → zS → Nat → Int32 → Int32 → Int32 → Int32 → Option (Int32)
  | 0, _, _, _, _, _, _ => none
  | n + 1, σ, v0, v1, v2, v3, v4 => if v2 ≤ v4 then (some v3) else ((isO σ 6 v0).bind fun u2 => (m_X6_signAt N σ v0 (v1 + v4)).bind fun x5 => (some ((v3 * 10) + (x5 - 48))).bind fun x6 => (some (v4 + 1)).bind fun x8 => m_X6_numberAt_L5 N n σ v0 v1 v2 x6 x8)
def m_X6_numberAt (N : Nat) (σ : zS) (v0 : Nat) (v1 : Int32) (v2 : Int32) : Option (Int32) := (m_X6_numberAt_L5 N N σ v0 v1 v2 0 0).bind fun y10 => some y10
def m_X0_read_L22 (N : Nat) : Nat → zS → Nat → Nat → Int32 → Int32 → Int32 → Option ((Int32 × zS) ⊕ (Int32 × zS))
  | 0, _, _, _, _, _, _ => none
  | n + 1, σ, v0, v1, v3, v4, v5 => if v3 ≤ v5 then (some (.inr (v4, σ))) else ((gA σ 0 0 v0).bind fun a16 => (aL 1 σ a16).bind fun x18 => if x18 ≤ v5 then (some (.inr (v4, σ))) else ((isO σ 6 v1).bind fun u21 => (m_X6_digitsAt N σ v1 v4).bind fun x24 => (gA σ 0 0 v0).bind fun a25 => (isO σ 6 v1).bind fun u27 => (m_X6_numberAt N σ v1 v4 x24).bind fun x30 => (uI 1 σ a25 v5 x30).bind fun σ31 => (if v3 ≤ (v5 + 1) then (some 59) else (some 44)).bind fun y35 => if x24 = 0 then (some (.inl (0, σ31))) else ((isO σ31 6 v1).bind fun u37 => (m_X6_signAt N σ31 v1 (v4 + x24)).bind fun x40 => if x40 = y35 then ((some (v4 + (x24 + 1))).bind fun x42 => (some (v5 + 1)).bind fun x44 => m_X0_read_L22 N n σ31 v0 v1 v3 x42 x44) else (some (.inl (0, σ31))))))
def m_X0_read (N : Nat) (σ : zS) (v0 : Nat) (v1 : Nat) (v2 : Int32) : Option (Int32 × zS) := (isO σ 6 v1).bind fun u1 => (m_X6_signAt N σ v1 v2).bind fun x4 => (ckC x4).bind fun x7 => (sI σ 0 1 v0 x7).bind fun σ5 => (isO σ5 0 v0).bind fun u9 => (m_X0_numbersWanted N σ5 v0).bind fun x12 => (some (v2 + 1)).bind fun x13 => bs (m_X0_read_L22 N N σ5 v0 v1 x12 x13 0) (fun r => some r) fun z53 => b2 (some z53) fun y47 σ48 => (sI σ48 0 2 v0 y47).bind fun σ50 => if x12 ≤ 0 then (some (0, σ50)) else (some (1, σ50))
def m_X1_dropOldest_L9 (N : Nat) : Nat → zS → Nat → Nat → Int32 → Option (zS)
  | 0, _, _, _, _ => none
  | n + 1, σ, v0, v1, v2 => if 4 ≤ v2 then (some σ) else ((gA σ 1 0 v0).bind fun a6 => (gA σ 1 0 v0).bind fun a8 => (aA 2 σ a8 v2).bind fun a10 => (uA 2 4 σ a6 (v2 - 1) a10).bind fun σ12 => (some (v2 + 1)).bind fun x14 => m_X1_dropOldest_L9 N n σ12 v0 v1 x14)
def m_X1_dropOldest (N : Nat) (σ : zS) (v0 : Nat) : Option (zS) := (gA σ 1 0 v0).bind fun a1 => (aA 2 σ a1 0).bind fun a3 => (m_X1_dropOldest_L9 N N σ v0 a3 1).bind fun σ16 => (gA σ16 1 0 v0).bind fun a18 => (uA 2 4 σ16 a18 3 a3).bind fun σ20 => (gI σ20 1 1 v0).bind fun x22 => (sI σ20 1 1 v0 (x22 - 1)).bind fun σ24 => some σ24
def m_X1_slotAt (N : Nat) (σ : zS) (v0 : Nat) (v1 : Int32) : Option (Option Nat) := if v1 < 0 then (some none) else (if 4 ≤ v1 then (some none) else ((gA σ 1 0 v0).bind fun a3 => (aA 2 σ a3 v1).bind fun a5 => some (some a5)))
def m_X2_copyFrom (N : Nat) (σ : zS) (v0 : Nat) (v1 : Nat) : Option (zS) := (gI σ 2 0 v1).bind fun x1 => (sI σ 2 0 v0 x1).bind fun σ3 => (gA σ3 2 1 v1).bind fun a5 => (gA σ3 2 1 v0).bind fun a7 => (cpI σ3 a5 0 a7 0 8).bind fun σ9 => (gA σ9 2 2 v1).bind fun a11 => (gA σ9 2 2 v0).bind fun a13 => (cpI σ9 a11 0 a13 0 8).bind fun σ15 => (gA σ15 2 3 v1).bind fun a17 => (gA σ15 2 3 v0).bind fun a19 => (cpI σ15 a17 0 a19 0 8).bind fun σ21 => some σ21
def m_X4_find (N : Nat) (σ : zS) (v0 : Nat) (v1 : Int32) : Option (Option Nat) := if v1 < 0 then (some none) else ((gI σ 4 2 v0).bind fun x2 => if x2 ≤ v1 then (some none) else (if 6 ≤ v1 then (some none) else ((gA σ 4 0 v0).bind fun a6 => (aA 3 σ a6 v1).bind fun a8 => some (some a8))))
def m_X3_copyFrom (N : Nat) (σ : zS) (v0 : Nat) (v1 : Nat) : Option (zS) := (gI σ 3 0 v1).bind fun x1 => (sI σ 3 0 v0 x1).bind fun σ3 => (gI σ3 3 1 v1).bind fun x5 => (sI σ3 3 1 v0 x5).bind fun σ7 => (gI σ7 3 2 v1).bind fun x9 => (sI σ7 3 2 v0 x9).bind fun σ11 => (gI σ11 3 3 v1).bind fun x13 => (sI σ11 3 3 v0 x13).bind fun σ15 => (gI σ15 3 4 v1).bind fun x17 => (sI σ15 3 4 v0 x17).bind fun σ19 => (gA σ19 3 5 v1).bind fun a21 => (gA σ19 3 5 v0).bind fun a23 => (cpI σ19 a21 0 a23 0 8).bind fun σ25 => (gA σ25 3 6 v1).bind fun a27 => (gA σ25 3 6 v0).bind fun a29 => (cpI σ25 a27 0 a29 0 8).bind fun σ31 => some σ31
def m_X5_copyFrom (N : Nat) (σ : zS) (v0 : Nat) (v1 : Nat) : Option (zS) := (gA σ 5 0 v0).bind fun a1 => (gA σ 5 0 v1).bind fun a3 => (isO σ 3 a1).bind fun u5 => (m_X3_copyFrom N σ a1 a3).bind fun σ8 => (gA σ8 5 1 v1).bind fun a9 => (gA σ8 5 1 v0).bind fun a11 => (cpI σ8 a9 0 a11 0 1000).bind fun σ13 => (gI σ13 5 2 v1).bind fun x15 => (sI σ13 5 2 v0 x15).bind fun σ17 => (gI σ17 5 3 v1).bind fun x19 => (sI σ17 5 3 v0 x19).bind fun σ21 => some σ21
def m_X4_copyFrom_L29 (N : Nat) : Nat → zS → Nat → Nat → Int32 → Option (zS)
  | 0, _, _, _, _ => none
  | n + 1, σ, v0, v1, v2 => if 6 ≤ v2 then (some σ) else ((isO σ 4 v1).bind fun u18 => (m_X4_find N σ v1 v2).bind fun r21 => Option.elim r21 ((isO σ 4 v0).bind fun u23 => (m_X4_find N σ v0 v2).bind fun r26 => Option.elim r26 ((some (v2 + 1)).bind fun x28 => m_X4_copyFrom_L29 N n σ v0 v1 x28) fun a27 => (some (v2 + 1)).bind fun x30 => m_X4_copyFrom_L29 N n σ v0 v1 x30) fun a22 => (isO σ 4 v0).bind fun u32 => (m_X4_find N σ v0 v2).bind fun r35 => Option.elim r35 ((some (v2 + 1)).bind fun x37 => m_X4_copyFrom_L29 N n σ v0 v1 x37) fun a36 => (isO σ 5 a36).bind fun u39 => (m_X5_copyFrom N σ a36 a22).bind fun σ42 => (some (v2 + 1)).bind fun x43 => m_X4_copyFrom_L29 N n σ42 v0 v1 x43)
def m_X4_copyFrom (N : Nat) (σ : zS) (v0 : Nat) (v1 : Nat) : Option (zS) := (gI σ 4 2 v1).bind fun x1 => (sI σ 4 2 v0 x1).bind fun σ3 => (gI σ3 4 3 v1).bind fun x5 => (sI σ3 4 3 v0 x5).bind fun σ7 => (gA σ7 4 1 v0).bind fun a9 => (gA σ7 4 1 v1).bind fun a11 => (isO σ7 2 a9).bind fun u13 => (m_X2_copyFrom N σ7 a9 a11).bind fun σ16 => (m_X4_copyFrom_L29 N N σ16 v0 v1 0).bind fun σ45 => some σ45
def m_X1_record (N : Nat) (σ : zS) (v0 : Nat) (v1 : Nat) : Option (zS) := (gI σ 1 1 v0).bind fun x1 => (if x1 < 4 then (some σ) else ((isO σ 1 v0).bind fun u5 => (m_X1_dropOldest N σ v0).bind fun σ8 => some σ8)).bind fun σ9 => (gI σ9 1 1 v0).bind fun x10 => (isO σ9 1 v0).bind fun u12 => (m_X1_slotAt N σ9 v0 x10).bind fun r15 => Option.elim r15 (some σ9) fun a16 => (isO σ9 4 a16).bind fun u17 => (m_X4_copyFrom N σ9 a16 v1).bind fun σ20 => (gI σ20 1 1 v0).bind fun x21 => (sI σ20 1 1 v0 (x21 + 1)).bind fun σ23 => some σ23
def m_X1_restore (N : Nat) (σ : zS) (v0 : Nat) (v1 : Nat) : Option (zS) := (gI σ 1 1 v0).bind fun x1 => (isO σ 1 v0).bind fun u3 => (m_X1_slotAt N σ v0 (x1 - 1)).bind fun r6 => Option.elim r6 (some σ) fun a7 => (isO σ 4 v1).bind fun u8 => (m_X4_copyFrom N σ v1 a7).bind fun σ11 => (gI σ11 1 1 v0).bind fun x12 => (sI σ11 1 1 v0 (x12 - 1)).bind fun σ14 => some σ14
def m_X2_entry (N : Nat) (σ : zS) (v0 : Nat) (v1 : Int32) (v2 : Int32) : Option (Int32) := if v1 < 0 then (some (-4)) else ((gI σ 2 0 v0).bind fun x2 => if x2 ≤ v1 then (some (-4)) else (if v1 < 8 then (if v2 = 0 then ((gA σ 2 1 v0).bind fun a16 => (aI 1 σ a16 v1).bind fun x18 => some x18) else (if v2 = 1 then ((gA σ 2 2 v0).bind fun a12 => (aI 1 σ a12 v1).bind fun x14 => some x14) else ((gA σ 2 3 v0).bind fun a8 => (aI 1 σ a8 v1).bind fun x10 => some x10))) else (some (-4))))
def m_X2_write_L4 (N : Nat) : Nat → zS → Nat → Int32 → Int32 → Int32 → Int32 → Option (zS)
  | 0, _, _, _, _, _, _ => none
  | n + 1, σ, v0, v1, v2, v3, v4 => if v4 ≤ 0 then (some σ) else ((gA σ 2 1 v0).bind fun a2 => (gA σ 2 1 v0).bind fun a4 => (aI 1 σ a4 (v4 - 1)).bind fun x6 => (uI 1 σ a2 v4 x6).bind fun σ8 => (gA σ8 2 2 v0).bind fun a10 => (gA σ8 2 2 v0).bind fun a12 => (aI 1 σ8 a12 (v4 - 1)).bind fun x14 => (uI 1 σ8 a10 v4 x14).bind fun σ16 => (gA σ16 2 3 v0).bind fun a18 => (gA σ16 2 3 v0).bind fun a20 => (aI 1 σ16 a20 (v4 - 1)).bind fun x22 => (uI 1 σ16 a18 v4 x22).bind fun σ24 => (some (v4 + (-1))).bind fun x26 => m_X2_write_L4 N n σ24 v0 v1 v2 v3 x26)
def m_X2_write (N : Nat) (σ : zS) (v0 : Nat) (v1 : Int32) (v2 : Int32) (v3 : Int32) : Option (zS) := (m_X2_write_L4 N N σ v0 v1 v2 v3 7).bind fun σ28 => (gA σ28 2 1 v0).bind fun a30 => (uI 1 σ28 a30 0 v1).bind fun σ32 => (gA σ32 2 2 v0).bind fun a34 => (uI 1 σ32 a34 0 v2).bind fun σ36 => (gA σ36 2 3 v0).bind fun a38 => (uI 1 σ36 a38 0 v3).bind fun σ40 => (gI σ40 2 0 v0).bind fun x42 => (sI σ40 2 0 v0 (imin (x42 + 1) 8)).bind fun σ44 => some σ44
def m_X3_begin (N : Nat) (σ : zS) (v0 : Nat) (v1 : Int32) (v2 : Int32) : Option (zS) := (sI σ 3 0 v0 v1).bind fun σ1 => (sI σ1 3 1 v0 v2).bind fun σ3 => (sI σ3 3 2 v0 0).bind fun σ5 => (sI σ5 3 3 v0 0).bind fun σ7 => (sI σ7 3 4 v0 0).bind fun σ9 => (gA σ9 3 5 v0).bind fun a11 => (m_J7_fill_53178 N σ9 a11 0).bind fun σ14 => (gA σ14 3 6 v0).bind fun a15 => (m_J7_fill_53178 N σ14 a15 0).bind fun σ18 => some σ18
def m_X3_bitOf (N : Nat) (σ : zS) (v0 : Nat) (v1 : Int32) : Option (Int32) := some (1 <<< (((v1 / 2048) &&& 31) &&& 31))
def m_X3_filledRegisters_L13 (N : Nat) : Nat → zS → Int32 → Nat → Int32 → Int32 → Option (Int32)
  | 0, _, _, _, _, _ => none
  | n + 1, σ, v1, v2, v3, v4 => if v3 ≤ v4 then (some v1) else ((aI 1 σ v2 v4).bind fun x6 => (if x6 ≤ 0 then (some v1) else ((some (v1 + 1)).bind fun x10 => some x10)).bind fun y12 => (some (v4 + 1)).bind fun x13 => m_X3_filledRegisters_L13 N n σ y12 v2 v3 x13)
def m_X3_filledRegisters (N : Nat) (σ : zS) (v0 : Nat) : Option (Int32) := (gA σ 3 6 v0).bind fun a1 => (aL 1 σ a1).bind fun x3 => (m_X3_filledRegisters_L13 N N σ 0 a1 x3 0).bind fun y16 => some y16
def m_X3_high (N : Nat) (σ : zS) (v0 : Nat) : Option (Int32) := (gI σ 3 2 v0).bind fun x1 => some (imin x1 1000)
def m_X3_isLike (N : Nat) (σ : zS) (v0 : Nat) (v1 : Nat) : Option (Int32) := (gI σ 3 0 v0).bind fun x1 => (gI σ 3 0 v1).bind fun x3 => if x1 = x3 then ((gI σ 3 1 v0).bind fun x6 => (gI σ 3 1 v1).bind fun x8 => if x6 = x8 then (some 1) else (some 0)) else (some 0)
def m_X3_placeOf_L2 (N : Nat) : Nat → zS → Nat → Int32 → Int32 → Option (Int32)
  | 0, _, _, _, _ => none
  | n + 1, σ, v0, v1, v2 => (gI σ 3 4 v0).bind fun x1 => if x1 ≤ v2 then (some v2) else (if 8 ≤ v2 then (some v2) else ((gA σ 3 5 v0).bind fun a5 => (aI 1 σ a5 v2).bind fun x7 => if v1 ≤ x7 then (some v2) else ((some (v2 + 1)).bind fun x10 => m_X3_placeOf_L2 N n σ v0 v1 x10)))
def m_X3_placeOf (N : Nat) (σ : zS) (v0 : Nat) (v1 : Int32) : Option (Int32) := (m_X3_placeOf_L2 N N σ v0 v1 0).bind fun y12 => some y12
def m_X3_keepHash_L34 (N : Nat) : Nat → zS → Nat → Int32 → Int32 → Int32 → Option (zS)
  | 0, _, _, _, _, _ => none
  | n + 1, σ, v0, v1, v2, v3 => if v3 ≤ v2 then (some σ) else ((gA σ 3 5 v0).bind fun a10 => (gA σ 3 5 v0).bind fun a12 => (aI 1 σ a12 (v3 - 1)).bind fun x14 => (uI 1 σ a10 v3 x14).bind fun σ16 => (some (v3 + (-1))).bind fun x18 => m_X3_keepHash_L34 N n σ16 v0 v1 v2 x18)
def m_X3_keepHash (N : Nat) (σ : zS) (v0 : Nat) (v1 : Int32) : Option (zS) := (isO σ 3 v0).bind fun u1 => (m_X3_placeOf N σ v0 v1).bind fun x4 => if 8 ≤ x4 then (some σ) else ((gI σ 3 4 v0).bind fun x6 => if x6 ≤ x4 then ((m_X3_keepHash_L34 N N σ v0 v1 x4 7).bind fun σ20 => (gA σ20 3 5 v0).bind fun a22 => (uI 1 σ20 a22 x4 v1).bind fun σ24 => (gI σ24 3 4 v0).bind fun x26 => (sI σ24 3 4 v0 (imin (x26 + 1) 8)).bind fun σ28 => some σ28) else ((gA σ 3 5 v0).bind fun a30 => (aI 1 σ a30 x4).bind fun x32 => if x32 = v1 then (some σ) else ((m_X3_keepHash_L34 N N σ v0 v1 x4 7).bind fun σ35 => (gA σ35 3 5 v0).bind fun a37 => (uI 1 σ35 a37 x4 v1).bind fun σ39 => (gI σ39 3 4 v0).bind fun x41 => (sI σ39 3 4 v0 (imin (x41 + 1) 8)).bind fun σ43 => some σ43)))
def m_X3_low (N : Nat) (σ : zS) (v0 : Nat) : Option (Int32) := (gI σ 3 0 v0).bind fun x1 => if x1 = 0 then ((gI σ 3 3 v0).bind fun x13 => (m_J6_bitCount_0f7a4 N σ x13).bind fun x16 => some x16) else ((gI σ 3 0 v0).bind fun x4 => if x4 = 1 then ((gI σ 3 4 v0).bind fun x11 => some x11) else ((isO σ 3 v0).bind fun u7 => (m_X3_filledRegisters N σ v0).bind fun x10 => some x10))
def m_X8_hashOf (N : Nat) (σ : zS) (v0 : Int32) (v1 : Int32) : Option (Int32) := (some (irem (((v0 * 40503) + (v1 * 9973)) + 7919) 65536)).bind fun x1 => (some (irem ((x1 ^^^ (x1 / 128)) * 25173) 65536)).bind fun x3 => some (x3 ^^^ (x3 / 256))
def m_X3_registerOf (N : Nat) (σ : zS) (v0 : Nat) (v1 : Int32) : Option (Int32) := some (v1 &&& 7)
def m_X8_rankOf_L4 (N : Nat) : Nat → zS → Int32 → Int32 → Option (Int32)
  | 0, _, _, _ => none
  | n + 1, σ, v1, v2 => if 14 ≤ v1 then (some v1) else (if (irem v2 2) = 0 then ((some (v2 / 2)).bind fun x3 => (some (v1 + 1)).bind fun x5 => m_X8_rankOf_L4 N n σ x5 x3) else (some v1))
def m_X8_rankOf (N : Nat) (σ : zS) (v0 : Int32) : Option (Int32) := (m_X8_rankOf_L4 N N σ 1 v0).bind fun y7 => some y7
def m_X3_staysWith (N : Nat) (σ : zS) (v0 : Nat) (v1 : Int32) : Option (Int32) := (gI σ 3 1 v0).bind fun x1 => (m_X8_hashOf N σ v1 x1).bind fun x4 => (gI σ 3 0 v0).bind fun x5 => if x5 = 0 then ((gI σ 3 3 v0).bind fun x35 => (isO σ 3 v0).bind fun u37 => (m_X3_bitOf N σ v0 x4).bind fun x40 => if (x35 &&& x40) = 0 then (some 0) else (some 1)) else ((gI σ 3 0 v0).bind fun x8 => if x8 = 1 then ((isO σ 3 v0).bind fun u22 => (m_X3_placeOf N σ v0 x4).bind fun x25 => if 8 ≤ x25 then (some 1) else ((gI σ 3 4 v0).bind fun x27 => if x27 ≤ x25 then (some 0) else ((gA σ 3 5 v0).bind fun a30 => (aI 1 σ a30 x25).bind fun x32 => if x32 = x4 then (some 1) else (some 0)))) else ((gA σ 3 6 v0).bind fun a11 => (isO σ 3 v0).bind fun u13 => (m_X3_registerOf N σ v0 x4).bind fun x16 => (aI 1 σ a11 x16).bind fun x17 => (m_X8_rankOf N σ (x4 / 8)).bind fun x20 => if x17 < x20 then (some 0) else (some 1)))
def m_X3_lowestRaising_L2 (N : Nat) : Nat → zS → Nat → Int32 → Option ((Int32) ⊕ (Unit))
  | 0, _, _, _ => none
  | n + 1, σ, v0, v1 => if 1000 ≤ v1 then (some (.inr ())) else ((isO σ 3 v0).bind fun u2 => (m_X3_staysWith N σ v0 v1).bind fun x5 => if x5 = 0 then (some (.inl v1)) else ((some (v1 + 1)).bind fun x7 => m_X3_lowestRaising_L2 N n σ v0 x7))
def m_X3_lowestRaising (N : Nat) (σ : zS) (v0 : Nat) : Option (Int32) := bs (m_X3_lowestRaising_L2 N N σ v0 0) (fun r => some r) fun _ => some (-4)
def m_X3_partAt (N : Nat) (σ : zS) (v0 : Nat) (v1 : Int32) : Option (Int32) := if 0 ≤ v1 then ((gI σ 3 0 v0).bind fun x2 => if x2 = 0 then (if 32 ≤ v1 then (some (-1)) else ((gI σ 3 3 v0).bind fun x22 => some ((iushr x22 v1) &&& 1))) else ((gI σ 3 0 v0).bind fun x5 => if x5 = 1 then ((gI σ 3 4 v0).bind fun x13 => if x13 ≤ v1 then (some (-4)) else (if 8 ≤ v1 then (some (-4)) else ((gA σ 3 5 v0).bind fun a17 => (aI 1 σ a17 v1).bind fun x19 => some x19))) else (if 8 ≤ v1 then (some (-1)) else ((gA σ 3 6 v0).bind fun a9 => (aI 1 σ a9 v1).bind fun x11 => some x11)))) else (some (-1))
def m_X3_raise (N : Nat) (σ : zS) (v0 : Nat) (v1 : Int32) (v2 : Int32) : Option (zS) := if v1 < 0 then (some σ) else (if 8 ≤ v1 then (some σ) else ((gA σ 3 6 v0).bind fun a3 => (gA σ 3 6 v0).bind fun a5 => (aI 1 σ a5 v1).bind fun x7 => (uI 1 σ a3 v1 (imax x7 v2)).bind fun σ9 => some σ9))
def m_X8_spread_L4 (N : Nat) : Nat → zS → Int32 → Int32 → Int32 → Int32 → Option (Int32)
  | 0, _, _, _, _, _ => none
  | n + 1, σ, v0, v1, v2, v3 => if v0 < v3 then (some v2) else ((if v3 ≤ v1 then (some v2) else ((ckD v3).bind fun u4 => (some (v2 + ((v0 * 1000) / v3))).bind fun x6 => some x6)).bind fun y8 => (some (v3 + 1)).bind fun x9 => m_X8_spread_L4 N n σ v0 v1 y8 x9)
def m_X8_spread (N : Nat) (σ : zS) (v0 : Int32) (v1 : Int32) : Option (Int32) := (m_X8_spread_L4 N N σ v0 v1 0 1).bind fun y12 => some (y12 / 1000)
def m_X3_roughByHashes (N : Nat) (σ : zS) (v0 : Nat) : Option (Int32) := (gA σ 3 5 v0).bind fun a1 => (aI 1 σ a1 7).bind fun x3 => (some (x3 + 1)).bind fun x5 => (gI σ 3 4 v0).bind fun x7 => if x7 < 8 then ((gI σ 3 4 v0).bind fun x10 => some x10) else (if 0 < x5 then ((ckD x5).bind fun u13 => some (458752 / x5)) else ((gI σ 3 4 v0).bind fun x15 => some x15))
def m_X3_roughByRanks_L13 (N : Nat) : Nat → zS → Int32 → Nat → Int32 → Int32 → Option (Int32)
  | 0, _, _, _, _, _ => none
  | n + 1, σ, v1, v2, v3, v4 => if v3 ≤ v4 then (some v1) else ((aI 1 σ v2 v4).bind fun x6 => (some (v1 + (1 <<< ((14 - x6) &&& 31)))).bind fun x8 => (some (v4 + 1)).bind fun x10 => m_X3_roughByRanks_L13 N n σ x8 v2 v3 x10)
def m_X3_roughByRanks (N : Nat) (σ : zS) (v0 : Nat) : Option (Int32) := (gA σ 3 6 v0).bind fun a1 => (aL 1 σ a1).bind fun x3 => (m_X3_roughByRanks_L13 N N σ 0 a1 x3 0).bind fun y12 => if y12 ≤ 0 then (some 0) else ((ckD y12).bind fun u15 => some (655360 / y12))
def m_X3_rough (N : Nat) (σ : zS) (v0 : Nat) : Option (Int32) := (gI σ 3 0 v0).bind fun x1 => if x1 = 0 then ((gI σ 3 3 v0).bind fun x24 => (m_J6_bitCount_0f7a4 N σ x24).bind fun x27 => (m_X8_spread N σ 32 (32 - x27)).bind fun x29 => some x29) else ((gI σ 3 0 v0).bind fun x4 => if x4 = 1 then ((isO σ 3 v0).bind fun u20 => (m_X3_roughByHashes N σ v0).bind fun x23 => some x23) else ((isO σ 3 v0).bind fun u7 => (m_X3_filledRegisters N σ v0).bind fun x10 => (some (8 - x10)).bind fun x11 => if x11 ≤ 0 then ((isO σ 3 v0).bind fun u14 => (m_X3_roughByRanks N σ v0).bind fun x17 => some x17) else ((m_X8_spread N σ 8 x11).bind fun x19 => some x19)))
def m_X3_take (N : Nat) (σ : zS) (v0 : Nat) (v1 : Int32) : Option (zS) := (gI σ 3 1 v0).bind fun x1 => (m_X8_hashOf N σ v1 x1).bind fun x4 => (gI σ 3 2 v0).bind fun x5 => (sI σ 3 2 v0 (imin (x5 + 1) 1000000000)).bind fun σ7 => (gI σ7 3 0 v0).bind fun x9 => if x9 = 0 then ((gI σ7 3 3 v0).bind fun x29 => (isO σ7 3 v0).bind fun u31 => (m_X3_bitOf N σ7 v0 x4).bind fun x34 => (sI σ7 3 3 v0 (x29 ||| x34)).bind fun σ35 => some σ35) else ((gI σ7 3 0 v0).bind fun x12 => if x12 = 1 then ((isO σ7 3 v0).bind fun u25 => (m_X3_keepHash N σ7 v0 x4).bind fun σ28 => some σ28) else ((isO σ7 3 v0).bind fun u15 => (m_X3_registerOf N σ7 v0 x4).bind fun x18 => (m_X8_rankOf N σ7 (x4 / 8)).bind fun x20 => (isO σ7 3 v0).bind fun u21 => (m_X3_raise N σ7 v0 x18 x20).bind fun σ24 => some σ24))
def m_X3_told (N : Nat) (σ : zS) (v0 : Nat) : Option (Int32) := (isO σ 3 v0).bind fun u1 => (m_X3_low N σ v0).bind fun x4 => (isO σ 3 v0).bind fun u5 => (m_X3_rough N σ v0).bind fun x8 => (isO σ 3 v0).bind fun u9 => (m_X3_high N σ v0).bind fun x12 => some (imax x4 (imin x8 x12))
def m_X3_unite_L33 (N : Nat) : Nat → zS → Nat → Nat → Int32 → Option (zS)
  | 0, _, _, _, _ => none
  | n + 1, σ, v0, v1, v2 => (gI σ 3 4 v1).bind fun x13 => if x13 ≤ v2 then (some σ) else (if 8 ≤ v2 then (some σ) else ((gA σ 3 5 v1).bind fun a17 => (aI 1 σ a17 v2).bind fun x19 => (isO σ 3 v0).bind fun u21 => (m_X3_keepHash N σ v0 x19).bind fun σ24 => (some (v2 + 1)).bind fun x25 => m_X3_unite_L33 N n σ24 v0 v1 x25))
def m_X3_unite_L65 (N : Nat) : Nat → zS → Nat → Nat → Int32 → Option (zS)
  | 0, _, _, _, _ => none
  | n + 1, σ, v0, v1, v2 => if 8 ≤ v2 then (some σ) else ((gA σ 3 6 v1).bind fun a30 => (aI 1 σ a30 v2).bind fun x32 => (isO σ 3 v0).bind fun u34 => (m_X3_raise N σ v0 v2 x32).bind fun σ37 => (some (v2 + 1)).bind fun x38 => m_X3_unite_L65 N n σ37 v0 v1 x38)
def m_X3_unite (N : Nat) (σ : zS) (v0 : Nat) (v1 : Nat) : Option (zS) := (gI σ 3 2 v0).bind fun x1 => (gI σ 3 2 v1).bind fun x3 => (sI σ 3 2 v0 (imin (x1 + x3) 1000000000)).bind fun σ5 => (gI σ5 3 3 v0).bind fun x7 => (gI σ5 3 3 v1).bind fun x9 => (sI σ5 3 3 v0 (x7 ||| x9)).bind fun σ11 => (m_X3_unite_L33 N N σ11 v0 v1 0).bind fun σ27 => (m_X3_unite_L65 N N σ27 v0 v1 0).bind fun σ40 => some σ40
def m_X5_begin (N : Nat) (σ : zS) (v0 : Nat) (v1 : Int32) (v2 : Int32) : Option (zS) := (gA σ 5 0 v0).bind fun a1 => (isO σ 3 a1).bind fun u3 => (m_X3_begin N σ a1 v1 v2).bind fun σ6 => (gA σ6 5 1 v0).bind fun a7 => (m_J7_fill_53178 N σ6 a7 (-1)).bind fun σ10 => (sI σ10 5 2 v0 0).bind fun σ11 => (sI σ11 5 3 v0 0).bind fun σ13 => some σ13
def m_X4_makeTable (N : Nat) (σ : zS) (v0 : Nat) (v1 : Int32) (v2 : Int32) : Option (Int32 × zS) := (gI σ 4 2 v0).bind fun x1 => (sI σ 4 2 v0 (imin (x1 + 1) 6)).bind fun σ3 => (gI σ3 4 2 v0).bind fun x5 => (isO σ3 4 v0).bind fun u7 => (m_X4_find N σ3 v0 (x5 - 1)).bind fun r10 => Option.elim r10 ((gI σ3 4 2 v0).bind fun x12 => some ((x12 - 1), σ3)) fun a11 => (isO σ3 5 a11).bind fun u14 => (m_X5_begin N σ3 a11 v1 v2).bind fun σ17 => (gI σ17 4 2 v0).bind fun x18 => some ((x18 - 1), σ17)
def m_X8_isThing (N : Nat) (σ : zS) (v0 : Int32) : Option (Int32) := if v0 < 0 then (some 0) else (if 1000 ≤ v0 then (some 0) else (some 1))
def m_X5_know (N : Nat) (σ : zS) (v0 : Nat) (v1 : Int32) (v2 : Int32) : Option (zS) := (m_X8_isThing N σ v1).bind fun x2 => if x2 = 0 then (some σ) else ((gA σ 5 1 v0).bind fun a4 => (aI 1 σ a4 v1).bind fun x6 => if x6 = (-1) then ((gA σ 5 1 v0).bind fun a17 => (uI 1 σ a17 v1 v2).bind fun σ19 => (gI σ19 5 2 v0).bind fun x21 => (sI σ19 5 2 v0 (x21 + 1)).bind fun σ23 => some σ23) else ((gA σ 5 1 v0).bind fun a9 => (gA σ 5 1 v0).bind fun a11 => (aI 1 σ a11 v1).bind fun x13 => (uI 1 σ a9 v1 (imin x13 v2)).bind fun σ15 => some σ15))
def m_X4_putRow_L20 (N : Nat) : Nat → zS → Nat → Int32 → Int32 → Nat → Int32 → Int32 → Option (zS)
  | 0, _, _, _, _, _, _, _ => none
  | n + 1, σ, v0, v3, v4, v5, v6, v7 => if v4 ≤ v7 then (some σ) else ((gA σ 5 0 v5).bind fun a7 => (isO σ 3 a7).bind fun u9 => (m_X3_take N σ a7 v6).bind fun σ12 => (gI σ12 4 3 v0).bind fun x13 => (isO σ12 5 v5).bind fun u15 => (m_X5_know N σ12 v5 v6 x13).bind fun σ18 => (gI σ18 4 3 v0).bind fun x19 => (sI σ18 4 3 v0 (x19 + 1)).bind fun σ21 => (some (irem (v6 + v3) 1000)).bind fun x23 => (some (v7 + 1)).bind fun x25 => m_X4_putRow_L20 N n σ21 v0 v3 v4 v5 x23 x25)
def m_X4_putRow (N : Nat) (σ : zS) (v0 : Nat) (v1 : Int32) (v2 : Int32) (v3 : Int32) (v4 : Int32) : Option (Int32 × zS) := (isO σ 4 v0).bind fun u1 => (m_X4_find N σ v0 v1).bind fun r4 => Option.elim r4 (some ((-1), σ)) fun a5 => (m_X4_putRow_L20 N N σ v0 v3 v4 a5 v2 0).bind fun σ27 => (gA σ27 5 0 a5).bind fun a29 => (isO σ27 3 a29).bind fun u31 => (m_X3_told N σ27 a29).bind fun x34 => some (x34, σ27)
def m_X5_knowAllOf_L2 (N : Nat) : Nat → zS → Nat → Nat → Int32 → Option (zS)
  | 0, _, _, _, _ => none
  | n + 1, σ, v0, v1, v2 => if 1000 ≤ v2 then (some σ) else ((gA σ 5 1 v1).bind fun a2 => (aI 1 σ a2 v2).bind fun x4 => (if x4 = (-1) then (some σ) else ((gA σ 5 1 v1).bind fun a8 => (aI 1 σ a8 v2).bind fun x10 => (isO σ 5 v0).bind fun u12 => (m_X5_know N σ v0 v2 x10).bind fun σ15 => some σ15)).bind fun σ16 => (some (v2 + 1)).bind fun x17 => m_X5_knowAllOf_L2 N n σ16 v0 v1 x17)
def m_X5_knowAllOf (N : Nat) (σ : zS) (v0 : Nat) (v1 : Nat) : Option (zS) := (m_X5_knowAllOf_L2 N N σ v0 v1 0).bind fun σ20 => some σ20
def m_X4_unite (N : Nat) (σ : zS) (v0 : Nat) (v1 : Int32) (v2 : Int32) : Option (Int32 × zS) := (isO σ 4 v0).bind fun u1 => (m_X4_find N σ v0 v1).bind fun r4 => Option.elim r4 ((isO σ 4 v0).bind fun u6 => (m_X4_find N σ v0 v2).bind fun r9 => Option.elim r9 (some ((-1), σ)) fun a10 => some ((-1), σ)) fun a5 => (isO σ 4 v0).bind fun u11 => (m_X4_find N σ v0 v2).bind fun r14 => Option.elim r14 (some ((-1), σ)) fun a15 => (gA σ 5 0 a5).bind fun a16 => (gA σ 5 0 a15).bind fun a18 => (isO σ 3 a16).bind fun u20 => (m_X3_unite N σ a16 a18).bind fun σ23 => (isO σ23 5 a5).bind fun u24 => (m_X5_knowAllOf N σ23 a5 a15).bind fun σ27 => (gA σ27 5 0 a5).bind fun a28 => (isO σ27 3 a28).bind fun u30 => (m_X3_told N σ27 a28).bind fun x33 => some (x33, σ27)
def m_X5_beginAgain (N : Nat) (σ : zS) (v0 : Nat) : Option (zS) := (gI σ 5 3 v0).bind fun x1 => (gA σ 5 0 v0).bind fun a3 => (gI σ 3 0 a3).bind fun x5 => (gA σ 5 0 v0).bind fun a7 => (gI σ 3 1 a7).bind fun x9 => (isO σ 5 v0).bind fun u11 => (m_X5_begin N σ v0 x5 x9).bind fun σ14 => (sI σ14 5 3 v0 (x1 + 1)).bind fun σ15 => some σ15
def m_X4_empty (N : Nat) (σ : zS) (v0 : Nat) (v1 : Int32) : Option (Int32 × zS) := (isO σ 4 v0).bind fun u1 => (m_X4_find N σ v0 v1).bind fun r4 => Option.elim r4 (some ((-1), σ)) fun a5 => (gI σ 5 2 a5).bind fun x6 => (gA σ 4 1 v0).bind fun a8 => (gA σ 5 0 a5).bind fun a10 => (isO σ 3 a10).bind fun u12 => (m_X3_told N σ a10).bind fun x15 => (isO σ 2 a8).bind fun u16 => (m_X2_write N σ a8 v1 x15 x6).bind fun σ19 => (isO σ19 5 a5).bind fun u20 => (m_X5_beginAgain N σ19 a5).bind fun σ23 => some (x6, σ23)
def m_X4_carryOut (N : Nat) (σ : zS) (v0 : Nat) (v1 : Nat) : Option (Int32 × zS) := (isO σ 0 v1).bind fun u1 => (m_X0_numberAt N σ v1 0).bind fun x4 => (isO σ 0 v1).bind fun u5 => (m_X0_numberAt N σ v1 1).bind fun x8 => (gI σ 0 1 v1).bind fun x9 => if x9 = 97 then ((isO σ 4 v0).bind fun u12 => b2 (m_X4_putRow N σ v0 x4 x8 0 1) fun x16 σ15 => some (x16, σ15)) else (if x9 = 107 then ((isO σ 4 v0).bind fun u18 => b2 (m_X4_makeTable N σ v0 x4 x8) fun x22 σ21 => some (x22, σ21)) else (if x9 = 109 then ((isO σ 4 v0).bind fun u24 => b2 (m_X4_unite N σ v0 x4 x8) fun x28 σ27 => some (x28, σ27)) else (if x9 = 115 then ((isO σ 0 v1).bind fun u30 => (m_X0_numberAt N σ v1 2).bind fun x33 => (isO σ 0 v1).bind fun u34 => (m_X0_numberAt N σ v1 3).bind fun x37 => (isO σ 4 v0).bind fun u38 => b2 (m_X4_putRow N σ v0 x4 x8 x33 x37) fun x42 σ41 => some (x42, σ41)) else ((isO σ 4 v0).bind fun u43 => b2 (m_X4_empty N σ v0 x4) fun x47 σ46 => some (x47, σ46)))))
def m_X5_error (N : Nat) (σ : zS) (v0 : Nat) : Option (Int32) := (gA σ 5 0 v0).bind fun a1 => (isO σ 3 a1).bind fun u3 => (m_X3_told N σ a1).bind fun x6 => (gI σ 5 2 v0).bind fun x7 => some (x6 - x7)
def m_X4_errorSize (N : Nat) (σ : zS) (v0 : Nat) (v1 : Int32) : Option (Int32) := (isO σ 4 v0).bind fun u1 => (m_X4_find N σ v0 v1).bind fun r4 => Option.elim r4 (some 0) fun a5 => (isO σ 5 a5).bind fun u6 => (m_X5_error N σ a5).bind fun x9 => some (iabs x9)
def m_X4_placeByError_L11 (N : Nat) : Nat → zS → Nat → Int32 → Int32 → Int32 → Int32 → Option (Int32)
  | 0, _, _, _, _, _, _ => none
  | n + 1, σ, v0, v1, v2, v3, v4 => (gI σ 4 2 v0).bind fun x5 => if x5 ≤ v4 then (some v3) else ((isO σ 4 v0).bind fun u8 => (m_X4_errorSize N σ v0 v4).bind fun x11 => (if v2 < x11 then ((some (v3 + 1)).bind fun x14 => some x14) else (if x11 = v2 then (if v1 ≤ v4 then (some v3) else ((some (v3 + 1)).bind fun x18 => some x18)) else (some v3))).bind fun y20 => (some (v4 + 1)).bind fun x21 => m_X4_placeByError_L11 N n σ v0 v1 v2 y20 x21)
def m_X4_placeByError (N : Nat) (σ : zS) (v0 : Nat) (v1 : Int32) : Option (Int32) := (isO σ 4 v0).bind fun u1 => (m_X4_errorSize N σ v0 v1).bind fun x4 => (m_X4_placeByError_L11 N N σ v0 v1 x4 0 0).bind fun y24 => some y24
def m_X8_within (N : Nat) (σ : zS) (v0 : Int32) (v1 : Int32) : Option (Int32) := if v0 < 0 then (some 0) else (if v1 < v0 then (some 0) else (some 1))
def m_X4_refusalOfTable (N : Nat) (σ : zS) (v0 : Nat) (v1 : Int32) (v2 : Int32) : Option (Int32) := (m_X8_within N σ v1 2).bind fun x2 => if x2 = 0 then (some (-1)) else ((m_X8_within N σ v2 9).bind fun x5 => if x5 = 0 then (some (-1)) else ((gI σ 4 2 v0).bind fun x7 => if x7 < 6 then (some 0) else (some (-3))))
def m_X4_refusalOfRow (N : Nat) (σ : zS) (v0 : Nat) (v1 : Int32) (v2 : Int32) (v3 : Int32) (v4 : Int32) : Option (Int32) := (isO σ 4 v0).bind fun u1 => (m_X4_find N σ v0 v1).bind fun r4 => Option.elim r4 (some (-1)) fun a5 => (m_X8_isThing N σ v2).bind fun x7 => if x7 = 0 then (some (-1)) else ((m_X8_isThing N σ v3).bind fun x10 => if x10 = 0 then (some (-1)) else (if v4 < 1 then (some (-1)) else (if v4 ≤ 100 then ((gI σ 4 3 v0).bind fun x14 => if (x14 + v4) ≤ 20000 then (some 0) else (some (-3))) else (some (-1)))))
def m_X4_refusalOfMerge (N : Nat) (σ : zS) (v0 : Nat) (v1 : Int32) (v2 : Int32) : Option (Int32) := (isO σ 4 v0).bind fun u1 => (m_X4_find N σ v0 v1).bind fun r4 => Option.elim r4 ((isO σ 4 v0).bind fun u6 => (m_X4_find N σ v0 v2).bind fun r9 => Option.elim r9 (some (-1)) fun a10 => some (-1)) fun a5 => (isO σ 4 v0).bind fun u11 => (m_X4_find N σ v0 v2).bind fun r14 => Option.elim r14 (some (-1)) fun a15 => if v1 = v2 then (some (-1)) else ((gA σ 5 0 a5).bind fun a17 => (gA σ 5 0 a15).bind fun a19 => (isO σ 3 a17).bind fun u21 => (m_X3_isLike N σ a17 a19).bind fun x24 => if x24 = 0 then (some (-2)) else (some 0))
def m_X4_refusalOf (N : Nat) (σ : zS) (v0 : Nat) (v1 : Nat) : Option (Int32) := (isO σ 0 v1).bind fun u1 => (m_X0_numberAt N σ v1 0).bind fun x4 => (isO σ 0 v1).bind fun u5 => (m_X0_numberAt N σ v1 1).bind fun x8 => (gI σ 0 1 v1).bind fun x9 => if x9 = 97 then ((isO σ 4 v0).bind fun u12 => (m_X4_refusalOfRow N σ v0 x4 x8 0 1).bind fun x15 => some x15) else (if x9 = 107 then ((isO σ 4 v0).bind fun u17 => (m_X4_refusalOfTable N σ v0 x4 x8).bind fun x20 => some x20) else (if x9 = 109 then ((isO σ 4 v0).bind fun u22 => (m_X4_refusalOfMerge N σ v0 x4 x8).bind fun x25 => some x25) else (if x9 = 115 then ((isO σ 0 v1).bind fun u27 => (m_X0_numberAt N σ v1 2).bind fun x30 => (isO σ 0 v1).bind fun u31 => (m_X0_numberAt N σ v1 3).bind fun x34 => (isO σ 4 v0).bind fun u35 => (m_X4_refusalOfRow N σ v0 x4 x8 x30 x34).bind fun x38 => some x38) else ((isO σ 4 v0).bind fun u39 => (m_X4_find N σ v0 x4).bind fun r42 => Option.elim r42 (some (-1)) fun a43 => some 0))))
def m_X5_timeOf (N : Nat) (σ : zS) (v0 : Nat) (v1 : Int32) : Option (Int32) := (m_X8_isThing N σ v1).bind fun x2 => if x2 = 0 then (some (-1)) else ((gA σ 5 1 v0).bind fun a4 => (aI 1 σ a4 v1).bind fun x6 => some x6)
def m_X5_saw (N : Nat) (σ : zS) (v0 : Nat) (v1 : Int32) : Option (Int32) := (isO σ 5 v0).bind fun u1 => (m_X5_timeOf N σ v0 v1).bind fun x4 => if x4 = (-1) then (some 0) else (some 1)
def m_X4_tablesWithThing_L4 (N : Nat) : Nat → zS → Nat → Int32 → Int32 → Int32 → Option (Int32)
  | 0, _, _, _, _, _ => none
  | n + 1, σ, v0, v1, v2, v3 => if 6 ≤ v3 then (some v2) else ((isO σ 4 v0).bind fun u2 => (m_X4_find N σ v0 v3).bind fun r5 => Option.elim r5 ((some (v3 + 1)).bind fun x7 => m_X4_tablesWithThing_L4 N n σ v0 v1 v2 x7) fun a6 => (isO σ 5 a6).bind fun u9 => (m_X5_saw N σ a6 v1).bind fun x12 => (if x12 = 0 then (some v2) else ((some (v2 + 1)).bind fun x15 => some x15)).bind fun y17 => (some (v3 + 1)).bind fun x18 => m_X4_tablesWithThing_L4 N n σ v0 v1 y17 x18)
def m_X4_tablesWithThing (N : Nat) (σ : zS) (v0 : Nat) (v1 : Int32) : Option (Int32) := (m_X4_tablesWithThing_L4 N N σ v0 v1 0 0).bind fun y21 => some y21
def m_X4_tablesWithoutError_L4 (N : Nat) : Nat → zS → Nat → Int32 → Int32 → Option (Int32)
  | 0, _, _, _, _ => none
  | n + 1, σ, v0, v1, v2 => if 6 ≤ v2 then (some v1) else ((isO σ 4 v0).bind fun u2 => (m_X4_find N σ v0 v2).bind fun r5 => Option.elim r5 ((some (v2 + 1)).bind fun x7 => m_X4_tablesWithoutError_L4 N n σ v0 v1 x7) fun a6 => (isO σ 5 a6).bind fun u9 => (m_X5_error N σ a6).bind fun x12 => (if x12 = 0 then ((some (v1 + 1)).bind fun x15 => some x15) else (some v1)).bind fun y17 => (some (v2 + 1)).bind fun x18 => m_X4_tablesWithoutError_L4 N n σ v0 y17 x18)
def m_X4_tablesWithoutError (N : Nat) (σ : zS) (v0 : Nat) : Option (Int32) := (m_X4_tablesWithoutError_L4 N N σ v0 0 0).bind fun y21 => some y21
def m_X4_thingsOfAll_L4 (N : Nat) : Nat → zS → Nat → Int32 → Int32 → Option (Int32)
  | 0, _, _, _, _ => none
  | n + 1, σ, v0, v1, v2 => if 1000 ≤ v2 then (some v1) else ((gI σ 4 2 v0).bind fun x2 => (if x2 ≤ 0 then (some v1) else ((isO σ 4 v0).bind fun u6 => (m_X4_tablesWithThing N σ v0 v2).bind fun x9 => (gI σ 4 2 v0).bind fun x10 => if x9 = x10 then ((some (v1 + 1)).bind fun x13 => some x13) else (some v1))).bind fun y15 => (some (v2 + 1)).bind fun x16 => m_X4_thingsOfAll_L4 N n σ v0 y15 x16)
def m_X4_thingsOfAll (N : Nat) (σ : zS) (v0 : Nat) : Option (Int32) := (m_X4_thingsOfAll_L4 N N σ v0 0 0).bind fun y19 => some y19
def m_X4_thingsOfAny_L4 (N : Nat) : Nat → zS → Nat → Int32 → Int32 → Option (Int32)
  | 0, _, _, _, _ => none
  | n + 1, σ, v0, v1, v2 => if 1000 ≤ v2 then (some v1) else ((isO σ 4 v0).bind fun u2 => (m_X4_tablesWithThing N σ v0 v2).bind fun x5 => (if x5 ≤ 0 then (some v1) else ((some (v1 + 1)).bind fun x8 => some x8)).bind fun y10 => (some (v2 + 1)).bind fun x11 => m_X4_thingsOfAny_L4 N n σ v0 y10 x11)
def m_X4_thingsOfAny (N : Nat) (σ : zS) (v0 : Nat) : Option (Int32) := (m_X4_thingsOfAny_L4 N N σ v0 0 0).bind fun y14 => some y14
def m_X5_property (N : Nat) (σ : zS) (v0 : Nat) (v1 : Int32) : Option (Int32) := if v1 = 0 then ((gA σ 5 0 v0).bind fun a2 => (gI σ 3 0 a2).bind fun x4 => some x4) else (if v1 = 1 then ((gA σ 5 0 v0).bind fun a7 => (gI σ 3 1 a7).bind fun x9 => some x9) else (if v1 = 2 then ((gA σ 5 0 v0).bind fun a12 => (isO σ 3 a12).bind fun u14 => (m_X3_told N σ a12).bind fun x17 => some x17) else (if v1 = 3 then ((gI σ 5 2 v0).bind fun x19 => some x19) else (if v1 = 4 then ((gA σ 5 0 v0).bind fun a22 => (isO σ 3 a22).bind fun u24 => (m_X3_low N σ a22).bind fun x27 => some x27) else (if v1 = 5 then ((gA σ 5 0 v0).bind fun a29 => (isO σ 3 a29).bind fun u31 => (m_X3_high N σ a29).bind fun x34 => some x34) else (if v1 = 6 then ((isO σ 5 v0).bind fun u36 => (m_X5_error N σ v0).bind fun x39 => some (x39 + 1000)) else (if v1 = 7 then ((gA σ 5 0 v0).bind fun a41 => (gI σ 3 2 a41).bind fun x43 => some x43) else (if v1 = 8 then ((gI σ 5 3 v0).bind fun x46 => some x46) else ((gA σ 5 0 v0).bind fun a48 => (isO σ 3 a48).bind fun u50 => (m_X3_rough N σ a48).bind fun x53 => some x53)))))))))
def m_X5_sawToo_L4 (N : Nat) : Nat → zS → Nat → Nat → Int32 → Int32 → Option (Int32)
  | 0, _, _, _, _, _ => none
  | n + 1, σ, v0, v1, v2, v3 => if 1000 ≤ v3 then (some v2) else ((gA σ 5 1 v0).bind fun a2 => (aI 1 σ a2 v3).bind fun x4 => (if x4 = (-1) then (some v2) else ((gA σ 5 1 v1).bind fun a8 => (aI 1 σ a8 v3).bind fun x10 => if x10 = (-1) then (some v2) else ((some (v2 + 1)).bind fun x13 => some x13))).bind fun y15 => (some (v3 + 1)).bind fun x16 => m_X5_sawToo_L4 N n σ v0 v1 y15 x16)
def m_X5_sawToo (N : Nat) (σ : zS) (v0 : Nat) (v1 : Nat) : Option (Int32) := (m_X5_sawToo_L4 N N σ v0 v1 0 0).bind fun y19 => some y19
def m_X5_sawEither (N : Nat) (σ : zS) (v0 : Nat) (v1 : Nat) : Option (Int32) := (gI σ 5 2 v0).bind fun x1 => (gI σ 5 2 v1).bind fun x3 => (isO σ 5 v0).bind fun u5 => (m_X5_sawToo N σ v0 v1).bind fun x8 => some ((x1 + x3) - x8)
def m_X5_thingAt_L4 (N : Nat) : Nat → zS → Nat → Int32 → Int32 → Int32 → Option ((Int32) ⊕ (Unit))
  | 0, _, _, _, _, _ => none
  | n + 1, σ, v0, v1, v2, v3 => if 1000 ≤ v3 then (some (.inr ())) else ((gA σ 5 1 v0).bind fun a2 => (aI 1 σ a2 v3).bind fun x4 => if x4 = (-1) then ((some (v3 + 1)).bind fun x7 => m_X5_thingAt_L4 N n σ v0 v1 v2 x7) else (if v2 = v1 then (some (.inl v3)) else ((some (v2 + 1)).bind fun x10 => (some (v3 + 1)).bind fun x12 => m_X5_thingAt_L4 N n σ v0 v1 x10 x12)))
def m_X5_thingAt (N : Nat) (σ : zS) (v0 : Nat) (v1 : Int32) : Option (Int32) := bs (m_X5_thingAt_L4 N N σ v0 v1 0 0) (fun r => some r) fun _ => some (-1)
def m_X6_append (N : Nat) (σ : zS) (v0 : Nat) (v1 : Int32) : Option (Int32 × zS) := (gI σ 6 1 v0).bind fun x1 => if x1 < 0 then (some (0, σ)) else ((gI σ 6 1 v0).bind fun x4 => if x4 < 80 then ((gA σ 6 0 v0).bind fun a7 => (gI σ 6 1 v0).bind fun x9 => (ckC v1).bind fun x13 => (uI 0 σ a7 x9 x13).bind fun σ11 => (gI σ11 6 1 v0).bind fun x15 => (sI σ11 6 1 v0 (x15 + 1)).bind fun σ17 => some (1, σ17)) else (some (0, σ)))
def m_X6_empty (N : Nat) (σ : zS) (v0 : Nat) : Option (Int32 × zS) := (gI σ 6 1 v0).bind fun x1 => (sI σ 6 1 v0 0).bind fun σ3 => some (x1, σ3)
def m_X7_faultOfNext (N : Nat) (σ : zS) (v0 : Nat) (v1 : Nat) : Option (Int32 × zS) := (gA σ 7 1 v0).bind fun a1 => (gI σ 7 3 v0).bind fun x3 => (isO σ 0 a1).bind fun u5 => b2 (m_X0_read N σ a1 v1 x3) fun x9 σ8 => if x9 = 0 then (some (1, σ8)) else ((gA σ8 7 0 v0).bind fun a11 => (gA σ8 7 1 v0).bind fun a13 => (isO σ8 4 a11).bind fun u15 => (m_X4_refusalOf N σ8 a11 a13).bind fun x18 => (sI σ8 7 5 v0 x18).bind fun σ19 => (gI σ19 7 5 v0).bind fun x21 => if 0 ≤ x21 then (some (0, σ19)) else (some (2, σ19)))
def m_X7_run_L30 (N : Nat) : Nat → zS → Nat → Nat → Int32 → Option (zS)
  | 0, _, _, _, _ => none
  | n + 1, σ, v0, v1, v3 => if 80 ≤ v3 then (some σ) else ((gI σ 7 3 v0).bind fun x16 => (gI σ 6 1 v1).bind fun x18 => if x18 ≤ x16 then (some σ) else ((gI σ 7 4 v0).bind fun x21 => if x21 = 0 then ((isO σ 7 v0).bind fun u24 => b2 (m_X7_faultOfNext N σ v0 v1) fun x28 σ27 => (sI σ27 7 4 v0 x28).bind fun σ29 => (gI σ29 7 4 v0).bind fun x31 => (if x31 = 0 then ((gA σ29 7 0 v0).bind fun a35 => (gA σ29 7 1 v0).bind fun a37 => (isO σ29 4 a35).bind fun u39 => b2 (m_X4_carryOut N σ29 a35 a37) fun x43 σ42 => (gI σ42 7 2 v0).bind fun x44 => (sI σ42 7 2 v0 (x44 + 1)).bind fun σ46 => (gA σ46 7 1 v0).bind fun a48 => (gI σ46 0 2 a48).bind fun x50 => (sI σ46 7 3 v0 x50).bind fun σ52 => some σ52) else (some σ29)).bind fun σ54 => (some (v3 + 1)).bind fun x55 => m_X7_run_L30 N n σ54 v0 v1 x55) else (some σ)))
def m_X7_run (N : Nat) (σ : zS) (v0 : Nat) (v1 : Nat) (v2 : Nat) : Option (zS) := (gA σ 7 0 v0).bind fun a1 => (isO σ 4 a1).bind fun u3 => (m_X4_copyFrom N σ a1 v2).bind fun σ6 => (sI σ6 7 2 v0 0).bind fun σ7 => (sI σ7 7 3 v0 0).bind fun σ9 => (sI σ9 7 4 v0 0).bind fun σ11 => (sI σ11 7 5 v0 0).bind fun σ13 => (m_X7_run_L30 N N σ13 v0 v1 0).bind fun σ58 => some σ58
def m_X8_change (N : Nat) (σ : zS) (v0 : Nat) : Option (Int32 × zS) := (gA σ 8 0 v0).bind fun a1 => (gA σ 8 3 v0).bind fun a3 => (isO σ 4 a1).bind fun u5 => (m_X4_refusalOf N σ a1 a3).bind fun x8 => if 0 ≤ x8 then ((gA σ 8 1 v0).bind fun a10 => (gA σ 8 0 v0).bind fun a12 => (isO σ 1 a10).bind fun u14 => (m_X1_record N σ a10 a12).bind fun σ17 => (gA σ17 8 0 v0).bind fun a18 => (gA σ17 8 3 v0).bind fun a20 => (isO σ17 4 a18).bind fun u22 => b2 (m_X4_carryOut N σ17 a18 a20) fun x26 σ25 => some (x26, σ25)) else (some (x8, σ))
def m_X8_add (N : Nat) (σ : zS) (v0 : Nat) (v1 : Int32) (v2 : Int32) : Option (Int32 × zS) := (gA σ 8 3 v0).bind fun a1 => (isO σ 0 a1).bind fun u3 => (m_X0_put N σ a1 97 v1 v2).bind fun σ6 => (isO σ6 8 v0).bind fun u7 => b2 (m_X8_change N σ6 v0) fun x11 σ10 => some (x11, σ10)
def m_X8_addRow (N : Nat) (σ : zS) (v0 : Nat) (v1 : Int32) (v2 : Int32) (v3 : Int32) (v4 : Int32) : Option (Int32 × zS) := (gA σ 8 3 v0).bind fun a1 => (isO σ 0 a1).bind fun u3 => (m_X0_put N σ a1 115 v1 v2).bind fun σ6 => (gA σ6 8 3 v0).bind fun a7 => (isO σ6 0 a7).bind fun u9 => (m_X0_putMore N σ6 a7 v3 v4).bind fun σ12 => (isO σ12 8 v0).bind fun u13 => b2 (m_X8_change N σ12 v0) fun x17 σ16 => some (x17, σ16)
def m_X8_bitsOfQuotient_L26 (N : Nat) : Nat → zS → Int32 → Int32 → Int64 → Int64 → Int32 → Option (Int32)
  | 0, _, _, _, _, _, _ => none
  | n + 1, σ, v0, v1, v2, v4, v6 => if 40 ≤ v6 then (some v6) else (if 0 ≤ (lg_cmp (lshl v2 v6) v4) then (some v6) else ((some (v6 + 1)).bind fun x9 => m_X8_bitsOfQuotient_L26 N n σ v0 v1 v2 v4 x9))
def m_X8_bitsOfQuotient (N : Nat) (σ : zS) (v0 : Int32) (v1 : Int32) : Option (Int32) := if v0 = 0 then (some 0) else (if 0 < v1 then ((some ((iabs v0).toInt64)).bind fun x3 => (some (lshl v1.toInt64 23)).bind fun x5 => (m_X8_bitsOfQuotient_L26 N N σ v0 v1 x3 x5 0).bind fun y11 => (ckDL v1.toInt64).bind fun u13 => (ckDL (2 : Int64)).bind fun u15 => (some (((((lshl x3 (y11 + 1)) / v1.toInt64) + (1 : Int64)) / (2 : Int64)).toInt32)).bind fun x17 => (some (((150 - y11) <<< (23 &&& 31)) + (x17 - 8388608))).bind fun x19 => if 0 ≤ v0 then (some x19) else (some (x19 ||| (-2147483648)))) else (some 0))
def m_X8_both (N : Nat) (σ : zS) (v0 : Nat) (v1 : Int32) (v2 : Int32) (v3 : Int32) : Option (Int32 × zS) := (gA σ 8 0 v0).bind fun a1 => (isO σ 4 a1).bind fun u3 => (m_X4_find N σ a1 v1).bind fun r6 => Option.elim r6 ((gA σ 8 0 v0).bind fun a8 => (isO σ 4 a8).bind fun u10 => (m_X4_find N σ a8 v2).bind fun r13 => Option.elim r13 (some ((-1), σ)) fun a14 => some ((-1), σ)) fun a7 => (gA σ 8 0 v0).bind fun a15 => (isO σ 4 a15).bind fun u17 => (m_X4_find N σ a15 v2).bind fun r20 => Option.elim r20 (some ((-1), σ)) fun a21 => (m_X8_within N σ v3 3).bind fun x23 => if x23 = 0 then (some ((-1), σ)) else (if v3 = 1 then ((isO σ 5 a7).bind fun u75 => (m_X5_sawEither N σ a7 a21).bind fun x78 => some (x78, σ)) else (if v3 = 3 then ((isO σ 5 a7).bind fun u71 => (m_X5_sawToo N σ a7 a21).bind fun x74 => some (x74, σ)) else ((gA σ 5 0 a7).bind fun a27 => (gA σ 5 0 a21).bind fun a29 => (isO σ 3 a27).bind fun u31 => (m_X3_isLike N σ a27 a29).bind fun x34 => if x34 = 0 then (some ((-2), σ)) else ((gA σ 8 5 v0).bind fun a36 => (gA σ 5 0 a7).bind fun a38 => (isO σ 3 a36).bind fun u40 => (m_X3_copyFrom N σ a36 a38).bind fun σ43 => (gA σ43 8 5 v0).bind fun a44 => (gA σ43 5 0 a21).bind fun a46 => (isO σ43 3 a44).bind fun u48 => (m_X3_unite N σ43 a44 a46).bind fun σ51 => (gA σ51 8 5 v0).bind fun a52 => (isO σ51 3 a52).bind fun u54 => (m_X3_told N σ51 a52).bind fun x57 => if v3 = 0 then (some (x57, σ51)) else ((gA σ51 5 0 a7).bind fun a59 => (isO σ51 3 a59).bind fun u61 => (m_X3_told N σ51 a59).bind fun x64 => (gA σ51 5 0 a21).bind fun a65 => (isO σ51 3 a65).bind fun u67 => (m_X3_told N σ51 a65).bind fun x70 => some ((imax 0 ((x64 + x70) - x57)), σ51))))))
def m_X8_byError_L8 (N : Nat) : Nat → zS → Nat → Int32 → Int32 → Option ((Int32) ⊕ (Unit))
  | 0, _, _, _, _ => none
  | n + 1, σ, v0, v1, v2 => (gA σ 8 0 v0).bind fun a2 => (gI σ 4 2 a2).bind fun x4 => if x4 ≤ v2 then (some (.inr ())) else ((gA σ 8 0 v0).bind fun a7 => (isO σ 4 a7).bind fun u9 => (m_X4_placeByError N σ a7 v2).bind fun x12 => if x12 = v1 then (some (.inl v2)) else ((some (v2 + 1)).bind fun x14 => m_X8_byError_L8 N n σ v0 v1 x14))
def m_X8_byError (N : Nat) (σ : zS) (v0 : Nat) (v1 : Int32) : Option (Int32) := if 0 ≤ v1 then (bs (m_X8_byError_L8 N N σ v0 v1 0) (fun r => some r) fun _ => some (-4)) else (some (-1))
def m_X8_clearText (N : Nat) (σ : zS) (v0 : Nat) : Option (Int32 × zS) := (gA σ 8 2 v0).bind fun a1 => (isO σ 6 a1).bind fun u3 => b2 (m_X6_empty N σ a1) fun x7 σ6 => some (x7, σ6)
def m_X8_count (N : Nat) (σ : zS) (v0 : Nat) (v1 : Int32) : Option (Int32) := if v1 = 0 then ((gA σ 8 0 v0).bind fun a2 => (gI σ 4 2 a2).bind fun x4 => some x4) else (if v1 = 1 then ((gA σ 8 0 v0).bind fun a7 => (gI σ 4 3 a7).bind fun x9 => some x9) else (if v1 = 2 then ((gA σ 8 0 v0).bind fun a12 => (isO σ 4 a12).bind fun u14 => (m_X4_thingsOfAny N σ a12).bind fun x17 => some x17) else (if v1 = 3 then ((gA σ 8 0 v0).bind fun a19 => (isO σ 4 a19).bind fun u21 => (m_X4_thingsOfAll N σ a19).bind fun x24 => some x24) else (if v1 = 4 then ((gA σ 8 0 v0).bind fun a26 => (gA σ 4 1 a26).bind fun a28 => (gI σ 2 0 a28).bind fun x30 => some x30) else (if v1 = 5 then ((gA σ 8 0 v0).bind fun a33 => (isO σ 4 a33).bind fun u35 => (m_X4_tablesWithoutError N σ a33).bind fun x38 => some x38) else (if v1 = 6 then ((gA σ 8 1 v0).bind fun a40 => (gI σ 1 1 a40).bind fun x42 => some x42) else (if v1 = 7 then ((gA σ 8 2 v0).bind fun a45 => (gI σ 6 1 a45).bind fun x47 => some x47) else (some (-1)))))))))
def m_X8_errorBits (N : Nat) (σ : zS) (v0 : Nat) (v1 : Int32) : Option (Int32) := (gA σ 8 0 v0).bind fun a1 => (isO σ 4 a1).bind fun u3 => (m_X4_find N σ a1 v1).bind fun r6 => Option.elim r6 (some (-1)) fun a7 => (gI σ 5 2 a7).bind fun x8 => if x8 = 0 then (some (-4)) else ((isO σ 5 a7).bind fun u11 => (m_X5_error N σ a7).bind fun x14 => (gI σ 5 2 a7).bind fun x15 => (m_X8_bitsOfQuotient N σ x14 x15).bind fun x18 => some x18)
def m_X8_fault (N : Nat) (σ : zS) (v0 : Nat) (v1 : Int32) : Option (Int32 × zS) := (m_X8_within N σ v1 2).bind fun x2 => if x2 = 0 then (some ((-1), σ)) else ((gA σ 8 4 v0).bind fun a4 => (gA σ 8 2 v0).bind fun a6 => (gA σ 8 0 v0).bind fun a8 => (isO σ 7 a4).bind fun u10 => (m_X7_run N σ a4 a6 a8).bind fun σ13 => (gA σ13 8 4 v0).bind fun a14 => (gI σ13 7 4 a14).bind fun x16 => if x16 = 0 then (some ((-4), σ13)) else (if v1 = 2 then ((gA σ13 8 4 v0).bind fun a34 => (gI σ13 7 4 a34).bind fun x36 => if x36 = 1 then (some ((-4), σ13)) else (if v1 = 0 then ((gA σ13 8 4 v0).bind fun a49 => (gI σ13 7 3 a49).bind fun x51 => some (x51, σ13)) else (if v1 = 1 then ((gA σ13 8 4 v0).bind fun a45 => (gI σ13 7 4 a45).bind fun x47 => some (x47, σ13)) else ((gA σ13 8 4 v0).bind fun a41 => (gI σ13 7 5 a41).bind fun x43 => some (x43, σ13))))) else (if v1 = 0 then ((gA σ13 8 4 v0).bind fun a30 => (gI σ13 7 3 a30).bind fun x32 => some (x32, σ13)) else (if v1 = 1 then ((gA σ13 8 4 v0).bind fun a26 => (gI σ13 7 4 a26).bind fun x28 => some (x28, σ13)) else ((gA σ13 8 4 v0).bind fun a22 => (gI σ13 7 5 a22).bind fun x24 => some (x24, σ13))))))
def m_X8_has (N : Nat) (σ : zS) (v0 : Nat) (v1 : Int32) (v2 : Int32) (v3 : Int32) : Option (Int32) := (gA σ 8 0 v0).bind fun a1 => (isO σ 4 a1).bind fun u3 => (m_X4_find N σ a1 v1).bind fun r6 => Option.elim r6 (some (-1)) fun a7 => (m_X8_isThing N σ v2).bind fun x9 => if x9 = 0 then (some (-1)) else ((m_X8_within N σ v3 1).bind fun x12 => if x12 = 0 then (some (-1)) else ((if v3 = 0 then ((isO σ 5 a7).bind fun u22 => (m_X5_saw N σ a7 v2).bind fun x25 => some x25) else ((gA σ 5 0 a7).bind fun a16 => (isO σ 3 a16).bind fun u18 => (m_X3_staysWith N σ a16 v2).bind fun x21 => some x21)).bind fun y26 => if y26 = 0 then (some 0) else (some 1)))
def m_X8_hash (N : Nat) (σ : zS) (v0 : Nat) (v1 : Int32) (v2 : Int32) : Option (Int32) := (m_X8_isThing N σ v1).bind fun x2 => if x2 = 0 then (some (-1)) else ((m_X8_within N σ v2 9).bind fun x5 => if x5 = 0 then (some (-1)) else ((m_X8_hashOf N σ v1 v2).bind fun x8 => some x8))
def m_X8_keptAt (N : Nat) (σ : zS) (v0 : Nat) (v1 : Int32) (v2 : Int32) : Option (Int32) := (gA σ 8 0 v0).bind fun a1 => (isO σ 4 a1).bind fun u3 => (m_X4_find N σ a1 v1).bind fun r6 => Option.elim r6 (some (-1)) fun a7 => (gA σ 5 0 a7).bind fun a8 => (isO σ 3 a8).bind fun u10 => (m_X3_partAt N σ a8 v2).bind fun x13 => some x13
def m_X8_logAt (N : Nat) (σ : zS) (v0 : Nat) (v1 : Int32) (v2 : Int32) : Option (Int32) := if v1 < 0 then (some (-1)) else ((m_X8_within N σ v2 2).bind fun x3 => if x3 = 0 then (some (-1)) else ((gA σ 8 0 v0).bind fun a5 => (gA σ 4 1 a5).bind fun a7 => (isO σ 2 a7).bind fun u9 => (m_X2_entry N σ a7 v1 v2).bind fun x12 => some x12))
def m_X8_merge (N : Nat) (σ : zS) (v0 : Nat) (v1 : Int32) (v2 : Int32) : Option (Int32 × zS) := (gA σ 8 3 v0).bind fun a1 => (isO σ 0 a1).bind fun u3 => (m_X0_put N σ a1 109 v1 v2).bind fun σ6 => (isO σ6 8 v0).bind fun u7 => b2 (m_X8_change N σ6 v0) fun x11 σ10 => some (x11, σ10)
def m_X8_play (N : Nat) (σ : zS) (v0 : Nat) : Option (Int32 × zS) := (gA σ 8 4 v0).bind fun a1 => (gA σ 8 2 v0).bind fun a3 => (gA σ 8 0 v0).bind fun a5 => (isO σ 7 a1).bind fun u7 => (m_X7_run N σ a1 a3 a5).bind fun σ10 => (gA σ10 8 4 v0).bind fun a11 => (gI σ10 7 4 a11).bind fun x13 => if x13 = 0 then ((gA σ10 8 1 v0).bind fun a16 => (gA σ10 8 0 v0).bind fun a18 => (isO σ10 1 a16).bind fun u20 => (m_X1_record N σ10 a16 a18).bind fun σ23 => (gA σ23 8 0 v0).bind fun a24 => (gA σ23 8 4 v0).bind fun a26 => (gA σ23 7 0 a26).bind fun a28 => (isO σ23 4 a24).bind fun u30 => (m_X4_copyFrom N σ23 a24 a28).bind fun σ33 => (gA σ33 8 4 v0).bind fun a34 => (gI σ33 7 2 a34).bind fun x36 => some (x36, σ33)) else (some ((-2), σ10))
def m_X8_raises (N : Nat) (σ : zS) (v0 : Nat) (v1 : Int32) : Option (Int32) := (gA σ 8 0 v0).bind fun a1 => (isO σ 4 a1).bind fun u3 => (m_X4_find N σ a1 v1).bind fun r6 => Option.elim r6 (some (-1)) fun a7 => (gA σ 5 0 a7).bind fun a8 => (isO σ 3 a8).bind fun u10 => (m_X3_lowestRaising N σ a8).bind fun x13 => some x13
def m_X8_reset (N : Nat) (σ : zS) (v0 : Nat) (v1 : Int32) : Option (Int32 × zS) := (gA σ 8 3 v0).bind fun a1 => (isO σ 0 a1).bind fun u3 => (m_X0_put N σ a1 122 v1 0).bind fun σ6 => (isO σ6 8 v0).bind fun u7 => b2 (m_X8_change N σ6 v0) fun x11 σ10 => some (x11, σ10)
def m_X8_sawAt (N : Nat) (σ : zS) (v0 : Nat) (v1 : Int32) (v2 : Int32) (v3 : Int32) : Option (Int32) := (gA σ 8 0 v0).bind fun a1 => (isO σ 4 a1).bind fun u3 => (m_X4_find N σ a1 v1).bind fun r6 => Option.elim r6 (some (-1)) fun a7 => if v2 < 0 then (some (-1)) else ((m_X8_within N σ v3 1).bind fun x10 => if x10 = 0 then (some (-1)) else ((isO σ 5 a7).bind fun u12 => (m_X5_thingAt N σ a7 v2).bind fun x15 => if x15 = (-1) then (some (-4)) else (if v3 = 0 then (some x15) else ((isO σ 5 a7).bind fun u18 => (m_X5_timeOf N σ a7 x15).bind fun x21 => some x21))))
def m_X8_table (N : Nat) (σ : zS) (v0 : Nat) (v1 : Int32) (v2 : Int32) : Option (Int32 × zS) := (gA σ 8 3 v0).bind fun a1 => (isO σ 0 a1).bind fun u3 => (m_X0_put N σ a1 107 v1 v2).bind fun σ6 => (isO σ6 8 v0).bind fun u7 => b2 (m_X8_change N σ6 v0) fun x11 σ10 => some (x11, σ10)
def m_X8_tableOf (N : Nat) (σ : zS) (v0 : Nat) (v1 : Int32) (v2 : Int32) : Option (Int32) := (gA σ 8 0 v0).bind fun a1 => (isO σ 4 a1).bind fun u3 => (m_X4_find N σ a1 v1).bind fun r6 => Option.elim r6 (some (-1)) fun a7 => (m_X8_within N σ v2 9).bind fun x9 => if x9 = 0 then (some (-1)) else ((isO σ 5 a7).bind fun u11 => (m_X5_property N σ a7 v2).bind fun x14 => some x14)
def m_X8_type (N : Nat) (σ : zS) (v0 : Nat) (v1 : Int32) : Option (Int32 × zS) := if v1 < 32 then (some ((-1), σ)) else (if v1 ≤ 126 then ((gA σ 8 2 v0).bind fun a3 => (isO σ 6 a3).bind fun u5 => b2 (m_X6_append N σ a3 (i2c v1)) fun x9 σ8 => if x9 = 0 then (some ((-3), σ8)) else ((gA σ8 8 2 v0).bind fun a11 => (gI σ8 6 1 a11).bind fun x13 => some (x13, σ8))) else (some ((-1), σ)))
def m_X8_undo (N : Nat) (σ : zS) (v0 : Nat) : Option (Int32 × zS) := (gA σ 8 1 v0).bind fun a1 => (gI σ 1 1 a1).bind fun x3 => if x3 = 0 then (some ((-2), σ)) else ((gA σ 8 1 v0).bind fun a6 => (gA σ 8 0 v0).bind fun a8 => (isO σ 1 a6).bind fun u10 => (m_X1_restore N σ a6 a8).bind fun σ13 => (gA σ13 8 1 v0).bind fun a14 => (gI σ13 1 1 a14).bind fun x16 => some (x16, σ13))
def m_X8_would (N : Nat) (σ : zS) (v0 : Nat) (v1 : Int32) (v2 : Int32) : Option (Int32 × zS) := (gA σ 8 0 v0).bind fun a1 => (isO σ 4 a1).bind fun u3 => (m_X4_find N σ a1 v1).bind fun r6 => Option.elim r6 (some ((-1), σ)) fun a7 => (m_X8_isThing N σ v2).bind fun x9 => if x9 = 0 then (some ((-1), σ)) else ((gA σ 8 5 v0).bind fun a11 => (gA σ 5 0 a7).bind fun a13 => (isO σ 3 a11).bind fun u15 => (m_X3_copyFrom N σ a11 a13).bind fun σ18 => (gA σ18 8 5 v0).bind fun a19 => (isO σ18 3 a19).bind fun u21 => (m_X3_take N σ18 a19 v2).bind fun σ24 => (gA σ24 8 5 v0).bind fun a25 => (isO σ24 3 a25).bind fun u27 => (m_X3_told N σ24 a25).bind fun x30 => some (x30, σ24))
def m_X9_copy_L2 (N : Nat) : Nat → zS → Nat → Nat → Int32 → Option (zS)
  | 0, _, _, _, _ => none
  | n + 1, σ, v0, v1, v2 => if 6165 ≤ v2 then (some σ) else ((aI 1 σ v0 v2).bind fun x2 => (uI 1 σ v1 v2 x2).bind fun σ4 => (some (v2 + 1)).bind fun x6 => m_X9_copy_L2 N n σ4 v0 v1 x6)
def m_X9_copy (N : Nat) (σ : zS) (v0 : Nat) (v1 : Nat) : Option (zS) := (m_X9_copy_L2 N N σ v0 v1 0).bind fun σ8 => some σ8
def m_X9_in (N : Nat) (σ : zS) (v0 : Int32) (v1 : Int32) (v2 : Int32) : Option (Int32) := if v0 < v1 then (some 0) else (if v2 < v0 then (some 0) else (some 1))
def m_X9_isTable (N : Nat) (σ : zS) (v0 : Nat) (v1 : Int32) : Option (Int32) := (gA σ 9 0 v0).bind fun a1 => (aI 1 σ a1 138).bind fun x3 => (m_X9_in N σ v1 0 (x3 - 1)).bind fun x6 => (ckZ x6).bind fun x7 => some x7
def m_X9_isThing (N : Nat) (σ : zS) (v0 : Int32) : Option (Int32) := (m_X9_in N σ v0 0 999).bind fun x2 => (ckZ x2).bind fun x3 => some x3
def m_X9_hashOf (N : Nat) (σ : zS) (v0 : Int32) (v1 : Int32) : Option (Int32) := (some (irem (((v0 * 40503) + (v1 * 9973)) + 7919) 65536)).bind fun x1 => (some (irem ((x1 ^^^ (x1 / 128)) * 25173) 65536)).bind fun x3 => some (x3 ^^^ (x3 / 256))
def m_X9_keepHash_L2 (N : Nat) : Nat → zS → Nat → Int32 → Int32 → Int32 → Option (Int32)
  | 0, _, _, _, _, _ => none
  | n + 1, σ, v0, v1, v2, v3 => (aI 1 σ v0 (v1 + 5)).bind fun x1 => if x1 ≤ v3 then (some v3) else ((aI 1 σ v0 ((v1 + 6) + v3)).bind fun x4 => if v2 ≤ x4 then (some v3) else ((some (v3 + 1)).bind fun x7 => m_X9_keepHash_L2 N n σ v0 v1 v2 x7))
def m_X9_keepHash_L95 (N : Nat) : Nat → zS → Nat → Int32 → Int32 → Int32 → Int32 → Int32 → Option (zS)
  | 0, _, _, _, _, _, _, _ => none
  | n + 1, σ, v0, v1, v2, v3, v5, v6 => if v6 ≤ v3 then (some σ) else ((aI 1 σ v0 (((v1 + 6) + v6) - 1)).bind fun x29 => (uI 1 σ v0 ((v1 + 6) + v6) x29).bind fun σ31 => (some (v6 + (-1))).bind fun x33 => m_X9_keepHash_L95 N n σ31 v0 v1 v2 v3 v5 x33)
def m_X9_keepHash (N : Nat) (σ : zS) (v0 : Nat) (v1 : Int32) (v2 : Int32) : Option (zS) := (m_X9_keepHash_L2 N N σ v0 v1 v2 0).bind fun y9 => (aI 1 σ v0 (v1 + 5)).bind fun x11 => (if x11 ≤ y9 then (some 0) else ((aI 1 σ v0 ((v1 + 6) + y9)).bind fun x15 => if x15 = v2 then (some 1) else (some 0))).bind fun y18 => if y18 = 0 then (if y9 = 8 then (some σ) else ((aI 1 σ v0 (v1 + 5)).bind fun x21 => (if 8 ≤ x21 then (some 7) else ((aI 1 σ v0 (v1 + 5)).bind fun x25 => some x25)).bind fun y27 => (m_X9_keepHash_L95 N N σ v0 v1 v2 y9 y27 y27).bind fun σ35 => (uI 1 σ35 v0 ((v1 + 6) + y9) v2).bind fun σ37 => (uI 1 σ37 v0 (v1 + 5) (y27 + 1)).bind fun σ39 => some σ39)) else (some σ)
def m_X9_rank_L11 (N : Nat) : Nat → zS → Int32 → Int32 → Option (Int32)
  | 0, _, _, _ => none
  | n + 1, σ, v1, v2 => if (irem v2 2) = 0 then ((some (v2 / 2)).bind fun x3 => (some (v1 + 1)).bind fun x5 => m_X9_rank_L11 N n σ x5 x3) else (some v1)
def m_X9_rank (N : Nat) (σ : zS) (v0 : Int32) : Option (Int32) := if v0 = 0 then (some 14) else ((m_X9_rank_L11 N N σ 1 v0).bind fun y7 => some y7)
def m_X9_keepRegister (N : Nat) (σ : zS) (v0 : Nat) (v1 : Int32) (v2 : Int32) (v3 : Int32) : Option (zS) := (aI 1 σ v0 ((v1 + 14) + v2)).bind fun x1 => (if v3 ≤ x1 then (some x1) else (some v3)).bind fun y5 => (uI 1 σ v0 ((v1 + 14) + v2) y5).bind fun σ6 => some σ6
def m_X9_keeps (N : Nat) (σ : zS) (v0 : Nat) (v1 : Int32) (v2 : Int32) : Option (zS) := (aI 1 σ v0 (v1 + 0)).bind fun x1 => if x1 = 0 then ((some (v1 + 4)).bind fun x4 => (aI 1 σ v0 x4).bind fun x6 => (uI 1 σ v0 x4 (x6 ||| (1 <<< ((v2 / 2048) &&& 31)))).bind fun σ8 => some σ8) else (if x1 = 1 then ((m_X9_keepHash N σ v0 v1 v2).bind fun σ12 => some σ12) else ((m_X9_rank N σ (v2 / 8)).bind fun x14 => (m_X9_keepRegister N σ v0 v1 (irem v2 8) x14).bind fun σ16 => some σ16))
def m_X9_added (N : Nat) (σ : zS) (v0 : Nat) (v1 : Int32) (v2 : Int32) : Option (Int32) := (some (v1.toInt64 + v2.toInt64)).bind fun x1 => if (lg_cmp x1 (1000000000 : Int64)) ≤ 0 then (some x1.toInt32) else (some 1000000000)
def m_X9_sees (N : Nat) (σ : zS) (v0 : Nat) (v1 : Int32) (v2 : Int32) : Option (zS) := (some (23 * v1)).bind fun x1 => (some ((165 + (1000 * v1)) + v2)).bind fun x3 => (gA σ 9 0 v0).bind fun a5 => (gA σ 9 0 v0).bind fun a7 => (aI 1 σ a7 (x1 + 1)).bind fun x9 => (m_X9_hashOf N σ v2 x9).bind fun x12 => (m_X9_keeps N σ a5 x1 x12).bind fun σ14 => (gA σ14 9 0 v0).bind fun a15 => (gA σ14 9 0 v0).bind fun a17 => (aI 1 σ14 a17 (x1 + 2)).bind fun x19 => (isO σ14 9 v0).bind fun u21 => (m_X9_added N σ14 v0 x19 1).bind fun x24 => (uI 1 σ14 a15 (x1 + 2) x24).bind fun σ25 => (gA σ25 9 0 v0).bind fun a27 => (aI 1 σ25 a27 x3).bind fun x29 => (if x29 = 0 then ((gA σ25 9 0 v0).bind fun a33 => (gA σ25 9 0 v0).bind fun a35 => (aI 1 σ25 a35 139).bind fun x37 => (uI 1 σ25 a33 x3 (x37 + 1)).bind fun σ39 => (gA σ39 9 0 v0).bind fun a41 => (some (x1 + 22)).bind fun x43 => (aI 1 σ39 a41 x43).bind fun x45 => (uI 1 σ39 a41 x43 (x45 + 1)).bind fun σ47 => some σ47) else (some σ25)).bind fun σ49 => (gA σ49 9 0 v0).bind fun a50 => (aI 1 σ49 a50 139).bind fun x52 => (uI 1 σ49 a50 139 (x52 + 1)).bind fun σ54 => some σ54
def m_X9_lit_L4 (N : Nat) : Nat → zS → Int32 → Int32 → Int32 → Option (Int32)
  | 0, _, _, _, _ => none
  | n + 1, σ, v0, v1, v2 => if 32 ≤ v2 then (some v1) else ((some (v1 + ((v0 >>> (v2 &&& 31)) &&& 1))).bind fun x2 => (some (v2 + 1)).bind fun x4 => m_X9_lit_L4 N n σ v0 x2 x4)
def m_X9_lit (N : Nat) (σ : zS) (v0 : Int32) : Option (Int32) := (m_X9_lit_L4 N N σ v0 0 0).bind fun y6 => some y6
def m_X9_harmonic_L6 (N : Nat) : Nat → zS → Int32 → Int32 → Int32 → Option (Int32)
  | 0, _, _, _, _ => none
  | n + 1, σ, v1, v2, v3 => if v1 < v3 then (some v2) else ((ckD v3).bind fun u4 => (some (v2 + ((1000 * v1) / v3))).bind fun x6 => (some (v3 + 1)).bind fun x8 => m_X9_harmonic_L6 N n σ v1 x6 x8)
def m_X9_harmonic (N : Nat) (σ : zS) (v0 : Int32) (v1 : Int32) : Option (Int32) := (some (v0 + 1)).bind fun x1 => (m_X9_harmonic_L6 N N σ v1 0 x1).bind fun y10 => some (y10 / 1000)
def m_X9_filled_L4 (N : Nat) : Nat → zS → Nat → Int32 → Int32 → Int32 → Option (Int32)
  | 0, _, _, _, _, _ => none
  | n + 1, σ, v0, v1, v2, v3 => if 8 ≤ v3 then (some v2) else ((aI 1 σ v0 ((v1 + 14) + v3)).bind fun x2 => (if x2 ≤ 0 then (some 0) else (some 1)).bind fun y6 => (some (v2 + y6)).bind fun x7 => (some (v3 + 1)).bind fun x9 => m_X9_filled_L4 N n σ v0 v1 x7 x9)
def m_X9_filled (N : Nat) (σ : zS) (v0 : Nat) (v1 : Int32) : Option (Int32) := (m_X9_filled_L4 N N σ v0 v1 0 0).bind fun y12 => some y12
def m_X9_byRegisters_L25 (N : Nat) : Nat → zS → Nat → Int32 → Int32 → Int32 → Option (Int32)
  | 0, _, _, _, _, _ => none
  | n + 1, σ, v0, v1, v3, v4 => if 8 ≤ v4 then (some v3) else ((aI 1 σ v0 ((v1 + 14) + v4)).bind fun x7 => (some (v3 + (1 <<< ((14 - x7) &&& 31)))).bind fun x9 => (some (v4 + 1)).bind fun x11 => m_X9_byRegisters_L25 N n σ v0 v1 x9 x11)
def m_X9_byRegisters (N : Nat) (σ : zS) (v0 : Nat) (v1 : Int32) : Option (Int32) := (m_X9_filled N σ v0 v1).bind fun x2 => (some (8 - x2)).bind fun x3 => if x3 ≤ 0 then ((m_X9_byRegisters_L25 N N σ v0 v1 0 0).bind fun y13 => (ckD y13).bind fun u15 => some (655360 / y13)) else ((m_X9_harmonic N σ x3 8).bind fun x18 => some x18)
def m_X9_rough (N : Nat) (σ : zS) (v0 : Nat) (v1 : Int32) : Option (Int32) := (aI 1 σ v0 (v1 + 0)).bind fun x1 => if x1 = 0 then ((aI 1 σ v0 (v1 + 4)).bind fun x4 => (m_X9_lit N σ x4).bind fun x7 => (m_X9_harmonic N σ (32 - x7) 32).bind fun x9 => some x9) else (if x1 = 1 then ((aI 1 σ v0 (v1 + 5)).bind fun x11 => if 8 ≤ x11 then ((aI 1 σ v0 (((v1 + 6) + 8) - 1)).bind fun x14 => (ckD (x14 + 1)).bind fun u16 => some (458752 / (x14 + 1))) else ((aI 1 σ v0 (v1 + 5)).bind fun x18 => some x18)) else ((m_X9_byRegisters N σ v0 v1).bind fun x21 => some x21))
def m_X9_low (N : Nat) (σ : zS) (v0 : Nat) (v1 : Int32) : Option (Int32) := (aI 1 σ v0 (v1 + 0)).bind fun x1 => if x1 = 0 then ((aI 1 σ v0 (v1 + 4)).bind fun x9 => (m_X9_lit N σ x9).bind fun x12 => some x12) else (if x1 = 1 then ((aI 1 σ v0 (v1 + 5)).bind fun x7 => some x7) else ((m_X9_filled N σ v0 v1).bind fun x6 => some x6))
def m_X9_high (N : Nat) (σ : zS) (v0 : Nat) (v1 : Int32) : Option (Int32) := (aI 1 σ v0 (v1 + 2)).bind fun x1 => if 1000 ≤ x1 then (some 1000) else ((aI 1 σ v0 (v1 + 2)).bind fun x4 => some x4)
def m_X9_told (N : Nat) (σ : zS) (v0 : Nat) (v1 : Int32) : Option (Int32) := (m_X9_rough N σ v0 v1).bind fun x2 => (m_X9_low N σ v0 v1).bind fun x4 => (m_X9_high N σ v0 v1).bind fun x6 => (if x4 ≤ x2 then (some x2) else (some x4)).bind fun y9 => if y9 ≤ x6 then (some y9) else (some x6)
def m_X9_toldOf (N : Nat) (σ : zS) (v0 : Nat) (v1 : Int32) : Option (Int32) := (gA σ 9 0 v0).bind fun a1 => (m_X9_told N σ a1 (23 * v1)).bind fun x4 => some x4
def m_X9_seesRow_L65 (N : Nat) : Nat → zS → Nat → Int32 → Int32 → Int32 → Int32 → Int32 → Option (zS)
  | 0, _, _, _, _, _, _, _ => none
  | n + 1, σ, v0, v1, v3, v4, v5, v6 => if v4 ≤ v6 then (some σ) else ((isO σ 9 v0).bind fun u21 => (m_X9_sees N σ v0 v1 v5).bind fun σ24 => (some (irem (v5 + v3) 1000)).bind fun x25 => (some (v6 + 1)).bind fun x27 => m_X9_seesRow_L65 N n σ24 v0 v1 v3 v4 x25 x27)
def m_X9_seesRow (N : Nat) (σ : zS) (v0 : Nat) (v1 : Int32) (v2 : Int32) (v3 : Int32) (v4 : Int32) : Option (Int32 × zS) := (isO σ 9 v0).bind fun u1 => (m_X9_isTable N σ v0 v1).bind fun x4 => if x4 = 0 then (some ((-1), σ)) else ((m_X9_isThing N σ v2).bind fun x7 => if x7 = 0 then (some ((-1), σ)) else ((m_X9_in N σ v3 0 999).bind fun x10 => if x10 = 0 then (some ((-1), σ)) else ((m_X9_in N σ v4 1 100).bind fun x13 => if x13 = 0 then (some ((-1), σ)) else ((gA σ 9 0 v0).bind fun a15 => (aI 1 σ a15 139).bind fun x17 => if (x17 + v4) ≤ 20000 then ((m_X9_seesRow_L65 N N σ v0 v1 v3 v4 v2 0).bind fun σ29 => (isO σ29 9 v0).bind fun u31 => (m_X9_toldOf N σ29 v0 v1).bind fun x34 => some (x34, σ29)) else (some ((-3), σ))))))
def m_X9_swap_L2 (N : Nat) : Nat → zS → Nat → Int32 → Option (zS)
  | 0, _, _, _ => none
  | n + 1, σ, v0, v1 => if 6165 ≤ v1 then (some σ) else ((gA σ 9 0 v0).bind fun a2 => (aI 1 σ a2 v1).bind fun x4 => (gA σ 9 0 v0).bind fun a6 => (gA σ 9 1 v0).bind fun a8 => (aI 1 σ a8 v1).bind fun x10 => (uI 1 σ a6 v1 x10).bind fun σ12 => (gA σ12 9 1 v0).bind fun a14 => (uI 1 σ12 a14 v1 x4).bind fun σ16 => (some (v1 + 1)).bind fun x18 => m_X9_swap_L2 N n σ16 v0 x18)
def m_X9_swap (N : Nat) (σ : zS) (v0 : Nat) : Option (zS) := (m_X9_swap_L2 N N σ v0 0).bind fun σ20 => some σ20
def m_X9_lays (N : Nat) (σ : zS) (v0 : Nat) (v1 : Int32) : Option (zS) := if v1 = 0 then ((gA σ 9 0 v0).bind fun a2 => (gA σ 9 2 v0).bind fun a4 => (m_X9_copy N σ a2 a4).bind fun σ7 => some σ7) else (if v1 = 1 then ((gA σ 9 0 v0).bind fun a9 => (gA σ 9 3 v0).bind fun a11 => (m_X9_copy N σ a9 a11).bind fun σ14 => some σ14) else (if v1 = 2 then ((gA σ 9 0 v0).bind fun a16 => (gA σ 9 4 v0).bind fun a18 => (m_X9_copy N σ a16 a18).bind fun σ21 => some σ21) else ((gA σ 9 0 v0).bind fun a22 => (gA σ 9 5 v0).bind fun a24 => (m_X9_copy N σ a22 a24).bind fun σ27 => some σ27)))
def m_X9_records (N : Nat) (σ : zS) (v0 : Nat) : Option (zS) := (gI σ 9 7 v0).bind fun x1 => (if x1 = 4 then ((gI σ 9 6 v0).bind fun x5 => (sI σ 9 6 v0 (irem (x5 + 1) 4)).bind fun σ7 => (gI σ7 9 7 v0).bind fun x9 => (sI σ7 9 7 v0 (x9 - 1)).bind fun σ11 => some σ11) else (some σ)).bind fun σ13 => (gI σ13 9 6 v0).bind fun x14 => (gI σ13 9 7 v0).bind fun x16 => (isO σ13 9 v0).bind fun u18 => (m_X9_lays N σ13 v0 (irem (x14 + x16) 4)).bind fun σ21 => (gI σ21 9 7 v0).bind fun x22 => (sI σ21 9 7 v0 (x22 + 1)).bind fun σ24 => some σ24
def m_X9_ends (N : Nat) (σ : zS) (v0 : Nat) (v1 : Int32) : Option (Int32 × zS) := if 0 ≤ v1 then ((isO σ 9 v0).bind fun u2 => (m_X9_swap N σ v0).bind fun σ5 => (isO σ5 9 v0).bind fun u6 => (m_X9_records N σ5 v0).bind fun σ9 => (isO σ9 9 v0).bind fun u10 => (m_X9_swap N σ9 v0).bind fun σ13 => some (v1, σ13)) else ((gA σ 9 1 v0).bind fun a14 => (gA σ 9 0 v0).bind fun a16 => (m_X9_copy N σ a14 a16).bind fun σ19 => some (v1, σ19))
def m_X9_add (N : Nat) (σ : zS) (v0 : Nat) (v1 : Int32) (v2 : Int32) : Option (Int32 × zS) := (gA σ 9 0 v0).bind fun a1 => (gA σ 9 1 v0).bind fun a3 => (m_X9_copy N σ a1 a3).bind fun σ6 => (isO σ6 9 v0).bind fun u7 => b2 (m_X9_seesRow N σ6 v0 v1 v2 0 1) fun x11 σ10 => (isO σ10 9 v0).bind fun u12 => b2 (m_X9_ends N σ10 v0 x11) fun x16 σ15 => some (x16, σ15)
def m_X9_addRow (N : Nat) (σ : zS) (v0 : Nat) (v1 : Int32) (v2 : Int32) (v3 : Int32) (v4 : Int32) : Option (Int32 × zS) := (gA σ 9 0 v0).bind fun a1 => (gA σ 9 1 v0).bind fun a3 => (m_X9_copy N σ a1 a3).bind fun σ6 => (isO σ6 9 v0).bind fun u7 => b2 (m_X9_seesRow N σ6 v0 v1 v2 v3 v4) fun x11 σ10 => (isO σ10 9 v0).bind fun u12 => b2 (m_X9_ends N σ10 v0 x11) fun x16 σ15 => some (x16, σ15)
def m_X9_exact (N : Nat) (σ : zS) (v0 : Nat) (v1 : Int32) : Option (Int32) := (gA σ 9 0 v0).bind fun a1 => (aI 1 σ a1 ((23 * v1) + 22)).bind fun x3 => some x3
def m_X9_error (N : Nat) (σ : zS) (v0 : Nat) (v1 : Int32) : Option (Int32) := (isO σ 9 v0).bind fun u1 => (m_X9_toldOf N σ v0 v1).bind fun x4 => (isO σ 9 v0).bind fun u5 => (m_X9_exact N σ v0 v1).bind fun x8 => some (x4 - x8)
def m_X9_amount (N : Nat) (σ : zS) (v0 : Nat) (v1 : Int32) : Option (Int32) := (isO σ 9 v0).bind fun u1 => (m_X9_error N σ v0 v1).bind fun x4 => if 0 ≤ x4 then (some x4) else (some (-x4))
def m_X9_areAlike (N : Nat) (σ : zS) (v0 : Nat) (v1 : Int32) (v2 : Int32) : Option (Int32) := (gA σ 9 0 v0).bind fun a1 => (aI 1 σ a1 ((23 * v1) + 0)).bind fun x3 => (gA σ 9 0 v0).bind fun a5 => (aI 1 σ a5 ((23 * v2) + 0)).bind fun x7 => if x3 = x7 then ((gA σ 9 0 v0).bind fun a10 => (aI 1 σ a10 ((23 * v1) + 1)).bind fun x12 => (gA σ 9 0 v0).bind fun a14 => (aI 1 σ a14 ((23 * v2) + 1)).bind fun x16 => if x12 = x16 then (some 1) else (some 0)) else (some 0)
def m_X9_seenByBoth_L6 (N : Nat) : Nat → zS → Nat → Int32 → Int32 → Int32 → Int32 → Int32 → Option (Int32)
  | 0, _, _, _, _, _, _, _ => none
  | n + 1, σ, v0, v1, v2, v3, v4, v5 => if 1000 ≤ v5 then (some v4) else ((gA σ 9 0 v0).bind fun a2 => (aI 1 σ a2 ((165 + (1000 * v1)) + v5)).bind fun x4 => (if x4 ≤ 0 then (some 0) else (some 1)).bind fun y8 => (gA σ 9 0 v0).bind fun a9 => (aI 1 σ a9 ((165 + (1000 * v2)) + v5)).bind fun x11 => (if x11 ≤ 0 then (some 0) else (some 1)).bind fun y15 => (some (y8 + y15)).bind fun x16 => (if x16 < v3 then (some 0) else (some 1)).bind fun y20 => (some (v4 + y20)).bind fun x21 => (some (v5 + 1)).bind fun x23 => m_X9_seenByBoth_L6 N n σ v0 v1 v2 v3 x21 x23)
def m_X9_seenByBoth (N : Nat) (σ : zS) (v0 : Nat) (v1 : Int32) (v2 : Int32) (v3 : Int32) : Option (Int32) := (m_X9_seenByBoth_L6 N N σ v0 v1 v2 v3 0 0).bind fun y28 => some y28
def m_X9_laysMix_L2 (N : Nat) : Nat → zS → Nat → Int32 → Int32 → Option (zS)
  | 0, _, _, _, _ => none
  | n + 1, σ, v0, v1, v2 => if 23 ≤ v2 then (some σ) else ((gA σ 9 8 v0).bind fun a2 => (gA σ 9 0 v0).bind fun a4 => (aI 1 σ a4 ((23 * v1) + v2)).bind fun x6 => (uI 1 σ a2 v2 x6).bind fun σ8 => (some (v2 + 1)).bind fun x10 => m_X9_laysMix_L2 N n σ8 v0 v1 x10)
def m_X9_laysMix (N : Nat) (σ : zS) (v0 : Nat) (v1 : Int32) : Option (zS) := (m_X9_laysMix_L2 N N σ v0 v1 0).bind fun σ12 => some σ12
def m_X9_mingles_L16 (N : Nat) : Nat → zS → Nat → Int32 → Nat → Int32 → Int32 → Option (zS)
  | 0, _, _, _, _, _, _ => none
  | n + 1, σ, v0, v1, v2, v3, v4 => (aI 1 σ v2 (v3 + 5)).bind fun x9 => if x9 ≤ v4 then (some σ) else ((aI 1 σ v2 ((v3 + 6) + v4)).bind fun x12 => (m_X9_keepHash N σ v0 v1 x12).bind fun σ15 => (some (v4 + 1)).bind fun x16 => m_X9_mingles_L16 N n σ15 v0 v1 v2 v3 x16)
def m_X9_mingles_L49 (N : Nat) : Nat → zS → Nat → Int32 → Nat → Int32 → Int32 → Option (zS)
  | 0, _, _, _, _, _, _ => none
  | n + 1, σ, v0, v1, v2, v3, v4 => if 8 ≤ v4 then (some σ) else ((aI 1 σ v2 ((v3 + 14) + v4)).bind fun x21 => (m_X9_keepRegister N σ v0 v1 v4 x21).bind fun σ24 => (some (v4 + 1)).bind fun x25 => m_X9_mingles_L49 N n σ24 v0 v1 v2 v3 x25)
def m_X9_mingles (N : Nat) (σ : zS) (v0 : Nat) (v1 : Int32) (v2 : Nat) (v3 : Int32) : Option (zS) := (some (v1 + 4)).bind fun x1 => (aI 1 σ v0 x1).bind fun x3 => (aI 1 σ v2 (v3 + 4)).bind fun x5 => (uI 1 σ v0 x1 (x3 ||| x5)).bind fun σ7 => (m_X9_mingles_L16 N N σ7 v0 v1 v2 v3 0).bind fun σ18 => (m_X9_mingles_L49 N N σ18 v0 v1 v2 v3 0).bind fun σ27 => some σ27
def m_X9_toldOfBoth (N : Nat) (σ : zS) (v0 : Nat) (v1 : Int32) (v2 : Int32) : Option (Int32 × zS) := (isO σ 9 v0).bind fun u1 => (m_X9_laysMix N σ v0 v1).bind fun σ4 => (gA σ4 9 8 v0).bind fun a5 => (gA σ4 9 0 v0).bind fun a7 => (m_X9_mingles N σ4 a5 0 a7 (23 * v2)).bind fun σ10 => (gA σ10 9 8 v0).bind fun a11 => (gA σ10 9 8 v0).bind fun a13 => (aI 1 σ10 a13 2).bind fun x15 => (gA σ10 9 0 v0).bind fun a17 => (aI 1 σ10 a17 ((23 * v2) + 2)).bind fun x19 => (isO σ10 9 v0).bind fun u21 => (m_X9_added N σ10 v0 x15 x19).bind fun x24 => (uI 1 σ10 a11 2 x24).bind fun σ25 => (gA σ25 9 8 v0).bind fun a27 => (m_X9_told N σ25 a27 0).bind fun x30 => some (x30, σ25)
def m_X9_both (N : Nat) (σ : zS) (v0 : Nat) (v1 : Int32) (v2 : Int32) (v3 : Int32) : Option (Int32 × zS) := (isO σ 9 v0).bind fun u1 => (m_X9_isTable N σ v0 v1).bind fun x4 => if x4 = 0 then (some ((-1), σ)) else ((isO σ 9 v0).bind fun u6 => (m_X9_isTable N σ v0 v2).bind fun x9 => if x9 = 0 then (some ((-1), σ)) else ((m_X9_in N σ v3 0 3).bind fun x12 => if x12 = 0 then (some ((-1), σ)) else (if (irem v3 2) = 1 then ((if v3 = 1 then (some 1) else (some 2)).bind fun y39 => (isO σ 9 v0).bind fun u40 => (m_X9_seenByBoth N σ v0 v1 v2 y39).bind fun x43 => some (x43, σ)) else ((isO σ 9 v0).bind fun u15 => (m_X9_areAlike N σ v0 v1 v2).bind fun x18 => if x18 = 0 then (some ((-2), σ)) else ((isO σ 9 v0).bind fun u20 => b2 (m_X9_toldOfBoth N σ v0 v1 v2) fun x24 σ23 => (isO σ23 9 v0).bind fun u25 => (m_X9_toldOf N σ23 v0 v1).bind fun x28 => (isO σ23 9 v0).bind fun u29 => (m_X9_toldOf N σ23 v0 v2).bind fun x32 => (some ((x28 + x32) - x24)).bind fun x33 => if v3 = 0 then (some (x24, σ23)) else (if 0 ≤ x33 then (some (x33, σ23)) else (some (0, σ23))))))))
def m_X9_brings (N : Nat) (σ : zS) (v0 : Nat) (v1 : Int32) : Option (zS) := if v1 = 0 then ((gA σ 9 2 v0).bind fun a2 => (gA σ 9 0 v0).bind fun a4 => (m_X9_copy N σ a2 a4).bind fun σ7 => some σ7) else (if v1 = 1 then ((gA σ 9 3 v0).bind fun a9 => (gA σ 9 0 v0).bind fun a11 => (m_X9_copy N σ a9 a11).bind fun σ14 => some σ14) else (if v1 = 2 then ((gA σ 9 4 v0).bind fun a16 => (gA σ 9 0 v0).bind fun a18 => (m_X9_copy N σ a16 a18).bind fun σ21 => some σ21) else ((gA σ 9 5 v0).bind fun a22 => (gA σ 9 0 v0).bind fun a24 => (m_X9_copy N σ a22 a24).bind fun σ27 => some σ27)))
def m_X9_byError_L25 (N : Nat) : Nat → zS → Nat → Int32 → Int32 → Int32 → Int32 → Option (Int32)
  | 0, _, _, _, _, _, _ => none
  | n + 1, σ, v0, v1, v2, v3, v4 => (gA σ 9 0 v0).bind fun a7 => (aI 1 σ a7 138).bind fun x9 => if x9 ≤ v4 then (some v3) else ((isO σ 9 v0).bind fun u12 => (m_X9_amount N σ v0 v4).bind fun x15 => (isO σ 9 v0).bind fun u16 => (m_X9_amount N σ v0 v2).bind fun x19 => (if x19 < x15 then (some 1) else ((isO σ 9 v0).bind fun u22 => (m_X9_amount N σ v0 v4).bind fun x25 => (isO σ 9 v0).bind fun u26 => (m_X9_amount N σ v0 v2).bind fun x29 => if x25 = x29 then (if v2 ≤ v4 then (some 0) else (some 1)) else (some 0))).bind fun y32 => (some (v3 + y32)).bind fun x33 => (some (v4 + 1)).bind fun x35 => m_X9_byError_L25 N n σ v0 v1 v2 x33 x35)
def m_X9_byError_L8 (N : Nat) : Nat → zS → Nat → Int32 → Int32 → Option ((Int32) ⊕ (Unit))
  | 0, _, _, _, _ => none
  | n + 1, σ, v0, v1, v2 => (gA σ 9 0 v0).bind fun a2 => (aI 1 σ a2 138).bind fun x4 => if x4 ≤ v2 then (some (.inr ())) else ((m_X9_byError_L25 N N σ v0 v1 v2 0 0).bind fun y38 => if y38 = v1 then (some (.inl v2)) else ((some (v2 + 1)).bind fun x41 => m_X9_byError_L8 N n σ v0 v1 x41))
def m_X9_byError (N : Nat) (σ : zS) (v0 : Nat) (v1 : Int32) : Option (Int32) := if 0 ≤ v1 then (bs (m_X9_byError_L8 N N σ v0 v1 0) (fun r => some r) fun _ => some (-4)) else (some (-1))
def m_X9_clearText (N : Nat) (σ : zS) (v0 : Nat) : Option (Int32 × zS) := (gI σ 9 10 v0).bind fun x1 => (sI σ 9 10 v0 0).bind fun σ3 => some (x1, σ3)
def m_X9_here (N : Nat) (σ : zS) (v0 : Nat) : Option (Int32) := (gI σ 9 11 v0).bind fun x1 => (gI σ 9 10 v0).bind fun x3 => if x3 ≤ x1 then (some (-1)) else ((gA σ 9 9 v0).bind fun a6 => (gI σ 9 11 v0).bind fun x8 => (aI 1 σ a6 x8).bind fun x10 => some x10)
def m_X9_must (N : Nat) (σ : zS) (v0 : Nat) (v1 : Int32) : Option (zS) := (gI σ 9 12 v0).bind fun x1 => (if x1 = 0 then (some 0) else ((isO σ 9 v0).bind fun u5 => (m_X9_here N σ v0).bind fun x8 => if x8 = v1 then (some 1) else (some 0))).bind fun y10 => (ckZ y10).bind fun x13 => (sI σ 9 12 v0 x13).bind fun σ11 => (gI σ11 9 11 v0).bind fun x15 => (sI σ11 9 11 v0 (x15 + 1)).bind fun σ17 => some σ17
def m_X9_number_L9 (N : Nat) : Nat → zS → Nat → Int32 → Int32 → Option (Int32 × Int32 × zS)
  | 0, _, _, _, _ => none
  | n + 1, σ, v0, v2, v3 => if 3 ≤ v3 then (some (v2, v3, σ)) else ((isO σ 9 v0).bind fun u6 => (m_X9_here N σ v0).bind fun x9 => (m_X9_in N σ x9 48 57).bind fun x11 => if x11 = 0 then (some (v2, v3, σ)) else ((isO σ 9 v0).bind fun u13 => (m_X9_here N σ v0).bind fun x16 => (some (((10 * v2) + x16) - 48)).bind fun x17 => (some (v3 + 1)).bind fun x19 => (gI σ 9 11 v0).bind fun x21 => (sI σ 9 11 v0 (x21 + 1)).bind fun σ23 => m_X9_number_L9 N n σ23 v0 x17 x19))
def m_X9_number (N : Nat) (σ : zS) (v0 : Nat) (v1 : Int32) : Option (Int32 × zS) := (isO σ 9 v0).bind fun u1 => (m_X9_must N σ v0 v1).bind fun σ4 => b3 (m_X9_number_L9 N N σ4 v0 0 0) fun y25 y26 σ27 => (gI σ27 9 12 v0).bind fun x29 => (if x29 = 0 then (some 0) else (if y26 ≤ 0 then (some 0) else (some 1))).bind fun y34 => (ckZ y34).bind fun x37 => (sI σ27 9 12 v0 x37).bind fun σ35 => some (y25, σ35)
def m_X9_forgets_L2 (N : Nat) : Nat → zS → Nat → Int32 → Int32 → Option (zS)
  | 0, _, _, _, _ => none
  | n + 1, σ, v0, v1, v2 => if 1000 ≤ v2 then (some σ) else ((gA σ 9 0 v0).bind fun a2 => (uI 1 σ a2 ((165 + (1000 * v1)) + v2) 0).bind fun σ4 => (some (v2 + 1)).bind fun x6 => m_X9_forgets_L2 N n σ4 v0 v1 x6)
def m_X9_forgets (N : Nat) (σ : zS) (v0 : Nat) (v1 : Int32) : Option (zS) := (m_X9_forgets_L2 N N σ v0 v1 0).bind fun σ8 => some σ8
def m_X9_makeTable_L52 (N : Nat) : Nat → zS → Nat → Int32 → Int32 → Int32 → Int32 → Option (zS)
  | 0, _, _, _, _, _, _ => none
  | n + 1, σ, v0, v1, v2, v3, v4 => if 23 ≤ v4 then (some σ) else ((gA σ 9 0 v0).bind fun a19 => (uI 1 σ a19 (v3 + v4) 0).bind fun σ21 => (some (v4 + 1)).bind fun x23 => m_X9_makeTable_L52 N n σ21 v0 v1 v2 v3 x23)
def m_X9_makeTable (N : Nat) (σ : zS) (v0 : Nat) (v1 : Int32) (v2 : Int32) : Option (Int32 × zS) := (m_X9_in N σ v1 0 2).bind fun x2 => if x2 = 0 then (some ((-1), σ)) else ((m_X9_in N σ v2 0 9).bind fun x5 => if x5 = 0 then (some ((-1), σ)) else ((gA σ 9 0 v0).bind fun a7 => (aI 1 σ a7 138).bind fun x9 => if x9 = 6 then (some ((-3), σ)) else ((gA σ 9 0 v0).bind fun a12 => (aI 1 σ a12 138).bind fun x14 => (some (23 * x14)).bind fun x16 => (m_X9_makeTable_L52 N N σ v0 v1 v2 x16 0).bind fun σ25 => (gA σ25 9 0 v0).bind fun a27 => (uI 1 σ25 a27 (x16 + 0) v1).bind fun σ29 => (gA σ29 9 0 v0).bind fun a31 => (uI 1 σ29 a31 (x16 + 1) v2).bind fun σ33 => (gA σ33 9 0 v0).bind fun a35 => (aI 1 σ33 a35 138).bind fun x37 => (isO σ33 9 v0).bind fun u39 => (m_X9_forgets N σ33 v0 x37).bind fun σ42 => (gA σ42 9 0 v0).bind fun a43 => (aI 1 σ42 a43 138).bind fun x45 => (uI 1 σ42 a43 138 (x45 + 1)).bind fun σ47 => (gA σ47 9 0 v0).bind fun a49 => (aI 1 σ47 a49 138).bind fun x51 => some ((x51 - 1), σ47))))
def m_X9_mergesInto_L93 (N : Nat) : Nat → zS → Nat → Int32 → Int32 → Int32 → Option (zS)
  | 0, _, _, _, _, _ => none
  | n + 1, σ, v0, v1, v2, v3 => if 1000 ≤ v3 then (some σ) else ((gA σ 9 0 v0).bind fun a40 => (aI 1 σ a40 ((165 + (1000 * v2)) + v3)).bind fun x42 => (gA σ 9 0 v0).bind fun a44 => (aI 1 σ a44 ((165 + (1000 * v1)) + v3)).bind fun x46 => (gA σ 9 0 v0).bind fun a48 => (some ((23 * v1) + 22)).bind fun x50 => (aI 1 σ a48 x50).bind fun x52 => (if x46 = 0 then (if x42 ≤ 0 then (some 0) else (some 1)) else (some 0)).bind fun y57 => (uI 1 σ a48 x50 (x52 + y57)).bind fun σ58 => (gA σ58 9 0 v0).bind fun a60 => (if x46 = 0 then (some x42) else (if x42 ≤ 0 then (some x46) else (if x46 ≤ x42 then (some x46) else (some x42)))).bind fun y66 => (uI 1 σ58 a60 ((165 + (1000 * v1)) + v3) y66).bind fun σ67 => (some (v3 + 1)).bind fun x69 => m_X9_mergesInto_L93 N n σ67 v0 v1 v2 x69)
def m_X9_mergesInto (N : Nat) (σ : zS) (v0 : Nat) (v1 : Int32) (v2 : Int32) : Option (Int32 × zS) := (isO σ 9 v0).bind fun u1 => (m_X9_isTable N σ v0 v1).bind fun x4 => if x4 = 0 then (some ((-1), σ)) else ((isO σ 9 v0).bind fun u6 => (m_X9_isTable N σ v0 v2).bind fun x9 => if x9 = 0 then (some ((-1), σ)) else (if v1 = v2 then (some ((-1), σ)) else ((isO σ 9 v0).bind fun u12 => (m_X9_areAlike N σ v0 v1 v2).bind fun x15 => if x15 = 0 then (some ((-2), σ)) else ((gA σ 9 0 v0).bind fun a17 => (gA σ 9 0 v0).bind fun a19 => (m_X9_mingles N σ a17 (23 * v1) a19 (23 * v2)).bind fun σ22 => (gA σ22 9 0 v0).bind fun a23 => (gA σ22 9 0 v0).bind fun a25 => (aI 1 σ22 a25 ((23 * v1) + 2)).bind fun x27 => (gA σ22 9 0 v0).bind fun a29 => (aI 1 σ22 a29 ((23 * v2) + 2)).bind fun x31 => (isO σ22 9 v0).bind fun u33 => (m_X9_added N σ22 v0 x27 x31).bind fun x36 => (uI 1 σ22 a23 ((23 * v1) + 2) x36).bind fun σ37 => (m_X9_mergesInto_L93 N N σ37 v0 v1 v2 0).bind fun σ73 => (isO σ73 9 v0).bind fun u75 => (m_X9_toldOf N σ73 v0 v1).bind fun x78 => some (x78, σ73)))))
def m_X9_resetsOne_L25 (N : Nat) : Nat → zS → Nat → Int32 → Int32 → Option (zS)
  | 0, _, _, _, _ => none
  | n + 1, σ, v0, v1, v2 => if 21 ≤ v2 then (some σ) else ((gA σ 9 0 v0).bind fun a13 => (gA σ 9 0 v0).bind fun a15 => (aI 1 σ a15 (144 + v2)).bind fun x17 => (uI 1 σ a13 (141 + v2) x17).bind fun σ19 => (some (v2 + 1)).bind fun x21 => m_X9_resetsOne_L25 N n σ19 v0 v1 x21)
def m_X9_resetsOne_L134 (N : Nat) : Nat → zS → Nat → Int32 → Int32 → Int32 → Option (zS)
  | 0, _, _, _, _, _ => none
  | n + 1, σ, v0, v1, v3, v4 => if 23 ≤ v4 then (some σ) else ((gA σ 9 0 v0).bind fun a54 => (if v4 = 3 then ((gA σ 9 0 v0).bind fun a58 => (aI 1 σ a58 ((23 * v1) + v4)).bind fun x60 => some (x60 + 1)) else (some 0)).bind fun y62 => (uI 1 σ a54 ((23 * v1) + v4) y62).bind fun σ63 => (some (v4 + 1)).bind fun x65 => m_X9_resetsOne_L134 N n σ63 v0 v1 v3 x65)
def m_X9_resetsOne (N : Nat) (σ : zS) (v0 : Nat) (v1 : Int32) : Option (Int32 × zS) := (isO σ 9 v0).bind fun u1 => (m_X9_isTable N σ v0 v1).bind fun x4 => if x4 = 0 then (some ((-1), σ)) else ((gA σ 9 0 v0).bind fun a6 => (aI 1 σ a6 140).bind fun x8 => (if x8 = 8 then ((m_X9_resetsOne_L25 N N σ v0 v1 0).bind fun σ12 => (gA σ12 9 0 v0).bind fun a14 => (aI 1 σ12 a14 140).bind fun x16 => (uI 1 σ12 a14 140 (x16 - 1)).bind fun σ18 => some σ18) else (some σ)).bind fun σ20 => (gA σ20 9 0 v0).bind fun a21 => (aI 1 σ20 a21 140).bind fun x23 => (some (141 + (3 * x23))).bind fun x25 => (isO σ20 9 v0).bind fun u27 => (m_X9_exact N σ20 v0 v1).bind fun x30 => (gA σ20 9 0 v0).bind fun a31 => (uI 1 σ20 a31 x25 v1).bind fun σ33 => (gA σ33 9 0 v0).bind fun a35 => (isO σ33 9 v0).bind fun u37 => (m_X9_toldOf N σ33 v0 v1).bind fun x40 => (uI 1 σ33 a35 (x25 + 1) x40).bind fun σ41 => (gA σ41 9 0 v0).bind fun a43 => (uI 1 σ41 a43 (x25 + 2) x30).bind fun σ45 => (gA σ45 9 0 v0).bind fun a47 => (aI 1 σ45 a47 140).bind fun x49 => (uI 1 σ45 a47 140 (x49 + 1)).bind fun σ51 => (m_X9_resetsOne_L134 N N σ51 v0 v1 x30 2).bind fun σ68 => (isO σ68 9 v0).bind fun u70 => (m_X9_forgets N σ68 v0 v1).bind fun σ73 => some (x30, σ73))
def m_X9_command (N : Nat) (σ : zS) (v0 : Nat) : Option (Int32 × zS) := (isO σ 9 v0).bind fun u1 => (m_X9_here N σ v0).bind fun x4 => (if x4 = 107 then (some 1) else (if x4 = 97 then (some 1) else (if x4 = 115 then (some 1) else (if x4 = 109 then (some 1) else (if x4 = 122 then (some 1) else (some 0)))))).bind fun y11 => (ckZ y11).bind fun x14 => (sI σ 9 12 v0 x14).bind fun σ12 => (isO σ12 9 v0).bind fun u16 => b2 (m_X9_number N σ12 v0 x4) fun x20 σ19 => b2 (if x4 = 122 then (some (0, σ19)) else ((isO σ19 9 v0).bind fun u23 => b2 (m_X9_number N σ19 v0 44) fun x27 σ26 => some (x27, σ26))) fun y28 σ29 => b2 (if x4 = 115 then ((isO σ29 9 v0).bind fun u32 => b2 (m_X9_number N σ29 v0 44) fun x36 σ35 => some (x36, σ35)) else (some (0, σ29))) fun y37 σ38 => b2 (if x4 = 115 then ((isO σ38 9 v0).bind fun u41 => b2 (m_X9_number N σ38 v0 44) fun x45 σ44 => some (x45, σ44)) else (some (0, σ38))) fun y46 σ47 => (isO σ47 9 v0).bind fun u48 => (m_X9_must N σ47 v0 59).bind fun σ51 => (gI σ51 9 12 v0).bind fun x52 => if x52 = 0 then (some (0, σ51)) else (if x4 = 97 then ((isO σ51 9 v0).bind fun u56 => b2 (m_X9_seesRow N σ51 v0 x20 y28 0 1) fun x60 σ59 => some (x60, σ59)) else (if x4 = 107 then ((isO σ51 9 v0).bind fun u62 => b2 (m_X9_makeTable N σ51 v0 x20 y28) fun x66 σ65 => some (x66, σ65)) else (if x4 = 109 then ((isO σ51 9 v0).bind fun u68 => b2 (m_X9_mergesInto N σ51 v0 x20 y28) fun x72 σ71 => some (x72, σ71)) else (if x4 = 115 then ((isO σ51 9 v0).bind fun u74 => b2 (m_X9_seesRow N σ51 v0 x20 y28 y37 y46) fun x78 σ77 => some (x78, σ77)) else ((isO σ51 9 v0).bind fun u79 => b2 (m_X9_resetsOne N σ51 v0 x20) fun x83 σ82 => some (x83, σ82))))))
def m_X9_couldHave_L28 (N : Nat) : Nat → zS → Nat → Int32 → Int32 → Int32 → Option (Int32)
  | 0, _, _, _, _, _ => none
  | n + 1, σ, v0, v1, v3, v4 => if 22 ≤ v4 then (some v3) else ((if v3 = 0 then (some 0) else ((gA σ 9 8 v0).bind fun a18 => (aI 1 σ a18 v4).bind fun x20 => (gA σ 9 0 v0).bind fun a22 => (aI 1 σ a22 ((23 * v1) + v4)).bind fun x24 => if x20 = x24 then (some 1) else (some 0))).bind fun y27 => (some (v4 + 1)).bind fun x28 => m_X9_couldHave_L28 N n σ v0 v1 y27 x28)
def m_X9_couldHave (N : Nat) (σ : zS) (v0 : Nat) (v1 : Int32) (v2 : Int32) : Option (Int32 × zS) := (isO σ 9 v0).bind fun u1 => (m_X9_laysMix N σ v0 v1).bind fun σ4 => (gA σ4 9 8 v0).bind fun a5 => (gA σ4 9 8 v0).bind fun a7 => (aI 1 σ4 a7 1).bind fun x9 => (m_X9_hashOf N σ4 v2 x9).bind fun x12 => (m_X9_keeps N σ4 a5 0 x12).bind fun σ14 => (m_X9_couldHave_L28 N N σ14 v0 v1 1 4).bind fun y31 => (ckZ y31).bind fun x33 => some (x33, σ14)
def m_X9_seenBy_L17 (N : Nat) : Nat → zS → Nat → Int32 → Int32 → Int32 → Int32 → Int32 → Option (Int32)
  | 0, _, _, _, _, _, _, _ => none
  | n + 1, σ, v0, v1, v2, v3, v4, v5 => (gA σ 9 0 v0).bind fun a2 => (aI 1 σ a2 138).bind fun x4 => if x4 ≤ v5 then (some v4) else ((gA σ 9 0 v0).bind fun a7 => (aI 1 σ a7 ((165 + (1000 * v5)) + v3)).bind fun x9 => (if x9 ≤ 0 then (some 0) else (some 1)).bind fun y13 => (some (v4 + y13)).bind fun x14 => (some (v5 + 1)).bind fun x16 => m_X9_seenBy_L17 N n σ v0 v1 v2 v3 x14 x16)
def m_X9_seenBy_L4 (N : Nat) : Nat → zS → Nat → Int32 → Int32 → Int32 → Option (Int32)
  | 0, _, _, _, _, _ => none
  | n + 1, σ, v0, v1, v2, v3 => if 1000 ≤ v3 then (some v2) else ((m_X9_seenBy_L17 N N σ v0 v1 v2 v3 0 0).bind fun y19 => (if y19 ≤ 0 then (some 0) else (if v1 = 0 then (some 1) else ((gA σ 9 0 v0).bind fun a24 => (aI 1 σ a24 138).bind fun x26 => if y19 = x26 then (some 1) else (some 0)))).bind fun y29 => (some (v2 + y29)).bind fun x30 => (some (v3 + 1)).bind fun x32 => m_X9_seenBy_L4 N n σ v0 v1 x30 x32)
def m_X9_seenBy (N : Nat) (σ : zS) (v0 : Nat) (v1 : Int32) : Option (Int32) := (m_X9_seenBy_L4 N N σ v0 v1 0 0).bind fun y35 => some y35
def m_X9_rightOnes_L4 (N : Nat) : Nat → zS → Nat → Int32 → Int32 → Option (Int32)
  | 0, _, _, _, _ => none
  | n + 1, σ, v0, v1, v2 => (gA σ 9 0 v0).bind fun a1 => (aI 1 σ a1 138).bind fun x3 => if x3 ≤ v2 then (some v1) else ((isO σ 9 v0).bind fun u6 => (m_X9_error N σ v0 v2).bind fun x9 => (if x9 = 0 then (some 1) else (some 0)).bind fun y12 => (some (v1 + y12)).bind fun x13 => (some (v2 + 1)).bind fun x15 => m_X9_rightOnes_L4 N n σ v0 x13 x15)
def m_X9_rightOnes (N : Nat) (σ : zS) (v0 : Nat) : Option (Int32) := (m_X9_rightOnes_L4 N N σ v0 0 0).bind fun y18 => some y18
def m_X9_count (N : Nat) (σ : zS) (v0 : Nat) (v1 : Int32) : Option (Int32) := if v1 = 0 then ((gA σ 9 0 v0).bind fun a2 => (aI 1 σ a2 138).bind fun x4 => some x4) else (if v1 = 1 then ((gA σ 9 0 v0).bind fun a7 => (aI 1 σ a7 139).bind fun x9 => some x9) else (if v1 = 2 then ((isO σ 9 v0).bind fun u12 => (m_X9_seenBy N σ v0 0).bind fun x15 => some x15) else (if v1 = 3 then ((isO σ 9 v0).bind fun u17 => (m_X9_seenBy N σ v0 1).bind fun x20 => some x20) else (if v1 = 4 then ((gA σ 9 0 v0).bind fun a22 => (aI 1 σ a22 140).bind fun x24 => some x24) else (if v1 = 5 then ((isO σ 9 v0).bind fun u27 => (m_X9_rightOnes N σ v0).bind fun x30 => some x30) else (if v1 = 6 then ((gI σ 9 7 v0).bind fun x32 => some x32) else (if v1 = 7 then ((gI σ 9 10 v0).bind fun x35 => some x35) else (some (-1)))))))))
def m_X9_does_L7 (N : Nat) : Nat → zS → Nat → Int32 → Option ((Int32 × zS) ⊕ (Int32 × zS))
  | 0, _, _, _ => none
  | n + 1, σ, v0, v1 => (gI σ 9 11 v0).bind fun x3 => (gI σ 9 10 v0).bind fun x5 => if x5 ≤ x3 then (some (.inr (v1, σ))) else ((gI σ 9 11 v0).bind fun x8 => (isO σ 9 v0).bind fun u10 => b2 (m_X9_command N σ v0) fun x14 σ13 => (gI σ13 9 12 v0).bind fun x15 => (if x15 = 0 then (some 1) else (if 0 ≤ x14 then (some 0) else (some 2))).bind fun y20 => (sI σ13 9 13 v0 y20).bind fun σ21 => (sI σ21 9 14 v0 x14).bind fun σ23 => (gI σ23 9 13 v0).bind fun x25 => if x25 ≤ 0 then ((some (v1 + 1)).bind fun x28 => m_X9_does_L7 N n σ23 v0 x28) else (some (.inl (x8, σ23))))
def m_X9_does (N : Nat) (σ : zS) (v0 : Nat) : Option (Int32 × zS) := (sI σ 9 11 v0 0).bind fun σ1 => bs (m_X9_does_L7 N N σ1 v0 0) (fun r => some r) fun z34 => b2 (some z34) fun y31 σ32 => some (((-1) - y31), σ32)
def m_X9_errorBits (N : Nat) (σ : zS) (v0 : Nat) (v1 : Int32) : Option (Int32) := (isO σ 9 v0).bind fun u1 => (m_X9_isTable N σ v0 v1).bind fun x4 => if x4 = 0 then (some (-1)) else ((isO σ 9 v0).bind fun u6 => (m_X9_exact N σ v0 v1).bind fun x9 => if x9 = 0 then (some (-4)) else ((isO σ 9 v0).bind fun u11 => (m_X9_error N σ v0 v1).bind fun x14 => (some (FP.i2f x14)).bind fun x15 => (isO σ 9 v0).bind fun u17 => (m_X9_exact N σ v0 v1).bind fun x20 => (some (FP.i2f x20)).bind fun x21 => (ckN (FP.fdiv x15 x21)).bind fun u23 => (m_Jxf58ca_floatToIntBits_5c35a N σ (FP.fdiv x15 x21)).bind fun x26 => some x26))
def m_X9_fault (N : Nat) (σ : zS) (v0 : Nat) (v1 : Int32) : Option (Int32 × zS) := (m_X9_in N σ v1 0 2).bind fun x2 => if x2 = 0 then (some ((-1), σ)) else ((gA σ 9 0 v0).bind fun a4 => (gA σ 9 1 v0).bind fun a6 => (m_X9_copy N σ a4 a6).bind fun σ9 => (isO σ9 9 v0).bind fun u10 => b2 (m_X9_does N σ9 v0) fun x14 σ13 => (gA σ13 9 1 v0).bind fun a15 => (gA σ13 9 0 v0).bind fun a17 => (m_X9_copy N σ13 a15 a17).bind fun σ20 => if x14 < 0 then (some ((-4), σ20)) else (if v1 = 2 then ((gI σ20 9 13 v0).bind fun x29 => if x29 = 1 then (some ((-4), σ20)) else (if v1 = 0 then (some (x14, σ20)) else (if v1 = 1 then ((gI σ20 9 13 v0).bind fun x36 => some (x36, σ20)) else ((gI σ20 9 14 v0).bind fun x34 => some (x34, σ20))))) else (if v1 = 0 then (some (x14, σ20)) else (if v1 = 1 then ((gI σ20 9 13 v0).bind fun x27 => some (x27, σ20)) else ((gI σ20 9 14 v0).bind fun x25 => some (x25, σ20))))))
def m_X9_has (N : Nat) (σ : zS) (v0 : Nat) (v1 : Int32) (v2 : Int32) (v3 : Int32) : Option (Int32 × zS) := (isO σ 9 v0).bind fun u1 => (m_X9_isTable N σ v0 v1).bind fun x4 => if x4 = 0 then (some ((-1), σ)) else ((m_X9_isThing N σ v2).bind fun x7 => if x7 = 0 then (some ((-1), σ)) else ((m_X9_in N σ v3 0 1).bind fun x10 => if x10 = 0 then (some ((-1), σ)) else (b2 (if v3 = 0 then ((gA σ 9 0 v0).bind fun a19 => (aI 1 σ a19 ((165 + (1000 * v1)) + v2)).bind fun x21 => if x21 ≤ 0 then (some (0, σ)) else (some (1, σ))) else ((isO σ 9 v0).bind fun u14 => b2 (m_X9_couldHave N σ v0 v1 v2) fun x18 σ17 => some (x18, σ17))) fun y24 σ25 => if y24 = 0 then (some (0, σ25)) else (some (1, σ25)))))
def m_X9_hash (N : Nat) (σ : zS) (v0 : Nat) (v1 : Int32) (v2 : Int32) : Option (Int32) := (m_X9_isThing N σ v1).bind fun x2 => if x2 = 0 then (some (-1)) else ((m_X9_in N σ v2 0 9).bind fun x5 => if x5 = 0 then (some (-1)) else ((m_X9_hashOf N σ v1 v2).bind fun x8 => some x8))
def m_X9_keptAt (N : Nat) (σ : zS) (v0 : Nat) (v1 : Int32) (v2 : Int32) : Option (Int32) := (isO σ 9 v0).bind fun u1 => (m_X9_isTable N σ v0 v1).bind fun x4 => if x4 = 0 then (some (-1)) else (if 0 ≤ v2 then ((some (23 * v1)).bind fun x7 => (gA σ 9 0 v0).bind fun a9 => (aI 1 σ a9 (x7 + 0)).bind fun x11 => if x11 = 0 then (if v2 ≤ 31 then ((gA σ 9 0 v0).bind fun a15 => (aI 1 σ a15 (x7 + 4)).bind fun x17 => some ((x17 >>> (v2 &&& 31)) &&& 1)) else (some (-1))) else (if x11 = 1 then ((gA σ 9 0 v0).bind fun a20 => (aI 1 σ a20 (x7 + 5)).bind fun x22 => if x22 ≤ v2 then (some (-4)) else ((gA σ 9 0 v0).bind fun a25 => (aI 1 σ a25 ((x7 + 6) + v2)).bind fun x27 => some x27)) else (if v2 ≤ 7 then ((gA σ 9 0 v0).bind fun a30 => (aI 1 σ a30 ((x7 + 14) + v2)).bind fun x32 => some x32) else (some (-1))))) else (some (-1)))
def m_X9_logAt (N : Nat) (σ : zS) (v0 : Nat) (v1 : Int32) (v2 : Int32) : Option (Int32) := if v1 < 0 then (some (-1)) else ((m_X9_in N σ v2 0 2).bind fun x3 => if x3 = 0 then (some (-1)) else ((gA σ 9 0 v0).bind fun a5 => (aI 1 σ a5 140).bind fun x7 => if x7 ≤ v1 then (some (-4)) else ((gA σ 9 0 v0).bind fun a10 => (gA σ 9 0 v0).bind fun a12 => (aI 1 σ a12 140).bind fun x14 => (aI 1 σ a10 ((141 + (3 * ((x14 - 1) - v1))) + v2)).bind fun x16 => some x16)))
def m_X9_merge (N : Nat) (σ : zS) (v0 : Nat) (v1 : Int32) (v2 : Int32) : Option (Int32 × zS) := (gA σ 9 0 v0).bind fun a1 => (gA σ 9 1 v0).bind fun a3 => (m_X9_copy N σ a1 a3).bind fun σ6 => (isO σ6 9 v0).bind fun u7 => b2 (m_X9_mergesInto N σ6 v0 v1 v2) fun x11 σ10 => (isO σ10 9 v0).bind fun u12 => b2 (m_X9_ends N σ10 v0 x11) fun x16 σ15 => some (x16, σ15)
def m_X9_play (N : Nat) (σ : zS) (v0 : Nat) : Option (Int32 × zS) := (gA σ 9 0 v0).bind fun a1 => (gA σ 9 1 v0).bind fun a3 => (m_X9_copy N σ a1 a3).bind fun σ6 => (isO σ6 9 v0).bind fun u7 => b2 (m_X9_does N σ6 v0) fun x11 σ10 => (if 0 ≤ x11 then (some (-2)) else (some ((-1) - x11))).bind fun y14 => (isO σ10 9 v0).bind fun u15 => b2 (m_X9_ends N σ10 v0 y14) fun x19 σ18 => some (x19, σ18)
def m_X9_raises_L12 (N : Nat) : Nat → zS → Nat → Int32 → Int32 → Option ((Int32 × zS) ⊕ (zS))
  | 0, _, _, _, _ => none
  | n + 1, σ, v0, v1, v2 => if 1000 ≤ v2 then (some (.inr σ)) else ((isO σ 9 v0).bind fun u7 => b2 (m_X9_couldHave N σ v0 v1 v2) fun x11 σ10 => if x11 = 0 then (some (.inl (v2, σ10))) else ((some (v2 + 1)).bind fun x13 => m_X9_raises_L12 N n σ10 v0 v1 x13))
def m_X9_raises (N : Nat) (σ : zS) (v0 : Nat) (v1 : Int32) : Option (Int32 × zS) := (isO σ 9 v0).bind fun u1 => (m_X9_isTable N σ v0 v1).bind fun x4 => if x4 = 0 then (some ((-1), σ)) else (bs (m_X9_raises_L12 N N σ v0 v1 0) (fun r => some r) fun σ15 => some ((-4), σ15))
def m_X9_reset (N : Nat) (σ : zS) (v0 : Nat) (v1 : Int32) : Option (Int32 × zS) := (gA σ 9 0 v0).bind fun a1 => (gA σ 9 1 v0).bind fun a3 => (m_X9_copy N σ a1 a3).bind fun σ6 => (isO σ6 9 v0).bind fun u7 => b2 (m_X9_resetsOne N σ6 v0 v1) fun x11 σ10 => (isO σ10 9 v0).bind fun u12 => b2 (m_X9_ends N σ10 v0 x11) fun x16 σ15 => some (x16, σ15)
def m_X9_sawAt_L29 (N : Nat) : Nat → zS → Nat → Int32 → Int32 → Int32 → Int32 → Int32 → Option ((Int32) ⊕ (Unit))
  | 0, _, _, _, _, _, _, _ => none
  | n + 1, σ, v0, v1, v2, v3, v4, v5 => if 1000 ≤ v5 then (some (.inr ())) else ((gA σ 9 0 v0).bind fun a11 => (aI 1 σ a11 ((165 + (1000 * v1)) + v5)).bind fun x13 => if x13 ≤ 0 then ((if x13 ≤ 0 then (some 0) else (some 1)).bind fun y18 => (some (v4 + y18)).bind fun x19 => (some (v5 + 1)).bind fun x21 => m_X9_sawAt_L29 N n σ v0 v1 v2 v3 x19 x21) else (if v4 = v2 then (if v3 = 0 then (some (.inl v5)) else (some (.inl (x13 - 1)))) else ((if x13 ≤ 0 then (some 0) else (some 1)).bind fun y27 => (some (v4 + y27)).bind fun x28 => (some (v5 + 1)).bind fun x30 => m_X9_sawAt_L29 N n σ v0 v1 v2 v3 x28 x30)))
def m_X9_sawAt (N : Nat) (σ : zS) (v0 : Nat) (v1 : Int32) (v2 : Int32) (v3 : Int32) : Option (Int32) := (isO σ 9 v0).bind fun u1 => (m_X9_isTable N σ v0 v1).bind fun x4 => if x4 = 0 then (some (-1)) else (if v2 < 0 then (some (-1)) else ((m_X9_in N σ v3 0 1).bind fun x8 => if x8 = 0 then (some (-1)) else (bs (m_X9_sawAt_L29 N N σ v0 v1 v2 v3 0 0) (fun r => some r) fun _ => some (-4))))
def m_X9_table (N : Nat) (σ : zS) (v0 : Nat) (v1 : Int32) (v2 : Int32) : Option (Int32 × zS) := (gA σ 9 0 v0).bind fun a1 => (gA σ 9 1 v0).bind fun a3 => (m_X9_copy N σ a1 a3).bind fun σ6 => (isO σ6 9 v0).bind fun u7 => b2 (m_X9_makeTable N σ6 v0 v1 v2) fun x11 σ10 => (isO σ10 9 v0).bind fun u12 => b2 (m_X9_ends N σ10 v0 x11) fun x16 σ15 => some (x16, σ15)
def m_X9_tableOf (N : Nat) (σ : zS) (v0 : Nat) (v1 : Int32) (v2 : Int32) : Option (Int32) := (isO σ 9 v0).bind fun u1 => (m_X9_isTable N σ v0 v1).bind fun x4 => if x4 = 0 then (some (-1)) else ((m_X9_in N σ v2 0 9).bind fun x7 => if x7 = 0 then (some (-1)) else ((some (23 * v1)).bind fun x9 => if v2 = 0 then ((gA σ 9 0 v0).bind fun a12 => (aI 1 σ a12 (x9 + v2)).bind fun x14 => some x14) else (if v2 = 1 then ((gA σ 9 0 v0).bind fun a17 => (aI 1 σ a17 (x9 + v2)).bind fun x19 => some x19) else (if v2 = 2 then ((isO σ 9 v0).bind fun u22 => (m_X9_toldOf N σ v0 v1).bind fun x25 => some x25) else (if v2 = 3 then ((isO σ 9 v0).bind fun u27 => (m_X9_exact N σ v0 v1).bind fun x30 => some x30) else (if v2 = 4 then ((gA σ 9 0 v0).bind fun a32 => (m_X9_low N σ a32 x9).bind fun x35 => some x35) else (if v2 = 5 then ((gA σ 9 0 v0).bind fun a37 => (m_X9_high N σ a37 x9).bind fun x40 => some x40) else (if v2 = 6 then ((isO σ 9 v0).bind fun u42 => (m_X9_error N σ v0 v1).bind fun x45 => some (1000 + x45)) else (if v2 = 7 then ((gA σ 9 0 v0).bind fun a47 => (aI 1 σ a47 (x9 + 2)).bind fun x49 => some x49) else (if v2 = 8 then ((gA σ 9 0 v0).bind fun a52 => (aI 1 σ a52 (x9 + 3)).bind fun x54 => some x54) else ((gA σ 9 0 v0).bind fun a56 => (m_X9_rough N σ a56 x9).bind fun x59 => some x59)))))))))))
def m_X9_type (N : Nat) (σ : zS) (v0 : Nat) (v1 : Int32) : Option (Int32 × zS) := (m_X9_in N σ v1 32 126).bind fun x2 => if x2 = 0 then (some ((-1), σ)) else ((gI σ 9 10 v0).bind fun x4 => if x4 = 80 then (some ((-3), σ)) else ((gA σ 9 9 v0).bind fun a7 => (gI σ 9 10 v0).bind fun x9 => (uI 1 σ a7 x9 v1).bind fun σ11 => (gI σ11 9 10 v0).bind fun x13 => (sI σ11 9 10 v0 (x13 + 1)).bind fun σ15 => (gI σ15 9 10 v0).bind fun x17 => some (x17, σ15)))
def m_X9_undo (N : Nat) (σ : zS) (v0 : Nat) : Option (Int32 × zS) := (gI σ 9 7 v0).bind fun x1 => if x1 = 0 then (some ((-2), σ)) else ((gI σ 9 7 v0).bind fun x4 => (sI σ 9 7 v0 (x4 - 1)).bind fun σ6 => (gI σ6 9 6 v0).bind fun x8 => (gI σ6 9 7 v0).bind fun x10 => (isO σ6 9 v0).bind fun u12 => (m_X9_brings N σ6 v0 (irem (x8 + x10) 4)).bind fun σ15 => (gI σ15 9 7 v0).bind fun x16 => some (x16, σ15))
def m_X9_would (N : Nat) (σ : zS) (v0 : Nat) (v1 : Int32) (v2 : Int32) : Option (Int32 × zS) := (isO σ 9 v0).bind fun u1 => (m_X9_isTable N σ v0 v1).bind fun x4 => if x4 = 0 then (some ((-1), σ)) else ((m_X9_isThing N σ v2).bind fun x7 => if x7 = 0 then (some ((-1), σ)) else ((isO σ 9 v0).bind fun u9 => (m_X9_laysMix N σ v0 v1).bind fun σ12 => (gA σ12 9 8 v0).bind fun a13 => (gA σ12 9 8 v0).bind fun a15 => (aI 1 σ12 a15 1).bind fun x17 => (m_X9_hashOf N σ12 v2 x17).bind fun x20 => (m_X9_keeps N σ12 a13 0 x20).bind fun σ22 => (gA σ22 9 8 v0).bind fun a23 => (gA σ22 9 8 v0).bind fun a25 => (aI 1 σ22 a25 2).bind fun x27 => (isO σ22 9 v0).bind fun u29 => (m_X9_added N σ22 v0 x27 1).bind fun x32 => (uI 1 σ22 a23 2 x32).bind fun σ33 => (gA σ33 9 8 v0).bind fun a35 => (m_X9_told N σ33 a35 0).bind fun x38 => some (x38, σ33)))
end
section
/-! The world that holds the store, and own rows over it. -/
-- the world
def toE (ca : Nat → ClassId) (e : zE) : va_E := match e with
  | .inl a => .inl (ca a.1, a.2)
  | .inr o => .inr o
def zf (ca : Nat → ClassId) (σ : zS) : Nat → va_E := fun a => match σ a with
  | some e => toE ca e
  | none => .inr (0, [])
def zW (D : va_G) (ca : Nat → ClassId) (A : Nat → Prop) (σ : zS) (H : Heap) : Prop := ∃ L : List Nat, (∀ q, q ∈ L ↔ ∃ e, σ q = some e) ∧ va_P D vwCl (va_pl L (zf ca σ)) H ∧ va_D A (va_pl L (zf ca σ))
abbrev zTy (ca : Nat → ClassId) : List (ClassId × FieldType) := [(ca 0, .char), (ca 1, .int), (ca 2, .object "RoughTables$State"), (ca 3, .object "RoughTables$Table")]
theorem zf_up (ca : Nat → ClassId) (σ : zS) (q : Nat) (e : zE) (a : Nat) : va_up (zf ca σ) q (toE ca e) a = zf ca (zup σ q e) a := by
  unfold va_up zf zup
  by_cases h : a = q
  · rw [if_pos h, if_pos h]
  · rw [if_neg h, if_neg h]
theorem zf_at {ca : Nat → ClassId} {σ : zS} {q : Nat} {e : zE} (h : σ q = some e) : zf ca σ q = toE ca e := by
  unfold zf
  rw [h]
theorem zW.get {D : va_G} {ca : Nat → ClassId} {L : List Nat} {σ : zS} {q : Nat} {e : zE} (hL : ∀ q, q ∈ L ↔ ∃ e, σ q = some e) (h : σ q = some e) : q ∈ L ∧ ∃ k : Nat, (va_pl L (zf ca σ))[k]? = some (q, toE ca e) := by
  have hm : q ∈ L := (hL q).mpr ⟨e, h⟩
  obtain ⟨k, hk⟩ := va_pl_get (X := []) (f := zf ca σ) hm
  rw [zf_at h] at hk
  exact ⟨hm, k, hk⟩
theorem zW.put {D : va_G} {ca : Nat → ClassId} {A : Nat → Prop} {L : List Nat} {σ : zS} {H : Heap} {q k : Nat} {e e1 : zE} (hL : ∀ q, q ∈ L ↔ ∃ e, σ q = some e) (hD0 : va_D A (va_pl L (zf ca σ))) (h : σ q = some e) (hk : (va_pl L (zf ca σ))[k]? = some (q, toE ca e)) (hP : va_P D vwCl ((va_pl L (zf ca σ)).set k (q, toE ca e1)) H) (hD : va_D A ((va_pl L (zf ca σ)).set k (q, toE ca e1))) : zW D ca A (zup σ q e1) H := by
  have hm : q ∈ L := (hL q).mpr ⟨e, h⟩
  have hk' : ([] ++ va_pl L (zf ca σ))[k]? = some (q, zf ca σ q) := by rw [zf_at h]; exact hk
  have e2 : (va_pl L (zf ca σ)).set k (q, toE ca e1) = va_pl L (zf ca (zup σ q e1)) := (va_pl_set (X := []) (e := toE ca e1) hD0 hm hk').trans (va_pl_congr (zf_up ca σ q e1))
  rw [e2] at hP hD
  refine ⟨L, fun x => ?_, hP, hD⟩
  unfold zup
  by_cases hx : x = q
  · rw [if_pos hx]
    exact ⟨fun _ => ⟨_, rfl⟩, fun _ => by rw [hx]; exact hm⟩
  · rw [if_neg hx]
    exact hL x
theorem zW.push {D : va_G} {ca : Nat → ClassId} {A : Nat → Prop} {L : List Nat} {σ : zS} {H H1 : Heap} {q : Nat} {e1 : zE} (hL : ∀ q, q ∈ L ↔ ∃ e, σ q = some e) (hP : va_P D vwCl (va_pl L (zf ca σ) ++ [(q, toE ca e1)]) H1) (hD : va_D A (va_pl L (zf ca σ) ++ [(q, toE ca e1)])) : zW D ca A (zup σ q e1) H1 ∧ σ q = none := by
  have hn : q ∉ L := va_pl_fresh2 (X := []) hD
  have e2 : va_pl L (zf ca σ) ++ [(q, toE ca e1)] = va_pl (L ++ [q]) (zf ca (zup σ q e1)) := (va_pl_push hn).trans (va_pl_congr (zf_up ca σ q e1))
  rw [e2] at hP hD
  refine ⟨⟨L ++ [q], fun x => ?_, hP, hD⟩, ?_⟩
  · unfold zup
    by_cases hx : x = q
    · rw [if_pos hx]
      exact ⟨fun _ => ⟨_, rfl⟩, fun _ => by rw [hx]; simp⟩
    · rw [if_neg hx, List.mem_append, List.mem_singleton]
      exact ⟨fun h => (hL x).mp (h.resolve_right hx), fun h => Or.inl ((hL x).mpr h)⟩
  · cases h : σ q with
    | none => rfl
    | some e => exact absurd ((hL q).mpr ⟨e, h⟩) hn
-- the words of nest mates: not among the words that every call hands on
def zNl : List (String × Nat × MethodName × String) := [(RX4, 19, yX2_init, "RoughTables"), (RX4, 24, yX5_init, "RoughTables"), (RX5, 11, yX3_init, "RoughTables"), (RX8, 25, yX6_init, "RoughTables"), (RX8, 32, yX0_init, "RoughTables"), (RX8, 39, yX7_init, "RoughTables"), (RX7, 20, yX0_init, "RoughTables"), (RX8, 46, yX3_init, "RoughTables"), (RX4, 64, yX8_within, "RoughTables"), (RX4, 68, yX8_isThing, "RoughTables"), (RX3, 46, yX8_hashOf, "RoughTables"), (RX3, 67, yX8_rankOf, "RoughTables"), (RX5, 60, yX8_isThing, "RoughTables"), (RX3, 93, yX8_spread, "RoughTables")]
def zN (U : State) : Prop := (∀ w ∈ zNl, va_Nw (.methodLinkNest w.1 w.2.1 w.2.2.1 w.2.2.2) U) ∧ va_AO "RoughTables$State" U ∧ va_AO "RoughTables$Table" U
theorem zN.warm {s U : State} (hW : s.WarmedH U.vm) (h : zN s) : zN U := ⟨fun w hw => va_Nw.warmM hW (h.1 w hw), va_AO.moved hW.alike h.2.1, va_AO.moved hW.alike h.2.2⟩
theorem zN.same {u U : State} (hv : u.vm = U.vm) (h : zN u) : zN U := ⟨fun w hw => va_Nw.same rfl hv (h.1 w hw), va_AO.moved (by rw [hv]; exact Vm.Alike.refl _) h.2.1, va_AO.moved (by rw [hv]; exact Vm.Alike.refl _) h.2.2⟩
theorem zgood : wsL_law.all goodWord = true := by decide +kernel
-- a method's start and its ends
def zP (D : va_G) (ca : Nat → ClassId) (A : Nat → Prop) (σ : zS) (U : State) : Prop := zW D ca A σ U.heap ∧ va_K D vwCl (zTy ca) U ∧ zN U ∧ ∀ q, U.heap.size ≤ q → A q
abbrev zQi (r0 : Int32) (D : va_G) (ca : Nat → ClassId) (A : Nat → Prop) (σ : zS) : Array Value → State → Outcome → State → Prop := va_Qi (fun (r : Int32) (_ : Unit) => r = r0) (fun _ t => zW D ca A σ t.heap) A
abbrev zQv (D : va_G) (ca : Nat → ClassId) (A : Nat → Prop) (σ : zS) : Array Value → State → Outcome → State → Prop := va_Qv (fun (_ : Unit) => True) (fun _ t => zW D ca A σ t.heap) A
abbrev zQq (r0 : Option Nat) (D : va_G) (ca : Nat → ClassId) (A : Nat → Prop) (σ : zS) : Array Value → State → Outcome → State → Prop := va_Qq (fun (r : Option Nat) (_ : Unit) => r = r0) (fun _ t => zW D ca A σ t.heap) A
theorem zPc_blind (av : List Value) (D : va_G) (ca : Nat → ClassId) (A : Nat → Prop) (σ : zS) : FrameBlind (va_Pc av (zP D ca A σ)) := fun a U g mk h => ⟨h.1, h.2.1, va_K.moved (u := U) (U := U.calling g mk a) (Vm.Alike.refl U.vm) h.2.2.1, zN.same (u := U) (U := U.calling g mk a) rfl h.2.2.2.1, h.2.2.2.2⟩
-- what holds all along a method's walk
def zC (p : Program) (s : State) (m : MethodId) (args : Array Value) (c : Code) (own : String) (cc : ByteArray) (nL : Nat) (D : va_G) (ca : Nat → ClassId) (A : Nat → Prop) : Prop :=
  p.tables.exec = Jvm.exec ∧ c.code = cc ∧ c.maxLocals = nL ∧ s.vm.findClass own = some m.cls ∧ (∀ w ∈ wsL_law, w.before args s = true) ∧ va_K D vwCl (zTy ca) s ∧ zN s ∧ ∀ q, s.heap.size ≤ q → A q
-- what the tables say of a field's link, of a call's
def zFL (own : String) (idx ci k : Nat) (ty : FieldType) (fin : Bool) : Prop := ∃ (C : String) (T : u_T) (N : Nat) (tyf : Nat → FieldType), vwCl[ci]? = some (C, T, N) ∧ (∀ w ∈ u_ws C T N, w ∈ wsL_law) ∧ (∀ j, j < N → parseFieldDescriptor (T j).2.2.1 = some (tyf j)) ∧ (∀ a, a < N → ∀ b, b < N → a ≠ b → (T a).2.1 ≠ (T b).2.1) ∧ k < N ∧ (Cond.fieldLink own idx C (T k).2.1 (T k).2.2.1) ∈ wsL_law ∧ (T k).1 = C ∧ (T k).2.2.2 = fin ∧ parseFieldDescriptor (T k).2.2.1 = some ty
abbrev zMH (y : MethodName) (n : Nat) : Prop := y.cls ≠ "java/lang/invoke/MethodHandle" ∧ y.cls ≠ "java/lang/invoke/VarHandle" ∧ (parseMethodDescriptor y.desc).map (fun d => d.parameters.length) = some n
def zLV (own : String) (idx : Nat) (y : MethodName) (cy : ByteArray) (ml : Nat) (ret : Option FieldType) (n : Nat) : Prop := Cond.methodLink own idx y ∈ wsL_law ∧ Cond.instanceMethod y ∈ wsL_law ∧ Cond.selects y.cls y y ∈ wsL_law ∧ Cond.initialized y.cls ∈ wsL_law ∧ Cond.code y cy ml ret ∈ wsL_law ∧ zMH y n
def zLS (own : String) (idx : Nat) (y : MethodName) (cy : ByteArray) (ml : Nat) (ret : Option FieldType) (n : Nat) : Prop := Cond.methodLink own idx y ∈ wsL_law ∧ Cond.static y ∈ wsL_law ∧ Cond.initialized y.cls ∈ wsL_law ∧ Cond.code y cy ml ret ∈ wsL_law ∧ zMH y n
def zLN (own : String) (idx : Nat) (y : MethodName) (host : String) (cy : ByteArray) (ml : Nat) (ret : Option FieldType) (n : Nat) : Prop := (own, idx, y, host) ∈ zNl ∧ Cond.static y ∈ wsL_law ∧ Cond.initialized y.cls ∈ wsL_law ∧ Cond.code y cy ml ret ∈ wsL_law ∧ zMH y n
theorem zgoodIn {ws : List Cond} (h : ∀ w ∈ ws, w ∈ wsL_law) : GoodIn wsL_law ws := fun w hw => ⟨h w hw, good_of_word (List.all_eq_true.mp zgood w (h w hw))⟩
theorem zwin {w : Cond} (h : w ∈ wsL_law) : ∀ x ∈ w :: wsL_law, x ∈ wsL_law := fun x hx => by
  rcases List.mem_cons.mp hx with rfl | hx
  · exact h
  · exact hx
theorem zMk {l : Launch} {y : MethodName} {cc : ByteArray} {maxL : Nat} {ret : Option FieldType} {rm : Room} {av : List Value} {D : va_G} {ca : Nat → ClassId} {A : Nat → Prop} {σ : zS} {Qc : Array Value → State → Outcome → State → Prop} {mc ms : Nat} (hy : plainName y.cls = true) (hfit : (lg_sl av).length ≤ maxL)
    (body : ∀ (p : Program) (e : Env) (s : State) (m : MethodId) (below : List Frame) (meth : Method) (c : Code), zC p s m av.toArray c y.cls cc maxL D ca A → meth.sig.returnType = ret → meth.locks = false → meth.name = y.name → zW D ca A σ s.heap → ∀ ls : Array Slot, lv_has ls maxL (lv_args 0 av) → W p l e rm s m av.toArray below meth c s.heap [] 0 0 (MQ below Qc av.toArray s mc ms A) (F0 m 0 ls [])) :
    Met l y (.code y cc maxL ret :: wsL_law) rm (va_Pc av (zP D ca A σ)) Qc mc ms A := by
  refine Met.ofW (cc := cc) (maxL := maxL) (ret := ret) hy rfl ?_
  intro p e s m args below meth c s₁ B hml hv
  obtain ⟨rfl, hW, hK, hN, hA⟩ := hv
  have hts := atoms_spec (ws := Cond.code y cc maxL ret :: wsL_law) B.pre
  have hl := lv_entry av (n := maxL) hfit
  rw [lg_entry_eq]
  exact body p e s m below meth c ⟨B.exec, B.bytes, hml, findClass_of_methodNamed B.named, fun w hw => hts w (List.mem_cons_of_mem _ hw), hK, hN, hA⟩ B.returns B.notSynchronized (name_of_methodNamed B.named B.method).1 hW _ hl
section ZR
variable {p : Program} {l : Launch} {e : Env} {R : Room} {s : State} {m : MethodId} {args : Array Value} {below : List Frame} {meth : Method} {c : Code} {H : Heap} {locs : List Loc} {cells slots : Nat} {Q : State → Prop}
variable {cc : ByteArray} {own : String} {nL pc idx ci k q : Nat} {ls : Array Slot} {rest st : List Value} {D : va_G} {ca : Nat → ClassId} {A : Nat → Prop} {σ σ' : zS}
theorem r_getV {v : Value} {fs : List Value} {ty : FieldType} {fin : Bool} (C0 : zC p s m args c own cc nL D ca A) (hW : zW D ca A σ H) (lk : zFL own idx ci k ty fin) (hσ : σ q = some (.inr (ci, fs))) (hv : fs[k]? = some v) (d : decode cc pc = .ok (.getfield idx, 3))
    (kk : W p l e R s m args below meth c H locs cells slots Q (F0 m (pc + 3) ls (v :: rest))) : W p l e R s m args below meth c H locs cells slots Q (F0 m pc ls (.ref q :: rest)) := by
  obtain ⟨L, hL, hP, hD⟩ := hW
  obtain ⟨hx, hb, hml, hown, hts, hK, hN, hA⟩ := C0
  obtain ⟨C, T, N, tyf, l1, l2, l3, l4, l5, l6, l7, l8, l9⟩ := lk
  obtain ⟨hm, i, hi⟩ := zW.get (D := D) (ca := ca) hL hσ
  exact va_get (D := D) (ci := ci) (C := C) (T := T) (N := N) hx hb hts l2 hown hK hP i hi l1 k l5 (hts _ l6) (fun x h => by rw [l7] at h; exact h) hv d kk
theorem r_getI {x : Int32} {ty : FieldType} {fin : Bool} (C0 : zC p s m args c own cc nL D ca A) (hW : zW D ca A σ H) (lk : zFL own idx ci k ty fin) (hv : gI σ ci k q = some x) (d : decode cc pc = .ok (.getfield idx, 3))
    (kk : W p l e R s m args below meth c H locs cells slots Q (F0 m (pc + 3) ls (.int x :: rest))) : W p l e R s m args below meth c H locs cells slots Q (F0 m pc ls (.ref q :: rest)) := by
  unfold gI at hv
  split at hv
  · rename_i c1 fs hσ
    split at hv
    · rename_i hc
      subst hc
      split at hv
      · rename_i y hy
        cases hv
        exact r_getV C0 hW lk hσ hy d kk
      · cases hv
    · cases hv
  · cases hv
theorem r_getA {x : Nat} {ty : FieldType} {fin : Bool} (C0 : zC p s m args c own cc nL D ca A) (hW : zW D ca A σ H) (lk : zFL own idx ci k ty fin) (hv : gA σ ci k q = some x) (d : decode cc pc = .ok (.getfield idx, 3))
    (kk : W p l e R s m args below meth c H locs cells slots Q (F0 m (pc + 3) ls (.ref x :: rest))) : W p l e R s m args below meth c H locs cells slots Q (F0 m pc ls (.ref q :: rest)) := by
  unfold gA at hv
  split at hv
  · rename_i c1 fs hσ
    split at hv
    · rename_i hc
      subst hc
      split at hv
      · rename_i y hy
        cases hv
        exact r_getV C0 hW lk hσ hy d kk
      · cases hv
    · cases hv
  · cases hv
theorem r_putV {v : Value} {ty : FieldType} (C0 : zC p s m args c own cc nL D ca A) (hW : zW D ca A σ H) (hS : va_S A s.heap H locs) (lk : zFL own idx ci k ty false) (hn : narrow ty v = v) (hfit : fits ty v = true) (hv : sV σ ci k q v = some σ') (d : decode cc pc = .ok (.putfield idx, 3))
    (kk : ∀ (H1 : Heap) (locs1 : List Loc), zW D ca A σ' H1 → va_S A s.heap H1 locs1 → W p l e R s m args below meth c H1 locs1 cells slots Q (F0 m (pc + 3) ls rest)) : W p l e R s m args below meth c H locs cells slots Q (F0 m pc ls (v :: .ref q :: rest)) := by
  obtain ⟨L, hL, hP, hD⟩ := hW
  obtain ⟨hx, hb, hml, hown, hts, hK, hN, hA⟩ := C0
  obtain ⟨C, T, N, tyf, l1, l2, l3, l4, l5, l6, l7, l8, l9⟩ := lk
  unfold sV at hv
  split at hv
  · rename_i c1 fs hσ
    split at hv
    · rename_i hc
      obtain ⟨hc, hk⟩ := hc
      subst hc
      cases hv
      obtain ⟨hm, i, hi⟩ := zW.get (D := D) (ca := ca) hL hσ
      exact va_put (D := D) (ci := c1) (C := C) (T := T) (N := N) hx hb hts l2 tyf l3 l4 hown hK hP hD hS i hi l1 k l5 (hts _ l6) (fun x h => by rw [l7] at h; exact h) l8 l9 hn hfit hk d (fun H1 locs1 hP1 hD1 hS1 => kk H1 locs1 (zW.put hL hD hσ hi hP1 hD1) hS1)
    · cases hv
  · cases hv
theorem r_putI {x : Int32} (C0 : zC p s m args c own cc nL D ca A) (hW : zW D ca A σ H) (hS : va_S A s.heap H locs) (lk : zFL own idx ci k .int false) (hv : sI σ ci k q x = some σ') (d : decode cc pc = .ok (.putfield idx, 3))
    (kk : ∀ (H1 : Heap) (locs1 : List Loc), zW D ca A σ' H1 → va_S A s.heap H1 locs1 → W p l e R s m args below meth c H1 locs1 cells slots Q (F0 m (pc + 3) ls rest)) : W p l e R s m args below meth c H locs cells slots Q (F0 m pc ls (.int x :: .ref q :: rest)) := r_putV C0 hW hS lk rfl rfl hv d kk
theorem r_putZ {x y : Int32} (C0 : zC p s m args c own cc nL D ca A) (hW : zW D ca A σ H) (hS : va_S A s.heap H locs) (lk : zFL own idx ci k .boolean false) (hc : ckZ x = some y) (hv : sI σ ci k q y = some σ') (d : decode cc pc = .ok (.putfield idx, 3))
    (kk : ∀ (H1 : Heap) (locs1 : List Loc), zW D ca A σ' H1 → va_S A s.heap H1 locs1 → W p l e R s m args below meth c H1 locs1 cells slots Q (F0 m (pc + 3) ls rest)) : W p l e R s m args below meth c H locs cells slots Q (F0 m pc ls (.int x :: .ref q :: rest)) := by
  unfold ckZ at hc
  split at hc
  · rename_i h
    cases hc
    rcases h with rfl | rfl
    · exact r_putV C0 hW hS lk rfl rfl hv d kk
    · exact r_putV C0 hW hS lk rfl rfl hv d kk
  · cases hc
theorem nar_c {x : Int32} (h : (x.toUInt32 % 65536).toInt32 = x) : narrow .char (.int x) = .int x ∧ fits .char (.int x) = true := by
  have h1 := pk_nc x
  have h2 := pk_fc x
  rw [h] at h1 h2
  exact ⟨h1, h2⟩
theorem r_putC {x y : Int32} (C0 : zC p s m args c own cc nL D ca A) (hW : zW D ca A σ H) (hS : va_S A s.heap H locs) (lk : zFL own idx ci k .char false) (hc : ckC x = some y) (hv : sI σ ci k q y = some σ') (d : decode cc pc = .ok (.putfield idx, 3))
    (kk : ∀ (H1 : Heap) (locs1 : List Loc), zW D ca A σ' H1 → va_S A s.heap H1 locs1 → W p l e R s m args below meth c H1 locs1 cells slots Q (F0 m (pc + 3) ls rest)) : W p l e R s m args below meth c H locs cells slots Q (F0 m pc ls (.int x :: .ref q :: rest)) := by
  unfold ckC at hc
  split at hc
  · rename_i h
    cases hc
    exact r_putV C0 hW hS lk (nar_c h).1 (nar_c h).2 hv d kk
  · cases hc
theorem r_putA {x : Nat} {ty : FieldType} (C0 : zC p s m args c own cc nL D ca A) (hin : meth.name = "<init>") (hown2 : ∀ C T N, vwCl[ci]? = some (C, T, N) → C = own) (hW : zW D ca A σ H) (hS : va_S A s.heap H locs) (lk : zFL own idx ci k ty true) (hn : narrow ty (.ref x) = .ref x) (hfit : fits ty (.ref x) = true) (hv : sA σ ci k q x = some σ') (d : decode cc pc = .ok (.putfield idx, 3))
    (kk : ∀ (H1 : Heap) (locs1 : List Loc), zW D ca A σ' H1 → va_S A s.heap H1 locs1 → W p l e R s m args below meth c H1 locs1 cells slots Q (F0 m (pc + 3) ls rest)) : W p l e R s m args below meth c H locs cells slots Q (F0 m pc ls (.ref x :: .ref q :: rest)) := by
  obtain ⟨L, hL, hP, hD⟩ := hW
  obtain ⟨hx, hb, hml, hown, hts, hK, hN, hA⟩ := C0
  obtain ⟨C, T, N, tyf, l1, l2, l3, l4, l5, l6, l7, l8, l9⟩ := lk
  unfold sA sV at hv
  split at hv
  · rename_i c1 fs hσ
    split at hv
    · rename_i hc
      obtain ⟨hc, hk⟩ := hc
      subst hc
      cases hv
      obtain ⟨hm, i, hi⟩ := zW.get (D := D) (ca := ca) hL hσ
      exact va_putF (D := D) (ci := c1) (C := C) (T := T) (N := N) hx hb hts l2 tyf l3 l4 hown hK hP hD hS i hi l1 k l5 (hts _ l6) (fun x h => by rw [l7] at h; exact h) l8 hin (l7.trans (hown2 C T N l1)) l9 hn hfit hk d (fun H1 locs1 hP1 hD1 hS1 => kk H1 locs1 (zW.put hL hD hσ hi hP1 hD1) hS1)
    · cases hv
  · cases hv
theorem r_aI {i x : Int32} (C0 : zC p s m args c own cc nL D ca A) (hW : zW D ca A σ H) (hv : aI 1 σ q i = some x) (d : decode cc pc = .ok (.iaload, 1))
    (kk : W p l e R s m args below meth c H locs cells slots Q (F0 m (pc + 1) ls (.int x :: rest))) : W p l e R s m args below meth c H locs cells slots Q (F0 m pc ls (.int i :: .ref q :: rest)) := by
  obtain ⟨L, hL, hP, hD⟩ := hW
  obtain ⟨hx, hb, hml, hown, hts, hK, hN, hA⟩ := C0
  unfold aI at hv
  split at hv
  · rename_i c1 n f hσ
    split at hv
    · rename_i hc
      obtain ⟨hc, hin⟩ := hc
      subst hc
      cases hv
      obtain ⟨hm, k, hk⟩ := zW.get (D := D) (ca := ca) hL hσ
      exact va_iald (D := D) (a := q) hx hb hK hP k 1 hk rfl hin d kk
    · cases hv
  · cases hv
theorem r_aC {i x : Int32} (C0 : zC p s m args c own cc nL D ca A) (hW : zW D ca A σ H) (hv : aI 0 σ q i = some x) (d : decode cc pc = .ok (.caload, 1))
    (kk : W p l e R s m args below meth c H locs cells slots Q (F0 m (pc + 1) ls (.int x :: rest))) : W p l e R s m args below meth c H locs cells slots Q (F0 m pc ls (.int i :: .ref q :: rest)) := by
  obtain ⟨L, hL, hP, hD⟩ := hW
  obtain ⟨hx, hb, hml, hown, hts, hK, hN, hA⟩ := C0
  unfold aI at hv
  split at hv
  · rename_i c1 n f hσ
    split at hv
    · rename_i hc
      obtain ⟨hc, hin⟩ := hc
      subst hc
      cases hv
      obtain ⟨hm, k, hk⟩ := zW.get (D := D) (ca := ca) hL hσ
      exact va_cald (D := D) (a := q) hx hb hK hP k 0 hk rfl hin d kk
    · cases hv
  · cases hv
theorem r_uI {i x : Int32} (C0 : zC p s m args c own cc nL D ca A) (hW : zW D ca A σ H) (hS : va_S A s.heap H locs) (hv : uI 1 σ q i x = some σ') (d : decode cc pc = .ok (.iastore, 1))
    (kk : ∀ (H1 : Heap) (locs1 : List Loc), zW D ca A σ' H1 → va_S A s.heap H1 locs1 → W p l e R s m args below meth c H1 locs1 cells slots Q (F0 m (pc + 1) ls rest)) : W p l e R s m args below meth c H locs cells slots Q (F0 m pc ls (.int x :: .int i :: .ref q :: rest)) := by
  obtain ⟨L, hL, hP, hD⟩ := hW
  obtain ⟨hx, hb, hml, hown, hts, hK, hN, hA⟩ := C0
  unfold uI at hv
  split at hv
  · rename_i c1 n f hσ
    split at hv
    · rename_i hc
      obtain ⟨hc, hin⟩ := hc
      subst hc
      cases hv
      obtain ⟨hm, k, hk⟩ := zW.get (D := D) (ca := ca) hL hσ
      exact va_iast (D := D) (a := q) hx hb hK hP hD hS k 1 hk rfl hin d (fun H1 locs1 hP1 hD1 hS1 => kk H1 locs1 (zW.put (e1 := .inl (1, n, .inl (upd f i.toNatClampNeg x))) hL hD hσ hk hP1 hD1) hS1)
    · cases hv
  · cases hv
theorem r_uC {i x y : Int32} (C0 : zC p s m args c own cc nL D ca A) (hW : zW D ca A σ H) (hS : va_S A s.heap H locs) (hc0 : ckC x = some y) (hv : uI 0 σ q i y = some σ') (d : decode cc pc = .ok (.castore, 1))
    (kk : ∀ (H1 : Heap) (locs1 : List Loc), zW D ca A σ' H1 → va_S A s.heap H1 locs1 → W p l e R s m args below meth c H1 locs1 cells slots Q (F0 m (pc + 1) ls rest)) : W p l e R s m args below meth c H locs cells slots Q (F0 m pc ls (.int x :: .int i :: .ref q :: rest)) := by
  obtain ⟨L, hL, hP, hD⟩ := hW
  obtain ⟨hx, hb, hml, hown, hts, hK, hN, hA⟩ := C0
  unfold ckC at hc0
  split at hc0
  · rename_i hnar
    cases hc0
    unfold uI at hv
    split at hv
    · rename_i c1 n f hσ
      split at hv
      · rename_i hc
        obtain ⟨hc, hin⟩ := hc
        subst hc
        cases hv
        obtain ⟨hm, k, hk⟩ := zW.get (D := D) (ca := ca) hL hσ
        have e9 : vp_nar .char x = x := by unfold vp_nar; rw [(nar_c hnar).1]
        refine va_cast (D := D) (a := q) hx hb hK hP hD hS k 0 hk rfl hin d (fun H1 locs1 hP1 hD1 hS1 => kk H1 locs1 (zW.put (e1 := .inl (0, n, .inl (upd f i.toNatClampNeg x))) hL hD hσ hk ?_ ?_) hS1)
        · rw [e9] at hP1; exact hP1
        · rw [e9] at hD1; exact hD1
      · cases hv
    · cases hv
  · cases hc0
theorem r_aA {i : Int32} {kd x : Nat} {C : String} (hkd : (zTy ca)[kd]? = some (ca kd, .object C)) (C0 : zC p s m args c own cc nL D ca A) (hW : zW D ca A σ H) (hv : aA kd σ q i = some x) (d : decode cc pc = .ok (.aaload, 1))
    (kk : W p l e R s m args below meth c H locs cells slots Q (F0 m (pc + 1) ls (.ref x :: rest))) : W p l e R s m args below meth c H locs cells slots Q (F0 m pc ls (.int i :: .ref q :: rest)) := by
  obtain ⟨L, hL, hP, hD⟩ := hW
  obtain ⟨hx, hb, hml, hown, hts, hK, hN, hA⟩ := C0
  unfold aA at hv
  split at hv
  · rename_i c1 n f hσ
    split at hv
    · rename_i hc
      obtain ⟨hc, hin⟩ := hc
      subst hc
      obtain ⟨hm, k, hk⟩ := zW.get (D := D) (ca := ca) hL hσ
      refine va_aldq (D := D) (a := q) hx hb hK hP k c1 hk hkd hin d ?_
      rw [hv]
      exact kk
    · cases hv
  · cases hv
theorem r_uA {i : Int32} {kd v : Nat} {r : vw_C} (hkd : (zTy ca)[kd]? = some (ca kd, .object r.1)) (hci : vwCl[ci]? = some r) (C0 : zC p s m args c own cc nL D ca A) (hW : zW D ca A σ H) (hS : va_S A s.heap H locs) (hv : uA kd ci σ q i v = some σ') (d : decode cc pc = .ok (.aastore, 1))
    (kk : ∀ (H1 : Heap) (locs1 : List Loc), zW D ca A σ' H1 → va_S A s.heap H1 locs1 → W p l e R s m args below meth c H1 locs1 cells slots Q (F0 m (pc + 1) ls rest)) : W p l e R s m args below meth c H locs cells slots Q (F0 m pc ls (.ref v :: .int i :: .ref q :: rest)) := by
  obtain ⟨L, hL, hP, hD⟩ := hW
  obtain ⟨hx, hb, hml, hown, hts, hK, hN, hA⟩ := C0
  unfold uA at hv
  split at hv
  · rename_i c1 n f c2 vs hσ hσ2
    split at hv
    · rename_i hc
      obtain ⟨hc, hc2, hin⟩ := hc
      subst hc
      subst hc2
      cases hv
      obtain ⟨hm, k, hk⟩ := zW.get (D := D) (ca := ca) hL hσ
      obtain ⟨hm2, k2, hk2⟩ := zW.get (D := D) (ca := ca) hL hσ2
      exact va_astq (D := D) (a := q) hx hb hK hP hD hS k c1 k2 c2 hk hkd hk2 hci hin d (fun H1 locs1 hP1 hD1 hS1 => kk H1 locs1 (zW.put (e1 := .inl (c1, n, .inr (.inr (.inr (.inr (va_up f i.toNatClampNeg (some v))))))) hL hD hσ hk hP1 hD1) hS1)
    · cases hv
  · cases hv
theorem r_aL {kd : Nat} {x : Int32} {ty : FieldType} (hkd : (zTy ca)[kd]? = some (ca kd, ty)) (C0 : zC p s m args c own cc nL D ca A) (hW : zW D ca A σ H) (hv : aL kd σ q = some x) (d : decode cc pc = .ok (.arraylength, 1))
    (kk : W p l e R s m args below meth c H locs cells slots Q (F0 m (pc + 1) ls (.int x :: rest))) : W p l e R s m args below meth c H locs cells slots Q (F0 m pc ls (.ref q :: rest)) := by
  obtain ⟨L, hL, hP, hD⟩ := hW
  obtain ⟨hx, hb, hml, hown, hts, hK, hN, hA⟩ := C0
  unfold aL at hv
  split at hv
  · rename_i c1 n f hσ
    split at hv
    · rename_i hc
      subst hc
      cases hv
      obtain ⟨hm, k, hk⟩ := zW.get (D := D) (ca := ca) hL hσ
      exact va_alen (D := D) (a := q) hx hb hK hP k c1 hk hkd rfl d kk
    · cases hv
  · cases hv
theorem fits_i (x : Int32) : fits .int (.int x) = true := rfl
theorem r_cpI {q1 : Nat} {sp dp n : Int32} (C0 : zC p s m args c own cc nL D ca A) (w1 : Cond.methodLink own idx arraycopyName ∈ wsL_law) (w2 : Cond.native arraycopyName ∈ wsL_law) (w3 : Cond.static arraycopyName ∈ wsL_law) (w4 : Cond.initialized "java/lang/System" ∈ wsL_law) (hW : zW D ca A σ H) (hS : va_S A s.heap H locs) (hl : ls.size = nL) (hframes : 1 ≤ R.frames) (hlocals : (rest.map fun v => v.category).sum + (nativeFrameWords "java/lang/System" "arraycopy" 5 + 11) ≤ R.locals) (hv : cpI σ q sp q1 dp n = some σ') (d : decode cc pc = .ok (.invokestatic idx, 3))
    (kk : ∀ (H1 : Heap) (locs1 : List Loc), zW D ca A σ' H1 → va_S A s.heap H1 locs1 → W p l e R s m args below meth c H1 locs1 cells slots Q (F0 m (pc + 3) ls rest)) : W p l e R s m args below meth c H locs cells slots Q (F0 m pc ls (.int n :: .int dp :: .ref q1 :: .int sp :: .ref q :: rest)) := by
  obtain ⟨L, hL, hP, hD⟩ := hW
  obtain ⟨hx, hb, hml, hown, hts, hK, hN, hA⟩ := C0
  unfold cpI at hv
  split at hv
  · rename_i c0 n0 f c1 n1 g hσ hσ2
    split at hv
    · rename_i hc
      obtain ⟨hc, hc2, h1, h2, h3, h4, h5⟩ := hc
      subst hc
      subst hc2
      cases hv
      obtain ⟨hm, k, hk⟩ := zW.get (D := D) (ca := ca) hL hσ
      obtain ⟨hm2, k2, hk2⟩ := zW.get (D := D) (ca := ca) hL hσ2
      exact va_copyi (D := D) (a := q1) hx hb (hml.trans hl.symm) hown (hts _ w1) (hts _ w2) (hts _ w3) (hts _ w4) hK hP hD hS k k2 1 1 hk hk2 rfl rfl rfl h1 h2 h3 h4 h5 (fun i _ => fits_i _) hframes hlocals d (fun H1 locs1 hP1 hD1 hS1 => kk H1 locs1 (zW.put (e1 := .inl (1, n1, .inl (va_cpy f g sp.toNatClampNeg dp.toNatClampNeg n.toNatClampNeg))) hL hD hσ2 hk2 hP1 hD1) hS1)
    · cases hv
  · cases hv
theorem zPre (C0 : zC p s m args c own cc nL D ca A) (hW : zW D ca A σ H) (hS : va_S A s.heap H locs) : ∀ U : State, U.heap = H → s.WarmedH U.vm → zP D ca A σ U := by
  intro U hU hWm
  obtain ⟨hx, hb, hml, hown, hts, hK, hN, hA⟩ := C0
  exact ⟨by rw [hU]; exact hW, va_K.moved hWm.alike hK, hN.warm hWm, fun q hq => hA q (Nat.le_trans hS.1 (by rw [← hU]; exact hq))⟩
theorem zRecv {r : vw_C} (hci : vwCl[ci]? = some r) (C0 : zC p s m args c own cc nL D ca A) (hW : zW D ca A σ H) (ho : isO σ ci q = some ()) : ∃ cellB : Cell, H[q]? = some cellB ∧ cellB.vm.isStatics = false ∧ s.vm.findClass r.1 = some cellB.cls := by
  obtain ⟨L, hL, hP, hD⟩ := hW
  obtain ⟨hx, hb, hml, hown, hts, hK, hN, hA⟩ := C0
  unfold isO at ho
  split at ho
  · rename_i c1 fs hσ
    split at ho
    · rename_i hc
      subst hc
      obtain ⟨hm, k, hk⟩ := zW.get (D := D) (ca := ca) hL hσ
      exact va_recv hK hP hci hk
    · cases ho
  · cases ho
variable {y : MethodName} {cy : ByteArray} {ml n mc ms : Nat} {ret : Option FieldType} {rm : Room} {As : List Value} {Qc : Array Value → State → Outcome → State → Prop} {host : String}
theorem z_runV {r : vw_C} (hci : vwCl[ci]? = some r) (hrc : r.1 = y.cls) (C0 : zC p s m args c own cc nL D ca A) (lk : zLV own idx y cy ml ret n) (hM : Met l y (.code y cy ml ret :: wsL_law) rm (va_Pc (.ref q :: As) (zP D ca A σ)) Qc mc ms A) (hW : zW D ca A σ H) (hS : va_S A s.heap H locs) (ho : isO σ ci q = some ()) (hn : As.length = n) (hl : ls.size = nL) (hst : st = As.reverse ++ .ref q :: rest) (hrest : (rest.map fun v => v.category).sum ≤ 8) (d : decode cc pc = .ok (.invokevirtual idx, 3)) (hr1 : rm.cells = mc) (hr2 : rm.slots = ms) (hR : rm.frames + 1 ≤ R.frames ∧ 8 + (ml + 11) + rm.locals ≤ R.locals) (hf : cells + mc ≤ R.cells ∧ slots + ms ≤ R.slots) :
    va_Run p l e R s m args below meth c H locs cells slots mc ms (F0 m pc ls st) rest (Qc (Value.ref q :: As).toArray) A := by
  have hrecv := zRecv hci C0 hW ho
  have hpre := zPre C0 hW hS
  obtain ⟨hx, hb, hml, hown, hts, hK, hN, hA⟩ := C0
  obtain ⟨l1, l2, l3, l4, l5, l6⟩ := lk
  refine va_runV (C := y.cls) ⟨hx, hb, hml, hown, hts⟩ hM (cwV n hts (zgoodIn ?_) rfl hr1 hr2 ⟨rfl, l6⟩ hR) ⟨zPc_blind _ _ _ _ _, by rw [← hrc]; exact hrecv, fun U hU hWm => ⟨rfl, hpre U hU hWm⟩⟩ rfl hn hl hst (lv_room hrest) d hf
  intro w hw
  unfold wsV at hw
  simp only [List.cons_append, List.nil_append, List.mem_cons] at hw
  rcases hw with rfl | rfl | rfl | rfl | rfl | hw
  · exact l1
  · exact l2
  · exact l3
  · exact l4
  · exact l5
  · exact hw
theorem z_runS (C0 : zC p s m args c own cc nL D ca A) (lk : zLS own idx y cy ml ret n) (hM : Met l y (.code y cy ml ret :: wsL_law) rm (va_Pc As (zP D ca A σ)) Qc mc ms A) (hW : zW D ca A σ H) (hS : va_S A s.heap H locs) (hn : As.length = n) (hl : ls.size = nL) (hst : st = As.reverse ++ rest) (hrest : (rest.map fun v => v.category).sum ≤ 8) (d : decode cc pc = .ok (.invokestatic idx, 3)) (hr1 : rm.cells = mc) (hr2 : rm.slots = ms) (hR : rm.frames + 1 ≤ R.frames ∧ 8 + (ml + 11) + rm.locals ≤ R.locals) (hf : cells + mc ≤ R.cells ∧ slots + ms ≤ R.slots) :
    va_Run p l e R s m args below meth c H locs cells slots mc ms (F0 m pc ls st) rest (Qc As.toArray) A := by
  have hpre := zPre C0 hW hS
  obtain ⟨hx, hb, hml, hown, hts, hK, hN, hA⟩ := C0
  obtain ⟨l1, l2, l3, l4, l5⟩ := lk
  refine va_runS ⟨hx, hb, hml, hown, hts⟩ hM (va_cwS n hts (zgoodIn ?_) rfl hr1 hr2 l5 hR) ⟨zPc_blind _ _ _ _ _, fun U hU hWm => ⟨rfl, hpre U hU hWm⟩⟩ rfl hn hl hst (lv_room hrest) d hf
  intro w hw
  unfold va_wsS at hw
  simp only [List.cons_append, List.nil_append, List.mem_cons] at hw
  rcases hw with rfl | rfl | rfl | rfl | hw
  · exact l1
  · exact l2
  · exact l3
  · exact l4
  · exact hw
theorem z_runN (C0 : zC p s m args c own cc nL D ca A) (lk : zLN own idx y host cy ml ret n) (hM : Met l y (.code y cy ml ret :: wsL_law) rm (va_Pc As (zP D ca A σ)) Qc mc ms A) (hW : zW D ca A σ H) (hS : va_S A s.heap H locs) (hn : As.length = n) (hl : ls.size = nL) (hst : st = As.reverse ++ rest) (hrest : (rest.map fun v => v.category).sum ≤ 8) (d : decode cc pc = .ok (.invokestatic idx, 3)) (hr1 : rm.cells = mc) (hr2 : rm.slots = ms) (hR : rm.frames + 1 ≤ R.frames ∧ 8 + (ml + 11) + rm.locals ≤ R.locals) (hf : cells + mc ≤ R.cells ∧ slots + ms ≤ R.slots) :
    va_Run p l e R s m args below meth c H locs cells slots mc ms (F0 m pc ls st) rest (Qc As.toArray) A := by
  have hpre := zPre C0 hW hS
  obtain ⟨hx, hb, hml, hown, hts, hK, hN, hA⟩ := C0
  obtain ⟨l1, l2, l3, l4, l5⟩ := lk
  exact va_runSN ⟨hx, hb, hml, hown, hts⟩ hM ⟨va_cnB n hts (zgoodIn (zwin l4)) rfl hr1 hr2 (hN.1 _ l1) (hts _ l3) l5 hR, hts _ l2, trivial⟩ ⟨zPc_blind _ _ _ _ _, fun U hU hWm => ⟨rfl, hpre U hU hWm⟩⟩ rfl hn hl hst (lv_room hrest) d hf
theorem z_calli {r0 : Int32} {a : Array Value} (hr : va_Run p l e R s m args below meth c H locs cells slots mc ms (F0 m pc ls st) rest (zQi r0 D ca A σ' a) A) (hS : va_S A s.heap H locs)
    (kk : ∀ (H1 : Heap) (locs1 : List Loc), zW D ca A σ' H1 → va_S A s.heap H1 locs1 → W p l e R s m args below meth c H1 locs1 (cells + mc) (slots + ms) Q (F0 m (pc + 3) ls (.int r0 :: rest))) : W p l e R s m args below meth c H locs cells slots Q (F0 m pc ls st) := by
  refine va_calli hr hS (fun _ _ h => h) (fun _ h => h) (fun r u t H1 locs1 ht hvm hp hB hz hk hS1 => ?_)
  subst hp
  subst ht
  exact kk _ _ hB hS1
theorem z_callv {a : Array Value} (hr : va_Run p l e R s m args below meth c H locs cells slots mc ms (F0 m pc ls st) rest (zQv D ca A σ' a) A) (hS : va_S A s.heap H locs)
    (kk : ∀ (H1 : Heap) (locs1 : List Loc), zW D ca A σ' H1 → va_S A s.heap H1 locs1 → W p l e R s m args below meth c H1 locs1 (cells + mc) (slots + ms) Q (F0 m (pc + 3) ls rest)) : W p l e R s m args below meth c H locs cells slots Q (F0 m pc ls st) := by
  refine va_callv hr hS (fun _ _ h => h) (fun _ h => h) (fun u t H1 locs1 ht hvm hp hB hz hk hS1 => ?_)
  subst ht
  exact kk _ _ hB hS1
theorem z_callq {r0 : Option Nat} {a : Array Value} (hr : va_Run p l e R s m args below meth c H locs cells slots mc ms (F0 m pc ls st) rest (zQq r0 D ca A σ' a) A) (hS : va_S A s.heap H locs)
    (kk : ∀ (H1 : Heap) (locs1 : List Loc), zW D ca A σ' H1 → va_S A s.heap H1 locs1 → W p l e R s m args below meth c H1 locs1 (cells + mc) (slots + ms) Q (F0 m (pc + 3) ls (va_rf r0 :: rest))) : W p l e R s m args below meth c H locs cells slots Q (F0 m pc ls st) := by
  refine va_callq hr hS (fun _ _ h => h) (fun _ h => h) (fun r u t H1 locs1 ht hvm hp hB hz hk hS1 => ?_)
  subst hp
  subst ht
  exact kk _ _ hB hS1
theorem r_iret {v : Int32} (C0 : zC p s m args c own cc nL D ca A) (hr : meth.sig.returnType = some .int) (hlocks : meth.locks = false) (hW : zW D ca A σ H) (hS : va_S A s.heap H locs) (d : decode cc pc = .ok (.ireturn, 1)) : W p l e R s m args below meth c H locs cells slots (MQ below (zQi v D ca A σ) args s cells slots A) (F0 m pc ls [.int v]) :=
  W.iret C0.1 C0.2.1 hr (fun t ht _ => ⟨⟨v, (), rfl, rfl, by show zW D ca A σ t.heap; rw [ht]; exact hW⟩, hS.F ht⟩) hS.2.2 d hlocks
theorem r_zret {v : Int32} {ty : FieldType} (C0 : zC p s m args c own cc nL D ca A) (hr : meth.sig.returnType = some ty) (hn : narrow ty (.int v) = .int v) (hlocks : meth.locks = false) (hW : zW D ca A σ H) (hS : va_S A s.heap H locs) (d : decode cc pc = .ok (.ireturn, 1)) : W p l e R s m args below meth c H locs cells slots (MQ below (zQi v D ca A σ) args s cells slots A) (F0 m pc ls [.int v]) :=
  W.zret C0.1 C0.2.1 hr hn (fun t ht _ => ⟨⟨v, (), rfl, rfl, by show zW D ca A σ t.heap; rw [ht]; exact hW⟩, hS.F ht⟩) hS.2.2 d hlocks
theorem r_vret (C0 : zC p s m args c own cc nL D ca A) (hr : meth.sig.returnType = none) (hlocks : meth.locks = false) (hW : zW D ca A σ H) (hS : va_S A s.heap H locs) (d : decode cc pc = .ok (.return_, 1)) : W p l e R s m args below meth c H locs cells slots (MQ below (zQv D ca A σ) args s cells slots A) (F0 m pc ls []) :=
  W.vret C0.1 C0.2.1 hr (fun t ht _ => ⟨⟨(), rfl, trivial, by show zW D ca A σ t.heap; rw [ht]; exact hW⟩, hS.F ht⟩) hS.2.2 d hlocks
theorem r_aret {v : Option Nat} {C : String} (C0 : zC p s m args c own cc nL D ca A) (hr : meth.sig.returnType = some (.object C)) (hlocks : meth.locks = false) (hW : zW D ca A σ H) (hS : va_S A s.heap H locs) (d : decode cc pc = .ok (.areturn, 1)) : W p l e R s m args below meth c H locs cells slots (MQ below (zQq v D ca A σ) args s cells slots A) (F0 m pc ls [va_rf v]) :=
  W.aret C0.1 C0.2.1 hr (Or.inl ⟨C, rfl⟩) (by cases v with | none => exact Or.inl rfl | some a => exact Or.inr ⟨a, rfl⟩) (fun t ht _ => ⟨⟨v, (), rfl, rfl, by show zW D ca A σ t.heap; rw [ht]; exact hW⟩, hS.F ht⟩) hS.2.2 d hlocks
theorem nar_z {v w : Int32} (h : ckZ v = some w) : v = w ∧ narrow .boolean (.int w) = .int w := by
  unfold ckZ at h
  split at h
  · rename_i h1
    cases h
    rcases h1 with rfl | rfl
    · exact ⟨rfl, rfl⟩
    · exact ⟨rfl, rfl⟩
  · cases h
theorem nar_ch {v w : Int32} (h : ckC v = some w) : v = w ∧ narrow .char (.int w) = .int w := by
  unfold ckC at h
  split at h
  · rename_i h1
    cases h
    exact ⟨rfl, (nar_c h1).1⟩
  · cases h
abbrev zMin (own : String) (idx : Nat) : Prop := Cond.methodLink own idx Lib.Math.min.name ∈ wsL_law ∧ Cond.static Lib.Math.min.name ∈ wsL_law ∧ Cond.initialized "java/lang/Math" ∈ wsL_law ∧ Cond.code Lib.Math.min.name Lib.Math.min.code 2 (some .int) ∈ wsL_law
abbrev zMax (own : String) (idx : Nat) : Prop := Cond.methodLink own idx Lib.Math.max.name ∈ wsL_law ∧ Cond.static Lib.Math.max.name ∈ wsL_law ∧ Cond.initialized "java/lang/Math" ∈ wsL_law ∧ Cond.code Lib.Math.max.name Lib.Math.max.code 2 (some .int) ∈ wsL_law
abbrev zAbs (own : String) (idx : Nat) : Prop := Cond.methodLink own idx Lib.Math.abs.name ∈ wsL_law ∧ Cond.static Lib.Math.abs.name ∈ wsL_law ∧ Cond.initialized "java/lang/Math" ∈ wsL_law ∧ Cond.code Lib.Math.abs.name Lib.Math.abs.code 1 (some .int) ∈ wsL_law
theorem r_min {x z : Int32} (C0 : zC p s m args c own cc nL D ca A) (lk : zMin own idx) (hl : ls.size = nL) (hframes : 1 ≤ R.frames) (hlocals : (rest.map fun v => v.category).sum + 13 ≤ R.locals) (hc : cells ≤ R.cells ∧ slots ≤ R.slots) (d : decode cc pc = .ok (.invokestatic idx, 3))
    (kk : W p l e R s m args below meth c H locs cells slots Q (F0 m (pc + 3) ls (.int (imin x z) :: rest))) : W p l e R s m args below meth c H locs cells slots Q (F0 m pc ls (.int z :: .int x :: rest)) := by
  obtain ⟨hx, hb, hml, hown, hts, hK, hN, hA⟩ := C0
  exact va_mmin hx hb (hml.trans hl.symm) hown (hts _ lk.1) (hts _ lk.2.1) (hts _ lk.2.2.1) (hts _ lk.2.2.2) hframes hlocals hc.1 hc.2 d kk
theorem r_max {x z : Int32} (C0 : zC p s m args c own cc nL D ca A) (lk : zMax own idx) (hl : ls.size = nL) (hframes : 1 ≤ R.frames) (hlocals : (rest.map fun v => v.category).sum + 13 ≤ R.locals) (hc : cells ≤ R.cells ∧ slots ≤ R.slots) (d : decode cc pc = .ok (.invokestatic idx, 3))
    (kk : W p l e R s m args below meth c H locs cells slots Q (F0 m (pc + 3) ls (.int (imax x z) :: rest))) : W p l e R s m args below meth c H locs cells slots Q (F0 m pc ls (.int z :: .int x :: rest)) := by
  obtain ⟨hx, hb, hml, hown, hts, hK, hN, hA⟩ := C0
  exact va_mmax hx hb (hml.trans hl.symm) hown (hts _ lk.1) (hts _ lk.2.1) (hts _ lk.2.2.1) (hts _ lk.2.2.2) hframes hlocals hc.1 hc.2 d kk
theorem r_abs {x : Int32} (C0 : zC p s m args c own cc nL D ca A) (lk : zAbs own idx) (hl : ls.size = nL) (hframes : 1 ≤ R.frames) (hlocals : (rest.map fun v => v.category).sum + 13 ≤ R.locals) (hc : cells ≤ R.cells ∧ slots ≤ R.slots) (d : decode cc pc = .ok (.invokestatic idx, 3))
    (kk : W p l e R s m args below meth c H locs cells slots Q (F0 m (pc + 3) ls (.int (iabs x) :: rest))) : W p l e R s m args below meth c H locs cells slots Q (F0 m pc ls (.int x :: rest)) := by
  obtain ⟨hx, hb, hml, hown, hts, hK, hN, hA⟩ := C0
  exact va_mabs hx hb (hml.trans hl.symm) hown (hts _ lk.1) (hts _ lk.2.1) (hts _ lk.2.2.1) (hts _ lk.2.2.2) hframes hlocals hc.1 hc.2 d kk
theorem z_top {x w : Int32} (h : some x = some w) (kk : W p l e R s m args below meth c H locs cells slots Q (F0 m pc ls (.int w :: rest))) : W p l e R s m args below meth c H locs cells slots Q (F0 m pc ls (.int x :: rest)) := by
  cases h
  exact kk
theorem z_topl {x w : Int64} (h : some x = some w) (kk : W p l e R s m args below meth c H locs cells slots Q (F0 m pc ls (.long w :: rest))) : W p l e R s m args below meth c H locs cells slots Q (F0 m pc ls (.long x :: rest)) := by
  cases h
  exact kk
theorem z_topf {x w : UInt32} (h : some x = some w) (kk : W p l e R s m args below meth c H locs cells slots Q (F0 m pc ls (.float w :: rest))) : W p l e R s m args below meth c H locs cells slots Q (F0 m pc ls (.float x :: rest)) := by
  cases h
  exact kk
theorem r_lcmp {x y : Int64} (hx : p.tables.exec = Jvm.exec) (hb : c.code = cc) (d : decode cc pc = .ok (.lcmp, 1)) (kk : W p l e R s m args below meth c H locs cells slots Q (F0 m (pc + 1) ls (.int (lg_cmp x y) :: rest))) : W p l e R s m args below meth c H locs cells slots Q (F0 m pc ls (.long y :: .long x :: rest)) := W.lcmp hx hb d kk
theorem r_irem {x y : Int32} (hx : p.tables.exec = Jvm.exec) (hb : c.code = cc) (d : decode cc pc = .ok (.irem, 1)) (h : ¬ y = 0) (kk : W p l e R s m args below meth c H locs cells slots Q (F0 m (pc + 1) ls (.int (irem x y) :: rest))) : W p l e R s m args below meth c H locs cells slots Q (F0 m pc ls (.int y :: .int x :: rest)) := lv_irem hx hb d h kk
theorem r_iushr {x y : Int32} (hx : p.tables.exec = Jvm.exec) (hb : c.code = cc) (d : decode cc pc = .ok (.iushr, 1)) (kk : W p l e R s m args below meth c H locs cells slots Q (F0 m (pc + 1) ls (.int (iushr x y) :: rest))) : W p l e R s m args below meth c H locs cells slots Q (F0 m pc ls (.int y :: .int x :: rest)) := lv_iushr hx hb d rfl kk
theorem r_lshl {x : Int64} {y : Int32} (hx : p.tables.exec = Jvm.exec) (hb : c.code = cc) (d : decode cc pc = .ok (.lshl, 1)) (kk : W p l e R s m args below meth c H locs cells slots Q (F0 m (pc + 1) ls (.long (lshl x y) :: rest))) : W p l e R s m args below meth c H locs cells slots Q (F0 m pc ls (.int y :: .long x :: rest)) := lv_lshl hx hb d rfl kk
theorem r_i2c {x : Int32} (hx : p.tables.exec = Jvm.exec) (hb : c.code = cc) (d : decode cc pc = .ok (.i2c, 1)) (kk : W p l e R s m args below meth c H locs cells slots Q (F0 m (pc + 1) ls (.int (i2c x) :: rest))) : W p l e R s m args below meth c H locs cells slots Q (F0 m pc ls (.int x :: rest)) := lv_i2c hx hb d rfl kk
end ZR
end
section
theorem zin_1 : ∀ w ∈ wsL_law_r1, w ∈ wsL_law := fun _ h => List.mem_append_left _ (List.mem_append_left _ (List.mem_append_left _ (List.mem_append_left _ (List.mem_append_left _ (List.mem_append_left _ (List.mem_append_left _ (List.mem_append_left _ (List.mem_append_left _ (List.mem_append_left _ (List.mem_append_left _ (List.mem_append_left _ h)))))))))))
theorem zin_2 : ∀ w ∈ wsL_law_r2, w ∈ wsL_law := fun _ h => List.mem_append_left _ (List.mem_append_left _ (List.mem_append_left _ (List.mem_append_left _ (List.mem_append_left _ (List.mem_append_left _ (List.mem_append_left _ (List.mem_append_left _ (List.mem_append_left _ (List.mem_append_left _ (List.mem_append_left _ (List.mem_append_right _ (List.mem_append_left _ h))))))))))))
theorem zin_3 : ∀ w ∈ wsL_law_r3, w ∈ wsL_law := fun _ h => List.mem_append_left _ (List.mem_append_left _ (List.mem_append_left _ (List.mem_append_left _ (List.mem_append_left _ (List.mem_append_left _ (List.mem_append_left _ (List.mem_append_left _ (List.mem_append_left _ (List.mem_append_left _ (List.mem_append_left _ (List.mem_append_right _ (List.mem_append_right _ (List.mem_append_left _ h)))))))))))))
theorem zin_4 : ∀ w ∈ wsL_law_r4, w ∈ wsL_law := fun _ h => List.mem_append_left _ (List.mem_append_left _ (List.mem_append_left _ (List.mem_append_left _ (List.mem_append_left _ (List.mem_append_left _ (List.mem_append_left _ (List.mem_append_left _ (List.mem_append_left _ (List.mem_append_left _ (List.mem_append_left _ (List.mem_append_right _ (List.mem_append_right _ (List.mem_append_right _ (List.mem_append_left _ h))))))))))))))
theorem zin_5 : ∀ w ∈ wsL_law_r5, w ∈ wsL_law := fun _ h => List.mem_append_left _ (List.mem_append_left _ (List.mem_append_left _ (List.mem_append_left _ (List.mem_append_left _ (List.mem_append_left _ (List.mem_append_left _ (List.mem_append_left _ (List.mem_append_left _ (List.mem_append_left _ (List.mem_append_left _ (List.mem_append_right _ (List.mem_append_right _ (List.mem_append_right _ (List.mem_append_right _ (List.mem_append_left _ h)))))))))))))))
theorem zin_6 : ∀ w ∈ wsL_law_r6, w ∈ wsL_law := fun _ h => List.mem_append_left _ (List.mem_append_left _ (List.mem_append_left _ (List.mem_append_left _ (List.mem_append_left _ (List.mem_append_left _ (List.mem_append_left _ (List.mem_append_left _ (List.mem_append_left _ (List.mem_append_left _ (List.mem_append_left _ (List.mem_append_right _ (List.mem_append_right _ (List.mem_append_right _ (List.mem_append_right _ (List.mem_append_right _ (List.mem_append_left _ h))))))))))))))))
theorem zin_7 : ∀ w ∈ wsL_law_r7, w ∈ wsL_law := fun _ h => List.mem_append_left _ (List.mem_append_left _ (List.mem_append_left _ (List.mem_append_left _ (List.mem_append_left _ (List.mem_append_left _ (List.mem_append_left _ (List.mem_append_left _ (List.mem_append_left _ (List.mem_append_left _ (List.mem_append_left _ (List.mem_append_right _ (List.mem_append_right _ (List.mem_append_right _ (List.mem_append_right _ (List.mem_append_right _ (List.mem_append_right _ (List.mem_append_left _ h)))))))))))))))))
theorem zin_8 : ∀ w ∈ wsL_law_r8, w ∈ wsL_law := fun _ h => List.mem_append_left _ (List.mem_append_left _ (List.mem_append_left _ (List.mem_append_left _ (List.mem_append_left _ (List.mem_append_left _ (List.mem_append_left _ (List.mem_append_left _ (List.mem_append_left _ (List.mem_append_left _ (List.mem_append_left _ (List.mem_append_right _ (List.mem_append_right _ (List.mem_append_right _ (List.mem_append_right _ (List.mem_append_right _ (List.mem_append_right _ (List.mem_append_right _ (List.mem_append_left _ h))))))))))))))))))
theorem zin_9 : ∀ w ∈ wsL_law_r9, w ∈ wsL_law := fun _ h => List.mem_append_left _ (List.mem_append_left _ (List.mem_append_left _ (List.mem_append_left _ (List.mem_append_left _ (List.mem_append_left _ (List.mem_append_left _ (List.mem_append_left _ (List.mem_append_left _ (List.mem_append_left _ (List.mem_append_left _ (List.mem_append_right _ (List.mem_append_right _ (List.mem_append_right _ (List.mem_append_right _ (List.mem_append_right _ (List.mem_append_right _ (List.mem_append_right _ (List.mem_append_right _ (List.mem_append_left _ h)))))))))))))))))))
theorem zin_10 : ∀ w ∈ wsL_law_r10, w ∈ wsL_law := fun _ h => List.mem_append_left _ (List.mem_append_left _ (List.mem_append_left _ (List.mem_append_left _ (List.mem_append_left _ (List.mem_append_left _ (List.mem_append_left _ (List.mem_append_left _ (List.mem_append_left _ (List.mem_append_left _ (List.mem_append_left _ (List.mem_append_right _ (List.mem_append_right _ (List.mem_append_right _ (List.mem_append_right _ (List.mem_append_right _ (List.mem_append_right _ (List.mem_append_right _ (List.mem_append_right _ (List.mem_append_right _ (List.mem_append_left _ h))))))))))))))))))))
theorem zin_11 : ∀ w ∈ wsL_law_r11, w ∈ wsL_law := fun _ h => List.mem_append_left _ (List.mem_append_left _ (List.mem_append_left _ (List.mem_append_left _ (List.mem_append_left _ (List.mem_append_left _ (List.mem_append_left _ (List.mem_append_left _ (List.mem_append_left _ (List.mem_append_left _ (List.mem_append_left _ (List.mem_append_right _ (List.mem_append_right _ (List.mem_append_right _ (List.mem_append_right _ (List.mem_append_right _ (List.mem_append_right _ (List.mem_append_right _ (List.mem_append_right _ (List.mem_append_right _ (List.mem_append_right _ (List.mem_append_left _ h)))))))))))))))))))))
theorem zin_12 : ∀ w ∈ wsL_law_r12, w ∈ wsL_law := fun _ h => List.mem_append_left _ (List.mem_append_left _ (List.mem_append_left _ (List.mem_append_left _ (List.mem_append_left _ (List.mem_append_left _ (List.mem_append_left _ (List.mem_append_left _ (List.mem_append_left _ (List.mem_append_left _ (List.mem_append_left _ (List.mem_append_right _ (List.mem_append_right _ (List.mem_append_right _ (List.mem_append_right _ (List.mem_append_right _ (List.mem_append_right _ (List.mem_append_right _ (List.mem_append_right _ (List.mem_append_right _ (List.mem_append_right _ (List.mem_append_right _ (List.mem_append_left _ h))))))))))))))))))))))
theorem zin_13 : ∀ w ∈ wsL_law_r13, w ∈ wsL_law := fun _ h => List.mem_append_left _ (List.mem_append_left _ (List.mem_append_left _ (List.mem_append_left _ (List.mem_append_left _ (List.mem_append_left _ (List.mem_append_left _ (List.mem_append_left _ (List.mem_append_left _ (List.mem_append_left _ (List.mem_append_left _ (List.mem_append_right _ (List.mem_append_right _ (List.mem_append_right _ (List.mem_append_right _ (List.mem_append_right _ (List.mem_append_right _ (List.mem_append_right _ (List.mem_append_right _ (List.mem_append_right _ (List.mem_append_right _ (List.mem_append_right _ (List.mem_append_right _ (List.mem_append_left _ h)))))))))))))))))))))))
theorem zin_14 : ∀ w ∈ wsL_law_r14, w ∈ wsL_law := fun _ h => List.mem_append_left _ (List.mem_append_left _ (List.mem_append_left _ (List.mem_append_left _ (List.mem_append_left _ (List.mem_append_left _ (List.mem_append_left _ (List.mem_append_left _ (List.mem_append_left _ (List.mem_append_left _ (List.mem_append_left _ (List.mem_append_right _ (List.mem_append_right _ (List.mem_append_right _ (List.mem_append_right _ (List.mem_append_right _ (List.mem_append_right _ (List.mem_append_right _ (List.mem_append_right _ (List.mem_append_right _ (List.mem_append_right _ (List.mem_append_right _ (List.mem_append_right _ (List.mem_append_right _ (List.mem_append_left _ h))))))))))))))))))))))))
theorem zin_15 : ∀ w ∈ wsL_law_r15, w ∈ wsL_law := fun _ h => List.mem_append_left _ (List.mem_append_left _ (List.mem_append_left _ (List.mem_append_left _ (List.mem_append_left _ (List.mem_append_left _ (List.mem_append_left _ (List.mem_append_left _ (List.mem_append_left _ (List.mem_append_left _ (List.mem_append_left _ (List.mem_append_right _ (List.mem_append_right _ (List.mem_append_right _ (List.mem_append_right _ (List.mem_append_right _ (List.mem_append_right _ (List.mem_append_right _ (List.mem_append_right _ (List.mem_append_right _ (List.mem_append_right _ (List.mem_append_right _ (List.mem_append_right _ (List.mem_append_right _ (List.mem_append_right _ (List.mem_append_left _ h)))))))))))))))))))))))))
theorem zin_16 : ∀ w ∈ wsL_law_r16, w ∈ wsL_law := fun _ h => List.mem_append_left _ (List.mem_append_left _ (List.mem_append_left _ (List.mem_append_left _ (List.mem_append_left _ (List.mem_append_left _ (List.mem_append_left _ (List.mem_append_left _ (List.mem_append_left _ (List.mem_append_left _ (List.mem_append_left _ (List.mem_append_right _ (List.mem_append_right _ (List.mem_append_right _ (List.mem_append_right _ (List.mem_append_right _ (List.mem_append_right _ (List.mem_append_right _ (List.mem_append_right _ (List.mem_append_right _ (List.mem_append_right _ (List.mem_append_right _ (List.mem_append_right _ (List.mem_append_right _ (List.mem_append_right _ (List.mem_append_right _ (List.mem_append_left _ h))))))))))))))))))))))))))
theorem zin_17 : ∀ w ∈ wsL_law_r17, w ∈ wsL_law := fun _ h => List.mem_append_left _ (List.mem_append_left _ (List.mem_append_left _ (List.mem_append_left _ (List.mem_append_left _ (List.mem_append_left _ (List.mem_append_left _ (List.mem_append_left _ (List.mem_append_left _ (List.mem_append_left _ (List.mem_append_left _ (List.mem_append_right _ (List.mem_append_right _ (List.mem_append_right _ (List.mem_append_right _ (List.mem_append_right _ (List.mem_append_right _ (List.mem_append_right _ (List.mem_append_right _ (List.mem_append_right _ (List.mem_append_right _ (List.mem_append_right _ (List.mem_append_right _ (List.mem_append_right _ (List.mem_append_right _ (List.mem_append_right _ (List.mem_append_right _ (List.mem_append_left _ h)))))))))))))))))))))))))))
theorem zin_18 : ∀ w ∈ wsL_law_r18, w ∈ wsL_law := fun _ h => List.mem_append_left _ (List.mem_append_left _ (List.mem_append_left _ (List.mem_append_left _ (List.mem_append_left _ (List.mem_append_left _ (List.mem_append_left _ (List.mem_append_left _ (List.mem_append_left _ (List.mem_append_left _ (List.mem_append_left _ (List.mem_append_right _ (List.mem_append_right _ (List.mem_append_right _ (List.mem_append_right _ (List.mem_append_right _ (List.mem_append_right _ (List.mem_append_right _ (List.mem_append_right _ (List.mem_append_right _ (List.mem_append_right _ (List.mem_append_right _ (List.mem_append_right _ (List.mem_append_right _ (List.mem_append_right _ (List.mem_append_right _ (List.mem_append_right _ (List.mem_append_right _ (List.mem_append_left _ h))))))))))))))))))))))))))))
theorem zin_19 : ∀ w ∈ wsL_law_r19, w ∈ wsL_law := fun _ h => List.mem_append_left _ (List.mem_append_left _ (List.mem_append_left _ (List.mem_append_left _ (List.mem_append_left _ (List.mem_append_left _ (List.mem_append_left _ (List.mem_append_left _ (List.mem_append_left _ (List.mem_append_left _ (List.mem_append_left _ (List.mem_append_right _ (List.mem_append_right _ (List.mem_append_right _ (List.mem_append_right _ (List.mem_append_right _ (List.mem_append_right _ (List.mem_append_right _ (List.mem_append_right _ (List.mem_append_right _ (List.mem_append_right _ (List.mem_append_right _ (List.mem_append_right _ (List.mem_append_right _ (List.mem_append_right _ (List.mem_append_right _ (List.mem_append_right _ (List.mem_append_right _ (List.mem_append_right _ (List.mem_append_left _ h)))))))))))))))))))))))))))))
theorem zin_20 : ∀ w ∈ wsL_law_r20, w ∈ wsL_law := fun _ h => List.mem_append_left _ (List.mem_append_left _ (List.mem_append_left _ (List.mem_append_left _ (List.mem_append_left _ (List.mem_append_left _ (List.mem_append_left _ (List.mem_append_left _ (List.mem_append_left _ (List.mem_append_left _ (List.mem_append_left _ (List.mem_append_right _ (List.mem_append_right _ (List.mem_append_right _ (List.mem_append_right _ (List.mem_append_right _ (List.mem_append_right _ (List.mem_append_right _ (List.mem_append_right _ (List.mem_append_right _ (List.mem_append_right _ (List.mem_append_right _ (List.mem_append_right _ (List.mem_append_right _ (List.mem_append_right _ (List.mem_append_right _ (List.mem_append_right _ (List.mem_append_right _ (List.mem_append_right _ (List.mem_append_right _ (List.mem_append_left _ h))))))))))))))))))))))))))))))
theorem zin_21 : ∀ w ∈ wsL_law_r21, w ∈ wsL_law := fun _ h => List.mem_append_left _ (List.mem_append_left _ (List.mem_append_left _ (List.mem_append_left _ (List.mem_append_left _ (List.mem_append_left _ (List.mem_append_left _ (List.mem_append_left _ (List.mem_append_left _ (List.mem_append_left _ (List.mem_append_left _ (List.mem_append_right _ (List.mem_append_right _ (List.mem_append_right _ (List.mem_append_right _ (List.mem_append_right _ (List.mem_append_right _ (List.mem_append_right _ (List.mem_append_right _ (List.mem_append_right _ (List.mem_append_right _ (List.mem_append_right _ (List.mem_append_right _ (List.mem_append_right _ (List.mem_append_right _ (List.mem_append_right _ (List.mem_append_right _ (List.mem_append_right _ (List.mem_append_right _ (List.mem_append_right _ (List.mem_append_right _ (List.mem_append_left _ h)))))))))))))))))))))))))))))))
theorem zin_22 : ∀ w ∈ wsL_law_r22, w ∈ wsL_law := fun _ h => List.mem_append_left _ (List.mem_append_left _ (List.mem_append_left _ (List.mem_append_left _ (List.mem_append_left _ (List.mem_append_left _ (List.mem_append_left _ (List.mem_append_left _ (List.mem_append_left _ (List.mem_append_left _ (List.mem_append_left _ (List.mem_append_right _ (List.mem_append_right _ (List.mem_append_right _ (List.mem_append_right _ (List.mem_append_right _ (List.mem_append_right _ (List.mem_append_right _ (List.mem_append_right _ (List.mem_append_right _ (List.mem_append_right _ (List.mem_append_right _ (List.mem_append_right _ (List.mem_append_right _ (List.mem_append_right _ (List.mem_append_right _ (List.mem_append_right _ (List.mem_append_right _ (List.mem_append_right _ (List.mem_append_right _ (List.mem_append_right _ (List.mem_append_right _ (List.mem_append_left _ h))))))))))))))))))))))))))))))))
theorem zin_23 : ∀ w ∈ wsL_law_r23, w ∈ wsL_law := fun _ h => List.mem_append_left _ (List.mem_append_left _ (List.mem_append_left _ (List.mem_append_left _ (List.mem_append_left _ (List.mem_append_left _ (List.mem_append_left _ (List.mem_append_left _ (List.mem_append_left _ (List.mem_append_left _ (List.mem_append_left _ (List.mem_append_right _ (List.mem_append_right _ (List.mem_append_right _ (List.mem_append_right _ (List.mem_append_right _ (List.mem_append_right _ (List.mem_append_right _ (List.mem_append_right _ (List.mem_append_right _ (List.mem_append_right _ (List.mem_append_right _ (List.mem_append_right _ (List.mem_append_right _ (List.mem_append_right _ (List.mem_append_right _ (List.mem_append_right _ (List.mem_append_right _ (List.mem_append_right _ (List.mem_append_right _ (List.mem_append_right _ (List.mem_append_right _ (List.mem_append_right _ (List.mem_append_left _ h)))))))))))))))))))))))))))))))))
theorem zin_24 : ∀ w ∈ wsL_law_r24, w ∈ wsL_law := fun _ h => List.mem_append_left _ (List.mem_append_left _ (List.mem_append_left _ (List.mem_append_left _ (List.mem_append_left _ (List.mem_append_left _ (List.mem_append_left _ (List.mem_append_left _ (List.mem_append_left _ (List.mem_append_left _ (List.mem_append_left _ (List.mem_append_right _ (List.mem_append_right _ (List.mem_append_right _ (List.mem_append_right _ (List.mem_append_right _ (List.mem_append_right _ (List.mem_append_right _ (List.mem_append_right _ (List.mem_append_right _ (List.mem_append_right _ (List.mem_append_right _ (List.mem_append_right _ (List.mem_append_right _ (List.mem_append_right _ (List.mem_append_right _ (List.mem_append_right _ (List.mem_append_right _ (List.mem_append_right _ (List.mem_append_right _ (List.mem_append_right _ (List.mem_append_right _ (List.mem_append_right _ (List.mem_append_right _ (List.mem_append_left _ h))))))))))))))))))))))))))))))))))
theorem zin_25 : ∀ w ∈ wsL_law_r25, w ∈ wsL_law := fun _ h => List.mem_append_left _ (List.mem_append_left _ (List.mem_append_left _ (List.mem_append_left _ (List.mem_append_left _ (List.mem_append_left _ (List.mem_append_left _ (List.mem_append_left _ (List.mem_append_left _ (List.mem_append_left _ (List.mem_append_left _ (List.mem_append_right _ (List.mem_append_right _ (List.mem_append_right _ (List.mem_append_right _ (List.mem_append_right _ (List.mem_append_right _ (List.mem_append_right _ (List.mem_append_right _ (List.mem_append_right _ (List.mem_append_right _ (List.mem_append_right _ (List.mem_append_right _ (List.mem_append_right _ (List.mem_append_right _ (List.mem_append_right _ (List.mem_append_right _ (List.mem_append_right _ (List.mem_append_right _ (List.mem_append_right _ (List.mem_append_right _ (List.mem_append_right _ (List.mem_append_right _ (List.mem_append_right _ (List.mem_append_right _ (List.mem_append_left _ h)))))))))))))))))))))))))))))))))))
theorem zin_26 : ∀ w ∈ wsL_law_r26, w ∈ wsL_law := fun _ h => List.mem_append_left _ (List.mem_append_left _ (List.mem_append_left _ (List.mem_append_left _ (List.mem_append_left _ (List.mem_append_left _ (List.mem_append_left _ (List.mem_append_left _ (List.mem_append_left _ (List.mem_append_left _ (List.mem_append_left _ (List.mem_append_right _ (List.mem_append_right _ (List.mem_append_right _ (List.mem_append_right _ (List.mem_append_right _ (List.mem_append_right _ (List.mem_append_right _ (List.mem_append_right _ (List.mem_append_right _ (List.mem_append_right _ (List.mem_append_right _ (List.mem_append_right _ (List.mem_append_right _ (List.mem_append_right _ (List.mem_append_right _ (List.mem_append_right _ (List.mem_append_right _ (List.mem_append_right _ (List.mem_append_right _ (List.mem_append_right _ (List.mem_append_right _ (List.mem_append_right _ (List.mem_append_right _ (List.mem_append_right _ (List.mem_append_right _ (List.mem_append_left _ h))))))))))))))))))))))))))))))))))))
theorem zin_27 : ∀ w ∈ wsL_law_r27, w ∈ wsL_law := fun _ h => List.mem_append_left _ (List.mem_append_left _ (List.mem_append_left _ (List.mem_append_left _ (List.mem_append_left _ (List.mem_append_left _ (List.mem_append_left _ (List.mem_append_left _ (List.mem_append_left _ (List.mem_append_left _ (List.mem_append_left _ (List.mem_append_right _ (List.mem_append_right _ (List.mem_append_right _ (List.mem_append_right _ (List.mem_append_right _ (List.mem_append_right _ (List.mem_append_right _ (List.mem_append_right _ (List.mem_append_right _ (List.mem_append_right _ (List.mem_append_right _ (List.mem_append_right _ (List.mem_append_right _ (List.mem_append_right _ (List.mem_append_right _ (List.mem_append_right _ (List.mem_append_right _ (List.mem_append_right _ (List.mem_append_right _ (List.mem_append_right _ (List.mem_append_right _ (List.mem_append_right _ (List.mem_append_right _ (List.mem_append_right _ (List.mem_append_right _ (List.mem_append_right _ (List.mem_append_left _ h)))))))))))))))))))))))))))))))))))))
theorem zin_28 : ∀ w ∈ wsL_law_r28, w ∈ wsL_law := fun _ h => List.mem_append_left _ (List.mem_append_left _ (List.mem_append_left _ (List.mem_append_left _ (List.mem_append_left _ (List.mem_append_left _ (List.mem_append_left _ (List.mem_append_left _ (List.mem_append_left _ (List.mem_append_left _ (List.mem_append_left _ (List.mem_append_right _ (List.mem_append_right _ (List.mem_append_right _ (List.mem_append_right _ (List.mem_append_right _ (List.mem_append_right _ (List.mem_append_right _ (List.mem_append_right _ (List.mem_append_right _ (List.mem_append_right _ (List.mem_append_right _ (List.mem_append_right _ (List.mem_append_right _ (List.mem_append_right _ (List.mem_append_right _ (List.mem_append_right _ (List.mem_append_right _ (List.mem_append_right _ (List.mem_append_right _ (List.mem_append_right _ (List.mem_append_right _ (List.mem_append_right _ (List.mem_append_right _ (List.mem_append_right _ (List.mem_append_right _ (List.mem_append_right _ (List.mem_append_right _ (List.mem_append_left _ h))))))))))))))))))))))))))))))))))))))
theorem zin_29 : ∀ w ∈ wsL_law_r29, w ∈ wsL_law := fun _ h => List.mem_append_left _ (List.mem_append_left _ (List.mem_append_left _ (List.mem_append_left _ (List.mem_append_left _ (List.mem_append_left _ (List.mem_append_left _ (List.mem_append_left _ (List.mem_append_left _ (List.mem_append_left _ (List.mem_append_left _ (List.mem_append_right _ (List.mem_append_right _ (List.mem_append_right _ (List.mem_append_right _ (List.mem_append_right _ (List.mem_append_right _ (List.mem_append_right _ (List.mem_append_right _ (List.mem_append_right _ (List.mem_append_right _ (List.mem_append_right _ (List.mem_append_right _ (List.mem_append_right _ (List.mem_append_right _ (List.mem_append_right _ (List.mem_append_right _ (List.mem_append_right _ (List.mem_append_right _ (List.mem_append_right _ (List.mem_append_right _ (List.mem_append_right _ (List.mem_append_right _ (List.mem_append_right _ (List.mem_append_right _ (List.mem_append_right _ (List.mem_append_right _ (List.mem_append_right _ (List.mem_append_right _ (List.mem_append_left _ h)))))))))))))))))))))))))))))))))))))))
theorem zin_30 : ∀ w ∈ wsL_law_r30, w ∈ wsL_law := fun _ h => List.mem_append_left _ (List.mem_append_left _ (List.mem_append_left _ (List.mem_append_left _ (List.mem_append_left _ (List.mem_append_left _ (List.mem_append_left _ (List.mem_append_left _ (List.mem_append_left _ (List.mem_append_left _ (List.mem_append_left _ (List.mem_append_right _ (List.mem_append_right _ (List.mem_append_right _ (List.mem_append_right _ (List.mem_append_right _ (List.mem_append_right _ (List.mem_append_right _ (List.mem_append_right _ (List.mem_append_right _ (List.mem_append_right _ (List.mem_append_right _ (List.mem_append_right _ (List.mem_append_right _ (List.mem_append_right _ (List.mem_append_right _ (List.mem_append_right _ (List.mem_append_right _ (List.mem_append_right _ (List.mem_append_right _ (List.mem_append_right _ (List.mem_append_right _ (List.mem_append_right _ (List.mem_append_right _ (List.mem_append_right _ (List.mem_append_right _ (List.mem_append_right _ (List.mem_append_right _ (List.mem_append_right _ (List.mem_append_right _ (List.mem_append_left _ h))))))))))))))))))))))))))))))))))))))))
theorem zin_31 : ∀ w ∈ wsL_law_r31, w ∈ wsL_law := fun _ h => List.mem_append_left _ (List.mem_append_left _ (List.mem_append_left _ (List.mem_append_left _ (List.mem_append_left _ (List.mem_append_left _ (List.mem_append_left _ (List.mem_append_left _ (List.mem_append_left _ (List.mem_append_left _ (List.mem_append_left _ (List.mem_append_right _ (List.mem_append_right _ (List.mem_append_right _ (List.mem_append_right _ (List.mem_append_right _ (List.mem_append_right _ (List.mem_append_right _ (List.mem_append_right _ (List.mem_append_right _ (List.mem_append_right _ (List.mem_append_right _ (List.mem_append_right _ (List.mem_append_right _ (List.mem_append_right _ (List.mem_append_right _ (List.mem_append_right _ (List.mem_append_right _ (List.mem_append_right _ (List.mem_append_right _ (List.mem_append_right _ (List.mem_append_right _ (List.mem_append_right _ (List.mem_append_right _ (List.mem_append_right _ (List.mem_append_right _ (List.mem_append_right _ (List.mem_append_right _ (List.mem_append_right _ (List.mem_append_right _ (List.mem_append_right _ (List.mem_append_left _ h)))))))))))))))))))))))))))))))))))))))))
theorem zin_32 : ∀ w ∈ wsL_law_r32, w ∈ wsL_law := fun _ h => List.mem_append_left _ (List.mem_append_left _ (List.mem_append_left _ (List.mem_append_left _ (List.mem_append_left _ (List.mem_append_left _ (List.mem_append_left _ (List.mem_append_left _ (List.mem_append_left _ (List.mem_append_left _ (List.mem_append_left _ (List.mem_append_right _ (List.mem_append_right _ (List.mem_append_right _ (List.mem_append_right _ (List.mem_append_right _ (List.mem_append_right _ (List.mem_append_right _ (List.mem_append_right _ (List.mem_append_right _ (List.mem_append_right _ (List.mem_append_right _ (List.mem_append_right _ (List.mem_append_right _ (List.mem_append_right _ (List.mem_append_right _ (List.mem_append_right _ (List.mem_append_right _ (List.mem_append_right _ (List.mem_append_right _ (List.mem_append_right _ (List.mem_append_right _ (List.mem_append_right _ (List.mem_append_right _ (List.mem_append_right _ (List.mem_append_right _ (List.mem_append_right _ (List.mem_append_right _ (List.mem_append_right _ (List.mem_append_right _ (List.mem_append_right _ (List.mem_append_right _ (List.mem_append_left _ h))))))))))))))))))))))))))))))))))))))))))
theorem zin_33 : ∀ w ∈ wsL_law_r33, w ∈ wsL_law := fun _ h => List.mem_append_left _ (List.mem_append_left _ (List.mem_append_left _ (List.mem_append_left _ (List.mem_append_left _ (List.mem_append_left _ (List.mem_append_left _ (List.mem_append_left _ (List.mem_append_left _ (List.mem_append_left _ (List.mem_append_left _ (List.mem_append_right _ (List.mem_append_right _ (List.mem_append_right _ (List.mem_append_right _ (List.mem_append_right _ (List.mem_append_right _ (List.mem_append_right _ (List.mem_append_right _ (List.mem_append_right _ (List.mem_append_right _ (List.mem_append_right _ (List.mem_append_right _ (List.mem_append_right _ (List.mem_append_right _ (List.mem_append_right _ (List.mem_append_right _ (List.mem_append_right _ (List.mem_append_right _ (List.mem_append_right _ (List.mem_append_right _ (List.mem_append_right _ (List.mem_append_right _ (List.mem_append_right _ (List.mem_append_right _ (List.mem_append_right _ (List.mem_append_right _ (List.mem_append_right _ (List.mem_append_right _ (List.mem_append_right _ (List.mem_append_right _ (List.mem_append_right _ (List.mem_append_right _ (List.mem_append_left _ h)))))))))))))))))))))))))))))))))))))))))))
theorem zin_34 : ∀ w ∈ wsL_law_r34, w ∈ wsL_law := fun _ h => List.mem_append_left _ (List.mem_append_left _ (List.mem_append_left _ (List.mem_append_left _ (List.mem_append_left _ (List.mem_append_left _ (List.mem_append_left _ (List.mem_append_left _ (List.mem_append_left _ (List.mem_append_left _ (List.mem_append_left _ (List.mem_append_right _ (List.mem_append_right _ (List.mem_append_right _ (List.mem_append_right _ (List.mem_append_right _ (List.mem_append_right _ (List.mem_append_right _ (List.mem_append_right _ (List.mem_append_right _ (List.mem_append_right _ (List.mem_append_right _ (List.mem_append_right _ (List.mem_append_right _ (List.mem_append_right _ (List.mem_append_right _ (List.mem_append_right _ (List.mem_append_right _ (List.mem_append_right _ (List.mem_append_right _ (List.mem_append_right _ (List.mem_append_right _ (List.mem_append_right _ (List.mem_append_right _ (List.mem_append_right _ (List.mem_append_right _ (List.mem_append_right _ (List.mem_append_right _ (List.mem_append_right _ (List.mem_append_right _ (List.mem_append_right _ (List.mem_append_right _ (List.mem_append_right _ (List.mem_append_right _ (List.mem_append_left _ h))))))))))))))))))))))))))))))))))))))))))))
theorem zin_35 : ∀ w ∈ wsL_law_r35, w ∈ wsL_law := fun _ h => List.mem_append_left _ (List.mem_append_left _ (List.mem_append_left _ (List.mem_append_left _ (List.mem_append_left _ (List.mem_append_left _ (List.mem_append_left _ (List.mem_append_left _ (List.mem_append_left _ (List.mem_append_left _ (List.mem_append_left _ (List.mem_append_right _ (List.mem_append_right _ (List.mem_append_right _ (List.mem_append_right _ (List.mem_append_right _ (List.mem_append_right _ (List.mem_append_right _ (List.mem_append_right _ (List.mem_append_right _ (List.mem_append_right _ (List.mem_append_right _ (List.mem_append_right _ (List.mem_append_right _ (List.mem_append_right _ (List.mem_append_right _ (List.mem_append_right _ (List.mem_append_right _ (List.mem_append_right _ (List.mem_append_right _ (List.mem_append_right _ (List.mem_append_right _ (List.mem_append_right _ (List.mem_append_right _ (List.mem_append_right _ (List.mem_append_right _ (List.mem_append_right _ (List.mem_append_right _ (List.mem_append_right _ (List.mem_append_right _ (List.mem_append_right _ (List.mem_append_right _ (List.mem_append_right _ (List.mem_append_right _ (List.mem_append_right _ (List.mem_append_left _ h)))))))))))))))))))))))))))))))))))))))))))))
theorem zin_36 : ∀ w ∈ wsL_law_r36, w ∈ wsL_law := fun _ h => List.mem_append_left _ (List.mem_append_left _ (List.mem_append_left _ (List.mem_append_left _ (List.mem_append_left _ (List.mem_append_left _ (List.mem_append_left _ (List.mem_append_left _ (List.mem_append_left _ (List.mem_append_left _ (List.mem_append_left _ (List.mem_append_right _ (List.mem_append_right _ (List.mem_append_right _ (List.mem_append_right _ (List.mem_append_right _ (List.mem_append_right _ (List.mem_append_right _ (List.mem_append_right _ (List.mem_append_right _ (List.mem_append_right _ (List.mem_append_right _ (List.mem_append_right _ (List.mem_append_right _ (List.mem_append_right _ (List.mem_append_right _ (List.mem_append_right _ (List.mem_append_right _ (List.mem_append_right _ (List.mem_append_right _ (List.mem_append_right _ (List.mem_append_right _ (List.mem_append_right _ (List.mem_append_right _ (List.mem_append_right _ (List.mem_append_right _ (List.mem_append_right _ (List.mem_append_right _ (List.mem_append_right _ (List.mem_append_right _ (List.mem_append_right _ (List.mem_append_right _ (List.mem_append_right _ (List.mem_append_right _ (List.mem_append_right _ (List.mem_append_right _ (List.mem_append_left _ h))))))))))))))))))))))))))))))))))))))))))))))
theorem zin_37 : ∀ w ∈ wsL_law_r37, w ∈ wsL_law := fun _ h => List.mem_append_left _ (List.mem_append_left _ (List.mem_append_left _ (List.mem_append_left _ (List.mem_append_left _ (List.mem_append_left _ (List.mem_append_left _ (List.mem_append_left _ (List.mem_append_left _ (List.mem_append_left _ (List.mem_append_left _ (List.mem_append_right _ (List.mem_append_right _ (List.mem_append_right _ (List.mem_append_right _ (List.mem_append_right _ (List.mem_append_right _ (List.mem_append_right _ (List.mem_append_right _ (List.mem_append_right _ (List.mem_append_right _ (List.mem_append_right _ (List.mem_append_right _ (List.mem_append_right _ (List.mem_append_right _ (List.mem_append_right _ (List.mem_append_right _ (List.mem_append_right _ (List.mem_append_right _ (List.mem_append_right _ (List.mem_append_right _ (List.mem_append_right _ (List.mem_append_right _ (List.mem_append_right _ (List.mem_append_right _ (List.mem_append_right _ (List.mem_append_right _ (List.mem_append_right _ (List.mem_append_right _ (List.mem_append_right _ (List.mem_append_right _ (List.mem_append_right _ (List.mem_append_right _ (List.mem_append_right _ (List.mem_append_right _ (List.mem_append_right _ (List.mem_append_right _ (h)))))))))))))))))))))))))))))))))))))))))))))))
theorem lb_X2_25 : zMin RX2 25 := ⟨zin_14 _ (List.mem_of_getElem? (i := 12) rfl), zin_9 _ (List.mem_of_getElem? (i := 11) rfl), zin_9 _ (List.mem_of_getElem? (i := 12) rfl), zin_9 _ (List.mem_of_getElem? (i := 13) rfl)⟩
theorem lb_X3_51 : zMin RX3 51 := ⟨zin_10 _ (List.mem_of_getElem? (i := 12) rfl), zin_9 _ (List.mem_of_getElem? (i := 11) rfl), zin_9 _ (List.mem_of_getElem? (i := 12) rfl), zin_9 _ (List.mem_of_getElem? (i := 13) rfl)⟩
theorem lb_X3_81 : zMax RX3 81 := ⟨zin_11 _ (List.mem_of_getElem? (i := 15) rfl), zin_11 _ (List.mem_of_getElem? (i := 16) rfl), zin_9 _ (List.mem_of_getElem? (i := 12) rfl), zin_11 _ (List.mem_of_getElem? (i := 17) rfl)⟩
theorem lb_X4_142 : zAbs RX4 142 := ⟨zin_29 _ (List.mem_of_getElem? (i := 6) rfl), zin_27 _ (List.mem_of_getElem? (i := 21) rfl), zin_9 _ (List.mem_of_getElem? (i := 12) rfl), zin_27 _ (List.mem_of_getElem? (i := 22) rfl)⟩
theorem lb_X4_94 : zMin RX4 94 := ⟨zin_9 _ (List.mem_of_getElem? (i := 10) rfl), zin_9 _ (List.mem_of_getElem? (i := 11) rfl), zin_9 _ (List.mem_of_getElem? (i := 12) rfl), zin_9 _ (List.mem_of_getElem? (i := 13) rfl)⟩
theorem lb_X5_67 : zMin RX5 67 := ⟨zin_11 _ (List.mem_of_getElem? (i := 22) rfl), zin_9 _ (List.mem_of_getElem? (i := 11) rfl), zin_9 _ (List.mem_of_getElem? (i := 12) rfl), zin_9 _ (List.mem_of_getElem? (i := 13) rfl)⟩
theorem lb_X8_186 : zMax RX8 186 := ⟨zin_30 _ (List.mem_of_getElem? (i := 19) rfl), zin_11 _ (List.mem_of_getElem? (i := 16) rfl), zin_9 _ (List.mem_of_getElem? (i := 12) rfl), zin_11 _ (List.mem_of_getElem? (i := 17) rfl)⟩
theorem lb_X8_224 : zAbs RX8 224 := ⟨zin_27 _ (List.mem_of_getElem? (i := 20) rfl), zin_27 _ (List.mem_of_getElem? (i := 21) rfl), zin_9 _ (List.mem_of_getElem? (i := 12) rfl), zin_27 _ (List.mem_of_getElem? (i := 22) rfl)⟩
theorem lc_X2_31 : Cond.methodLink RX2 31 arraycopyName ∈ wsL_law ∧ Cond.native arraycopyName ∈ wsL_law ∧ Cond.static arraycopyName ∈ wsL_law ∧ Cond.initialized "java/lang/System" ∈ wsL_law := ⟨zin_8 _ (List.mem_of_getElem? (i := 7) rfl), zin_8 _ (List.mem_of_getElem? (i := 8) rfl), zin_8 _ (List.mem_of_getElem? (i := 9) rfl), zin_8 _ (List.mem_of_getElem? (i := 10) rfl)⟩
theorem lc_X3_40 : Cond.methodLink RX3 40 arraycopyName ∈ wsL_law ∧ Cond.native arraycopyName ∈ wsL_law ∧ Cond.static arraycopyName ∈ wsL_law ∧ Cond.initialized "java/lang/System" ∈ wsL_law := ⟨zin_9 _ (List.mem_of_getElem? (i := 1) rfl), zin_8 _ (List.mem_of_getElem? (i := 8) rfl), zin_8 _ (List.mem_of_getElem? (i := 9) rfl), zin_8 _ (List.mem_of_getElem? (i := 10) rfl)⟩
theorem lc_X5_50 : Cond.methodLink RX5 50 arraycopyName ∈ wsL_law ∧ Cond.native arraycopyName ∈ wsL_law ∧ Cond.static arraycopyName ∈ wsL_law ∧ Cond.initialized "java/lang/System" ∈ wsL_law := ⟨zin_8 _ (List.mem_of_getElem? (i := 15) rfl), zin_8 _ (List.mem_of_getElem? (i := 8) rfl), zin_8 _ (List.mem_of_getElem? (i := 9) rfl), zin_8 _ (List.mem_of_getElem? (i := 10) rfl)⟩
theorem fl_X0_13 : zFL RX0 13 0 1 .char false := ⟨RX0, TX0, 3, tyX0, rfl, inlX0, tyX0_ok, nmX0, by decide, zin_5 _ (List.mem_of_getElem? (i := 14) rfl), rfl, rfl, by decide +kernel⟩
theorem fl_X0_35 : zFL RX0 35 0 2 .int false := ⟨RX0, TX0, 3, tyX0, rfl, inlX0, tyX0_ok, nmX0, by decide, zin_34 _ (List.mem_of_getElem? (i := 14) rfl), rfl, rfl, by decide +kernel⟩
theorem fl_X0_7 : zFL RX0 7 0 0 (.array .int) true := ⟨RX0, TX0, 3, tyX0, rfl, inlX0, tyX0_ok, nmX0, by decide, zin_4 _ (List.mem_of_getElem? (i := 9) rfl), rfl, rfl, by decide +kernel⟩
theorem fl_X1_11 : zFL RX1 11 1 0 (.array (.object "RoughTables$State")) true := ⟨RX1, TX1, 2, tyX1, rfl, inlX1, tyX1_ok, nmX1, by decide, zin_3 _ (List.mem_of_getElem? (i := 23) rfl), rfl, rfl, by decide +kernel⟩
theorem fl_X1_18 : zFL RX1 18 1 1 .int false := ⟨RX1, TX1, 2, tyX1, rfl, inlX1, tyX1_ok, nmX1, by decide, zin_7 _ (List.mem_of_getElem? (i := 13) rfl), rfl, rfl, by decide +kernel⟩
theorem fl_X2_15 : zFL RX2 15 2 2 (.array .int) true := ⟨RX2, TX2, 4, tyX2, rfl, inlX2, tyX2_ok, nmX2, by decide, zin_3 _ (List.mem_of_getElem? (i := 5) rfl), rfl, rfl, by decide +kernel⟩
theorem fl_X2_18 : zFL RX2 18 2 3 (.array .int) true := ⟨RX2, TX2, 4, tyX2, rfl, inlX2, tyX2_ok, nmX2, by decide, zin_3 _ (List.mem_of_getElem? (i := 6) rfl), rfl, rfl, by decide +kernel⟩
theorem fl_X2_21 : zFL RX2 21 2 0 .int false := ⟨RX2, TX2, 4, tyX2, rfl, inlX2, tyX2_ok, nmX2, by decide, zin_8 _ (List.mem_of_getElem? (i := 6) rfl), rfl, rfl, by decide +kernel⟩
theorem fl_X2_9 : zFL RX2 9 2 1 (.array .int) true := ⟨RX2, TX2, 4, tyX2, rfl, inlX2, tyX2_ok, nmX2, by decide, zin_3 _ (List.mem_of_getElem? (i := 4) rfl), rfl, rfl, by decide +kernel⟩
theorem fl_X3_15 : zFL RX3 15 3 6 (.array .int) true := ⟨RX3, TX3, 7, tyX3, rfl, inlX3, tyX3_ok, nmX3, by decide, zin_3 _ (List.mem_of_getElem? (i := 17) rfl), rfl, rfl, by decide +kernel⟩
theorem fl_X3_18 : zFL RX3 18 3 0 .int false := ⟨RX3, TX3, 7, tyX3, rfl, inlX3, tyX3_ok, nmX3, by decide, zin_7 _ (List.mem_of_getElem? (i := 7) rfl), rfl, rfl, by decide +kernel⟩
theorem fl_X3_22 : zFL RX3 22 3 1 .int false := ⟨RX3, TX3, 7, tyX3, rfl, inlX3, tyX3_ok, nmX3, by decide, zin_7 _ (List.mem_of_getElem? (i := 8) rfl), rfl, rfl, by decide +kernel⟩
theorem fl_X3_25 : zFL RX3 25 3 2 .int false := ⟨RX3, TX3, 7, tyX3, rfl, inlX3, tyX3_ok, nmX3, by decide, zin_8 _ (List.mem_of_getElem? (i := 22) rfl), rfl, rfl, by decide +kernel⟩
theorem fl_X3_28 : zFL RX3 28 3 3 .int false := ⟨RX3, TX3, 7, tyX3, rfl, inlX3, tyX3_ok, nmX3, by decide, zin_8 _ (List.mem_of_getElem? (i := 23) rfl), rfl, rfl, by decide +kernel⟩
theorem fl_X3_31 : zFL RX3 31 3 4 .int false := ⟨RX3, TX3, 7, tyX3, rfl, inlX3, tyX3_ok, nmX3, by decide, zin_9 _ (List.mem_of_getElem? (i := 0) rfl), rfl, rfl, by decide +kernel⟩
theorem fl_X3_9 : zFL RX3 9 3 5 (.array .int) true := ⟨RX3, TX3, 7, tyX3, rfl, inlX3, tyX3_ok, nmX3, by decide, zin_3 _ (List.mem_of_getElem? (i := 16) rfl), rfl, rfl, by decide +kernel⟩
theorem fl_X4_11 : zFL RX4 11 4 0 (.array (.object "RoughTables$Table")) true := ⟨RX4, TX4, 4, tyX4, rfl, inlX4, tyX4_ok, nmX4, by decide, zin_2 _ (List.mem_of_getElem? (i := 17) rfl), rfl, rfl, by decide +kernel⟩
theorem fl_X4_120 : zFL RX4 120 5 2 .int false := ⟨RX5, TX5, 4, tyX5, rfl, inlX5, tyX5_ok, nmX5, by decide, zin_14 _ (List.mem_of_getElem? (i := 7) rfl), rfl, rfl, by decide +kernel⟩
theorem fl_X4_20 : zFL RX4 20 4 1 (.object "RoughTables$Log") true := ⟨RX4, TX4, 4, tyX4, rfl, inlX4, tyX4_ok, nmX4, by decide, zin_2 _ (List.mem_of_getElem? (i := 21) rfl), rfl, rfl, by decide +kernel⟩
theorem fl_X4_25 : zFL RX4 25 4 2 .int false := ⟨RX4, TX4, 4, tyX4, rfl, inlX4, tyX4_ok, nmX4, by decide, zin_6 _ (List.mem_of_getElem? (i := 8) rfl), rfl, rfl, by decide +kernel⟩
theorem fl_X4_29 : zFL RX4 29 4 3 .int false := ⟨RX4, TX4, 4, tyX4, rfl, inlX4, tyX4_ok, nmX4, by decide, zin_6 _ (List.mem_of_getElem? (i := 15) rfl), rfl, rfl, by decide +kernel⟩
theorem fl_X4_49 : zFL RX4 49 0 1 .char false := ⟨RX0, TX0, 3, tyX0, rfl, inlX0, tyX0_ok, nmX0, by decide, zin_5 _ (List.mem_of_getElem? (i := 23) rfl), rfl, rfl, by decide +kernel⟩
theorem fl_X4_72 : zFL RX4 72 5 0 (.object "RoughTables$Sketch") true := ⟨RX5, TX5, 4, tyX5, rfl, inlX5, tyX5_ok, nmX5, by decide, zin_7 _ (List.mem_of_getElem? (i := 2) rfl), rfl, rfl, by decide +kernel⟩
theorem fl_X5_12 : zFL RX5 12 5 0 (.object "RoughTables$Sketch") true := ⟨RX5, TX5, 4, tyX5, rfl, inlX5, tyX5_ok, nmX5, by decide, zin_3 _ (List.mem_of_getElem? (i := 11) rfl), rfl, rfl, by decide +kernel⟩
theorem fl_X5_18 : zFL RX5 18 5 1 (.array .int) true := ⟨RX5, TX5, 4, tyX5, rfl, inlX5, tyX5_ok, nmX5, by decide, zin_3 _ (List.mem_of_getElem? (i := 12) rfl), rfl, rfl, by decide +kernel⟩
theorem fl_X5_32 : zFL RX5 32 5 2 .int false := ⟨RX5, TX5, 4, tyX5, rfl, inlX5, tyX5_ok, nmX5, by decide, zin_8 _ (List.mem_of_getElem? (i := 16) rfl), rfl, rfl, by decide +kernel⟩
theorem fl_X5_36 : zFL RX5 36 5 3 .int false := ⟨RX5, TX5, 4, tyX5, rfl, inlX5, tyX5_ok, nmX5, by decide, zin_8 _ (List.mem_of_getElem? (i := 17) rfl), rfl, rfl, by decide +kernel⟩
theorem fl_X5_39 : zFL RX5 39 3 0 .int false := ⟨RX3, TX3, 7, tyX3, rfl, inlX3, tyX3_ok, nmX3, by decide, zin_14 _ (List.mem_of_getElem? (i := 17) rfl), rfl, rfl, by decide +kernel⟩
theorem fl_X5_42 : zFL RX5 42 3 1 .int false := ⟨RX3, TX3, 7, tyX3, rfl, inlX3, tyX3_ok, nmX3, by decide, zin_14 _ (List.mem_of_getElem? (i := 18) rfl), rfl, rfl, by decide +kernel⟩
theorem fl_X5_90 : zFL RX5 90 3 2 .int false := ⟨RX3, TX3, 7, tyX3, rfl, inlX3, tyX3_ok, nmX3, by decide, zin_21 _ (List.mem_of_getElem? (i := 21) rfl), rfl, rfl, by decide +kernel⟩
theorem fl_X6_15 : zFL RX6 15 6 1 .int false := ⟨RX6, TX6, 2, tyX6, rfl, inlX6, tyX6_ok, nmX6, by decide, zin_32 _ (List.mem_of_getElem? (i := 19) rfl), rfl, rfl, by decide +kernel⟩
theorem fl_X6_9 : zFL RX6 9 6 0 (.array .char) true := ⟨RX6, TX6, 2, tyX6, rfl, inlX6, tyX6_ok, nmX6, by decide, zin_4 _ (List.mem_of_getElem? (i := 5) rfl), rfl, rfl, by decide +kernel⟩
theorem fl_X7_12 : zFL RX7 12 7 0 (.object "RoughTables$State") true := ⟨RX7, TX7, 6, tyX7, rfl, inlX7, tyX7_ok, nmX7, by decide, zin_4 _ (List.mem_of_getElem? (i := 14) rfl), rfl, rfl, by decide +kernel⟩
theorem fl_X7_21 : zFL RX7 21 7 1 (.object "RoughTables$Command") true := ⟨RX7, TX7, 6, tyX7, rfl, inlX7, tyX7_ok, nmX7, by decide, zin_4 _ (List.mem_of_getElem? (i := 16) rfl), rfl, rfl, by decide +kernel⟩
theorem fl_X7_29 : zFL RX7 29 7 2 .int false := ⟨RX7, TX7, 6, tyX7, rfl, inlX7, tyX7_ok, nmX7, by decide, zin_33 _ (List.mem_of_getElem? (i := 23) rfl), rfl, rfl, by decide +kernel⟩
theorem fl_X7_33 : zFL RX7 33 7 3 .int false := ⟨RX7, TX7, 6, tyX7, rfl, inlX7, tyX7_ok, nmX7, by decide, zin_34 _ (List.mem_of_getElem? (i := 0) rfl), rfl, rfl, by decide +kernel⟩
theorem fl_X7_36 : zFL RX7 36 7 4 .int false := ⟨RX7, TX7, 6, tyX7, rfl, inlX7, tyX7_ok, nmX7, by decide, zin_34 _ (List.mem_of_getElem? (i := 1) rfl), rfl, rfl, by decide +kernel⟩
theorem fl_X7_39 : zFL RX7 39 7 5 .int false := ⟨RX7, TX7, 6, tyX7, rfl, inlX7, tyX7_ok, nmX7, by decide, zin_34 _ (List.mem_of_getElem? (i := 2) rfl), rfl, rfl, by decide +kernel⟩
theorem fl_X7_42 : zFL RX7 42 6 1 .int false := ⟨RX6, TX6, 2, tyX6, rfl, inlX6, tyX6_ok, nmX6, by decide, zin_34 _ (List.mem_of_getElem? (i := 3) rfl), rfl, rfl, by decide +kernel⟩
theorem fl_X7_55 : zFL RX7 55 0 2 .int false := ⟨RX0, TX0, 3, tyX0, rfl, inlX0, tyX0_ok, nmX0, by decide, zin_34 _ (List.mem_of_getElem? (i := 4) rfl), rfl, rfl, by decide +kernel⟩
theorem fl_X8_10 : zFL RX8 10 8 0 (.object "RoughTables$State") true := ⟨RX8, TX8, 6, tyX8, rfl, inlX8, tyX8_ok, nmX8, by decide, zin_1 _ (List.mem_of_getElem? (i := 15) rfl), rfl, rfl, by decide +kernel⟩
theorem fl_X8_114 : zFL RX8 114 4 1 (.object "RoughTables$Log") true := ⟨RX4, TX4, 4, tyX4, rfl, inlX4, tyX4_ok, nmX4, by decide, zin_25 _ (List.mem_of_getElem? (i := 10) rfl), rfl, rfl, by decide +kernel⟩
theorem fl_X8_123 : zFL RX8 123 4 2 .int false := ⟨RX4, TX4, 4, tyX4, rfl, inlX4, tyX4_ok, nmX4, by decide, zin_25 _ (List.mem_of_getElem? (i := 23) rfl), rfl, rfl, by decide +kernel⟩
theorem fl_X8_127 : zFL RX8 127 4 3 .int false := ⟨RX4, TX4, 4, tyX4, rfl, inlX4, tyX4_ok, nmX4, by decide, zin_26 _ (List.mem_of_getElem? (i := 0) rfl), rfl, rfl, by decide +kernel⟩
theorem fl_X8_136 : zFL RX8 136 2 0 .int false := ⟨RX2, TX2, 4, tyX2, rfl, inlX2, tyX2_ok, nmX2, by decide, zin_26 _ (List.mem_of_getElem? (i := 1) rfl), rfl, rfl, by decide +kernel⟩
theorem fl_X8_142 : zFL RX8 142 1 1 .int false := ⟨RX1, TX1, 2, tyX1, rfl, inlX1, tyX1_ok, nmX1, by decide, zin_26 _ (List.mem_of_getElem? (i := 2) rfl), rfl, rfl, by decide +kernel⟩
theorem fl_X8_143 : zFL RX8 143 6 1 .int false := ⟨RX6, TX6, 2, tyX6, rfl, inlX6, tyX6_ok, nmX6, by decide, zin_26 _ (List.mem_of_getElem? (i := 3) rfl), rfl, rfl, by decide +kernel⟩
theorem fl_X8_146 : zFL RX8 146 5 2 .int false := ⟨RX5, TX5, 4, tyX5, rfl, inlX5, tyX5_ok, nmX5, by decide, zin_27 _ (List.mem_of_getElem? (i := 15) rfl), rfl, rfl, by decide +kernel⟩
theorem fl_X8_19 : zFL RX8 19 8 1 (.object "RoughTables$History") true := ⟨RX8, TX8, 6, tyX8, rfl, inlX8, tyX8_ok, nmX8, by decide, zin_1 _ (List.mem_of_getElem? (i := 19) rfl), rfl, rfl, by decide +kernel⟩
theorem fl_X8_205 : zFL RX8 205 7 4 .int false := ⟨RX7, TX7, 6, tyX7, rfl, inlX7, tyX7_ok, nmX7, by decide, zin_33 _ (List.mem_of_getElem? (i := 16) rfl), rfl, rfl, by decide +kernel⟩
theorem fl_X8_208 : zFL RX8 208 7 3 .int false := ⟨RX7, TX7, 6, tyX7, rfl, inlX7, tyX7_ok, nmX7, by decide, zin_33 _ (List.mem_of_getElem? (i := 17) rfl), rfl, rfl, by decide +kernel⟩
theorem fl_X8_211 : zFL RX8 211 7 5 .int false := ⟨RX7, TX7, 6, tyX7, rfl, inlX7, tyX7_ok, nmX7, by decide, zin_33 _ (List.mem_of_getElem? (i := 18) rfl), rfl, rfl, by decide +kernel⟩
theorem fl_X8_214 : zFL RX8 214 7 0 (.object "RoughTables$State") true := ⟨RX7, TX7, 6, tyX7, rfl, inlX7, tyX7_ok, nmX7, by decide, zin_36 _ (List.mem_of_getElem? (i := 18) rfl), rfl, rfl, by decide +kernel⟩
theorem fl_X8_219 : zFL RX8 219 7 2 .int false := ⟨RX7, TX7, 6, tyX7, rfl, inlX7, tyX7_ok, nmX7, by decide, zin_36 _ (List.mem_of_getElem? (i := 19) rfl), rfl, rfl, by decide +kernel⟩
theorem fl_X8_26 : zFL RX8 26 8 2 (.object "RoughTables$Text") true := ⟨RX8, TX8, 6, tyX8, rfl, inlX8, tyX8_ok, nmX8, by decide, zin_1 _ (List.mem_of_getElem? (i := 23) rfl), rfl, rfl, by decide +kernel⟩
theorem fl_X8_33 : zFL RX8 33 8 3 (.object "RoughTables$Command") true := ⟨RX8, TX8, 6, tyX8, rfl, inlX8, tyX8_ok, nmX8, by decide, zin_2 _ (List.mem_of_getElem? (i := 3) rfl), rfl, rfl, by decide +kernel⟩
theorem fl_X8_40 : zFL RX8 40 8 4 (.object "RoughTables$Trial") true := ⟨RX8, TX8, 6, tyX8, rfl, inlX8, tyX8_ok, nmX8, by decide, zin_2 _ (List.mem_of_getElem? (i := 7) rfl), rfl, rfl, by decide +kernel⟩
theorem fl_X8_47 : zFL RX8 47 8 5 (.object "RoughTables$Sketch") true := ⟨RX8, TX8, 6, tyX8, rfl, inlX8, tyX8_ok, nmX8, by decide, zin_2 _ (List.mem_of_getElem? (i := 11) rfl), rfl, rfl, by decide +kernel⟩
theorem fl_X8_88 : zFL RX8 88 5 0 (.object "RoughTables$Sketch") true := ⟨RX5, TX5, 4, tyX5, rfl, inlX5, tyX5_ok, nmX5, by decide, zin_22 _ (List.mem_of_getElem? (i := 18) rfl), rfl, rfl, by decide +kernel⟩
theorem fl_X9_13 : zFL RX9 13 9 1 (.array .int) true := ⟨RX9, TX9, 15, tyX9, rfl, inlX9, tyX9_ok, nmX9, by decide, zin_4 _ (List.mem_of_getElem? (i := 23) rfl), rfl, rfl, by decide +kernel⟩
theorem fl_X9_16 : zFL RX9 16 9 2 (.array .int) true := ⟨RX9, TX9, 15, tyX9, rfl, inlX9, tyX9_ok, nmX9, by decide, zin_5 _ (List.mem_of_getElem? (i := 0) rfl), rfl, rfl, by decide +kernel⟩
theorem fl_X9_174 : zFL RX9 174 9 10 .int false := ⟨RX9, TX9, 15, tyX9, rfl, inlX9, tyX9_ok, nmX9, by decide, zin_27 _ (List.mem_of_getElem? (i := 2) rfl), rfl, rfl, by decide +kernel⟩
theorem fl_X9_19 : zFL RX9 19 9 3 (.array .int) true := ⟨RX9, TX9, 15, tyX9, rfl, inlX9, tyX9_ok, nmX9, by decide, zin_5 _ (List.mem_of_getElem? (i := 1) rfl), rfl, rfl, by decide +kernel⟩
theorem fl_X9_196 : zFL RX9 196 9 11 .int false := ⟨RX9, TX9, 15, tyX9, rfl, inlX9, tyX9_ok, nmX9, by decide, zin_35 _ (List.mem_of_getElem? (i := 20) rfl), rfl, rfl, by decide +kernel⟩
theorem fl_X9_199 : zFL RX9 199 9 12 .boolean false := ⟨RX9, TX9, 15, tyX9, rfl, inlX9, tyX9_ok, nmX9, by decide, zin_35 _ (List.mem_of_getElem? (i := 21) rfl), rfl, rfl, by decide +kernel⟩
theorem fl_X9_215 : zFL RX9 215 9 13 .int false := ⟨RX9, TX9, 15, tyX9, rfl, inlX9, tyX9_ok, nmX9, by decide, zin_35 _ (List.mem_of_getElem? (i := 14) rfl), rfl, rfl, by decide +kernel⟩
theorem fl_X9_218 : zFL RX9 218 9 14 .int false := ⟨RX9, TX9, 15, tyX9, rfl, inlX9, tyX9_ok, nmX9, by decide, zin_35 _ (List.mem_of_getElem? (i := 15) rfl), rfl, rfl, by decide +kernel⟩
theorem fl_X9_22 : zFL RX9 22 9 4 (.array .int) true := ⟨RX9, TX9, 15, tyX9, rfl, inlX9, tyX9_ok, nmX9, by decide, zin_5 _ (List.mem_of_getElem? (i := 2) rfl), rfl, rfl, by decide +kernel⟩
theorem fl_X9_25 : zFL RX9 25 9 5 (.array .int) true := ⟨RX9, TX9, 15, tyX9, rfl, inlX9, tyX9_ok, nmX9, by decide, zin_5 _ (List.mem_of_getElem? (i := 3) rfl), rfl, rfl, by decide +kernel⟩
theorem fl_X9_28 : zFL RX9 28 9 8 (.array .int) true := ⟨RX9, TX9, 15, tyX9, rfl, inlX9, tyX9_ok, nmX9, by decide, zin_5 _ (List.mem_of_getElem? (i := 4) rfl), rfl, rfl, by decide +kernel⟩
theorem fl_X9_31 : zFL RX9 31 9 9 (.array .int) true := ⟨RX9, TX9, 15, tyX9, rfl, inlX9, tyX9_ok, nmX9, by decide, zin_5 _ (List.mem_of_getElem? (i := 5) rfl), rfl, rfl, by decide +kernel⟩
theorem fl_X9_38 : zFL RX9 38 9 7 .int false := ⟨RX9, TX9, 15, tyX9, rfl, inlX9, tyX9_ok, nmX9, by decide, zin_16 _ (List.mem_of_getElem? (i := 2) rfl), rfl, rfl, by decide +kernel⟩
theorem fl_X9_42 : zFL RX9 42 9 6 .int false := ⟨RX9, TX9, 15, tyX9, rfl, inlX9, tyX9_ok, nmX9, by decide, zin_16 _ (List.mem_of_getElem? (i := 3) rfl), rfl, rfl, by decide +kernel⟩
theorem fl_X9_7 : zFL RX9 7 9 0 (.array .int) true := ⟨RX9, TX9, 15, tyX9, rfl, inlX9, tyX9_ok, nmX9, by decide, zin_4 _ (List.mem_of_getElem? (i := 22) rfl), rfl, rfl, by decide +kernel⟩
theorem ln_X3_46 : zLN RX3 46 yX8_hashOf "RoughTables" cX8_hashOf 3 (some .int) 2 := ⟨by unfold zNl; simp, zin_10 _ (List.mem_of_getElem? (i := 13) rfl), zin_1 _ (List.mem_of_getElem? (i := 2) rfl), zin_10 _ (List.mem_of_getElem? (i := 14) rfl), ⟨by decide +kernel, by decide +kernel, by decide +kernel⟩⟩
theorem ln_X3_67 : zLN RX3 67 yX8_rankOf "RoughTables" cX8_rankOf 3 (some .int) 1 := ⟨by unfold zNl; simp, zin_11 _ (List.mem_of_getElem? (i := 9) rfl), zin_1 _ (List.mem_of_getElem? (i := 2) rfl), zin_11 _ (List.mem_of_getElem? (i := 10) rfl), ⟨by decide +kernel, by decide +kernel, by decide +kernel⟩⟩
theorem ln_X3_93 : zLN RX3 93 yX8_spread "RoughTables" cX8_spread 4 (some .int) 2 := ⟨by unfold zNl; simp, zin_12 _ (List.mem_of_getElem? (i := 22) rfl), zin_1 _ (List.mem_of_getElem? (i := 2) rfl), zin_12 _ (List.mem_of_getElem? (i := 23) rfl), ⟨by decide +kernel, by decide +kernel, by decide +kernel⟩⟩
theorem ln_X4_64 : zLN RX4 64 yX8_within "RoughTables" cX8_within 2 (some .boolean) 2 := ⟨by unfold zNl; simp, zin_6 _ (List.mem_of_getElem? (i := 9) rfl), zin_1 _ (List.mem_of_getElem? (i := 2) rfl), zin_6 _ (List.mem_of_getElem? (i := 10) rfl), ⟨by decide +kernel, by decide +kernel, by decide +kernel⟩⟩
theorem ln_X4_68 : zLN RX4 68 yX8_isThing "RoughTables" cX8_isThing 1 (some .boolean) 1 := ⟨by unfold zNl; simp, zin_6 _ (List.mem_of_getElem? (i := 20) rfl), zin_1 _ (List.mem_of_getElem? (i := 2) rfl), zin_6 _ (List.mem_of_getElem? (i := 21) rfl), ⟨by decide +kernel, by decide +kernel, by decide +kernel⟩⟩
theorem ln_X5_60 : zLN RX5 60 yX8_isThing "RoughTables" cX8_isThing 1 (some .boolean) 1 := ⟨by unfold zNl; simp, zin_6 _ (List.mem_of_getElem? (i := 20) rfl), zin_1 _ (List.mem_of_getElem? (i := 2) rfl), zin_6 _ (List.mem_of_getElem? (i := 21) rfl), ⟨by decide +kernel, by decide +kernel, by decide +kernel⟩⟩
theorem lr_Jxf58ca_74 : Cond.methodLink RJxf58ca 74 ⟨"java/lang/Float", "floatToRawIntBits", "(F)I"⟩ ∈ wsL_law ∧ Cond.native ⟨"java/lang/Float", "floatToRawIntBits", "(F)I"⟩ ∈ wsL_law ∧ Cond.static ⟨"java/lang/Float", "floatToRawIntBits", "(F)I"⟩ ∈ wsL_law ∧ Cond.initialized "java/lang/Float" ∈ wsL_law := ⟨zin_28 _ (List.mem_of_getElem? (i := 10) rfl), zin_28 _ (List.mem_of_getElem? (i := 11) rfl), zin_28 _ (List.mem_of_getElem? (i := 12) rfl), zin_28 _ (List.mem_of_getElem? (i := 13) rfl)⟩
theorem ls_Jxf58ca_59 : zLS RJxf58ca 59 yJxf58ca_isNaN_12338 cJxf58ca_isNaN_12338 1 (some .boolean) 1 := ⟨zin_28 _ (List.mem_of_getElem? (i := 15) rfl), zin_28 _ (List.mem_of_getElem? (i := 16) rfl), zin_28 _ (List.mem_of_getElem? (i := 8) rfl), zin_28 _ (List.mem_of_getElem? (i := 17) rfl), ⟨by decide +kernel, by decide +kernel, by decide +kernel⟩⟩
theorem ls_X3_34 : zLS RX3 34 yJ7_fill_53178 cJ7_fill_53178 4 none 2 := ⟨zin_9 _ (List.mem_of_getElem? (i := 22) rfl), zin_9 _ (List.mem_of_getElem? (i := 23) rfl), zin_10 _ (List.mem_of_getElem? (i := 0) rfl), zin_10 _ (List.mem_of_getElem? (i := 1) rfl), ⟨by decide +kernel, by decide +kernel, by decide +kernel⟩⟩
theorem ls_X3_84 : zLS RX3 84 yJ6_bitCount_0f7a4 cJ6_bitCount_0f7a4 1 (some .int) 1 := ⟨zin_12 _ (List.mem_of_getElem? (i := 7) rfl), zin_12 _ (List.mem_of_getElem? (i := 8) rfl), zin_12 _ (List.mem_of_getElem? (i := 9) rfl), zin_12 _ (List.mem_of_getElem? (i := 10) rfl), ⟨by decide +kernel, by decide +kernel, by decide +kernel⟩⟩
theorem ls_X5_26 : zLS RX5 26 yJ7_fill_53178 cJ7_fill_53178 4 none 2 := ⟨zin_10 _ (List.mem_of_getElem? (i := 2) rfl), zin_9 _ (List.mem_of_getElem? (i := 23) rfl), zin_10 _ (List.mem_of_getElem? (i := 0) rfl), zin_10 _ (List.mem_of_getElem? (i := 1) rfl), ⟨by decide +kernel, by decide +kernel, by decide +kernel⟩⟩
theorem ls_X8_100 : zLS RX8 100 yX8_isThing cX8_isThing 1 (some .boolean) 1 := ⟨zin_23 _ (List.mem_of_getElem? (i := 23) rfl), zin_6 _ (List.mem_of_getElem? (i := 20) rfl), zin_1 _ (List.mem_of_getElem? (i := 2) rfl), zin_6 _ (List.mem_of_getElem? (i := 21) rfl), ⟨by decide +kernel, by decide +kernel, by decide +kernel⟩⟩
theorem ls_X8_104 : zLS RX8 104 yX8_hashOf cX8_hashOf 3 (some .int) 2 := ⟨zin_24 _ (List.mem_of_getElem? (i := 0) rfl), zin_10 _ (List.mem_of_getElem? (i := 13) rfl), zin_1 _ (List.mem_of_getElem? (i := 2) rfl), zin_10 _ (List.mem_of_getElem? (i := 14) rfl), ⟨by decide +kernel, by decide +kernel, by decide +kernel⟩⟩
theorem ls_X8_152 : zLS RX8 152 yX8_bitsOfQuotient cX8_bitsOfQuotient 9 (some .int) 2 := ⟨zin_27 _ (List.mem_of_getElem? (i := 17) rfl), zin_27 _ (List.mem_of_getElem? (i := 18) rfl), zin_1 _ (List.mem_of_getElem? (i := 2) rfl), zin_27 _ (List.mem_of_getElem? (i := 19) rfl), ⟨by decide +kernel, by decide +kernel, by decide +kernel⟩⟩
theorem ls_X8_78 : zLS RX8 78 yX8_within cX8_within 2 (some .boolean) 2 := ⟨zin_21 _ (List.mem_of_getElem? (i := 16) rfl), zin_6 _ (List.mem_of_getElem? (i := 9) rfl), zin_1 _ (List.mem_of_getElem? (i := 2) rfl), zin_6 _ (List.mem_of_getElem? (i := 10) rfl), ⟨by decide +kernel, by decide +kernel, by decide +kernel⟩⟩
theorem ls_X9_107 : zLS RX9 107 yX9_hashOf cX9_hashOf 3 (some .int) 2 := ⟨zin_17 _ (List.mem_of_getElem? (i := 7) rfl), zin_17 _ (List.mem_of_getElem? (i := 8) rfl), zin_1 _ (List.mem_of_getElem? (i := 5) rfl), zin_17 _ (List.mem_of_getElem? (i := 9) rfl), ⟨by decide +kernel, by decide +kernel, by decide +kernel⟩⟩
theorem ls_X9_110 : zLS RX9 110 yX9_keeps cX9_keeps 3 none 3 := ⟨zin_17 _ (List.mem_of_getElem? (i := 12) rfl), zin_17 _ (List.mem_of_getElem? (i := 13) rfl), zin_1 _ (List.mem_of_getElem? (i := 5) rfl), zin_17 _ (List.mem_of_getElem? (i := 14) rfl), ⟨by decide +kernel, by decide +kernel, by decide +kernel⟩⟩
theorem ls_X9_120 : zLS RX9 120 yX9_isThing cX9_isThing 1 (some .boolean) 1 := ⟨zin_17 _ (List.mem_of_getElem? (i := 0) rfl), zin_17 _ (List.mem_of_getElem? (i := 1) rfl), zin_1 _ (List.mem_of_getElem? (i := 5) rfl), zin_17 _ (List.mem_of_getElem? (i := 2) rfl), ⟨by decide +kernel, by decide +kernel, by decide +kernel⟩⟩
theorem ls_X9_131 : zLS RX9 131 yX9_mingles cX9_mingles 5 none 4 := ⟨zin_20 _ (List.mem_of_getElem? (i := 16) rfl), zin_20 _ (List.mem_of_getElem? (i := 17) rfl), zin_1 _ (List.mem_of_getElem? (i := 5) rfl), zin_20 _ (List.mem_of_getElem? (i := 18) rfl), ⟨by decide +kernel, by decide +kernel, by decide +kernel⟩⟩
theorem ls_X9_177 : zLS RX9 177 yJxf58ca_floatToIntBits_5c35a cJxf58ca_floatToIntBits_5c35a 1 (some .int) 1 := ⟨zin_28 _ (List.mem_of_getElem? (i := 6) rfl), zin_28 _ (List.mem_of_getElem? (i := 7) rfl), zin_28 _ (List.mem_of_getElem? (i := 8) rfl), zin_28 _ (List.mem_of_getElem? (i := 9) rfl), ⟨by decide +kernel, by decide +kernel, by decide +kernel⟩⟩
theorem ls_X9_34 : zLS RX9 34 yX9_copy cX9_copy 3 none 2 := ⟨zin_15 _ (List.mem_of_getElem? (i := 0) rfl), zin_15 _ (List.mem_of_getElem? (i := 1) rfl), zin_1 _ (List.mem_of_getElem? (i := 5) rfl), zin_15 _ (List.mem_of_getElem? (i := 2) rfl), ⟨by decide +kernel, by decide +kernel, by decide +kernel⟩⟩
theorem ls_X9_49 : zLS RX9 49 yX9_in cX9_in 3 (some .boolean) 3 := ⟨zin_15 _ (List.mem_of_getElem? (i := 7) rfl), zin_15 _ (List.mem_of_getElem? (i := 8) rfl), zin_1 _ (List.mem_of_getElem? (i := 5) rfl), zin_15 _ (List.mem_of_getElem? (i := 9) rfl), ⟨by decide +kernel, by decide +kernel, by decide +kernel⟩⟩
theorem ls_X9_55 : zLS RX9 55 yX9_keepHash cX9_keepHash 7 none 3 := ⟨zin_17 _ (List.mem_of_getElem? (i := 15) rfl), zin_17 _ (List.mem_of_getElem? (i := 16) rfl), zin_1 _ (List.mem_of_getElem? (i := 5) rfl), zin_17 _ (List.mem_of_getElem? (i := 17) rfl), ⟨by decide +kernel, by decide +kernel, by decide +kernel⟩⟩
theorem ls_X9_59 : zLS RX9 59 yX9_rank cX9_rank 3 (some .int) 1 := ⟨zin_17 _ (List.mem_of_getElem? (i := 18) rfl), zin_17 _ (List.mem_of_getElem? (i := 19) rfl), zin_1 _ (List.mem_of_getElem? (i := 5) rfl), zin_17 _ (List.mem_of_getElem? (i := 20) rfl), ⟨by decide +kernel, by decide +kernel, by decide +kernel⟩⟩
theorem ls_X9_63 : zLS RX9 63 yX9_keepRegister cX9_keepRegister 5 none 4 := ⟨zin_17 _ (List.mem_of_getElem? (i := 21) rfl), zin_17 _ (List.mem_of_getElem? (i := 22) rfl), zin_1 _ (List.mem_of_getElem? (i := 5) rfl), zin_17 _ (List.mem_of_getElem? (i := 23) rfl), ⟨by decide +kernel, by decide +kernel, by decide +kernel⟩⟩
theorem ls_X9_67 : zLS RX9 67 yX9_lit cX9_lit 3 (some .int) 1 := ⟨zin_18 _ (List.mem_of_getElem? (i := 17) rfl), zin_18 _ (List.mem_of_getElem? (i := 18) rfl), zin_1 _ (List.mem_of_getElem? (i := 5) rfl), zin_18 _ (List.mem_of_getElem? (i := 19) rfl), ⟨by decide +kernel, by decide +kernel, by decide +kernel⟩⟩
theorem ls_X9_70 : zLS RX9 70 yX9_filled cX9_filled 4 (some .int) 2 := ⟨zin_19 _ (List.mem_of_getElem? (i := 3) rfl), zin_19 _ (List.mem_of_getElem? (i := 4) rfl), zin_1 _ (List.mem_of_getElem? (i := 5) rfl), zin_19 _ (List.mem_of_getElem? (i := 5) rfl), ⟨by decide +kernel, by decide +kernel, by decide +kernel⟩⟩
theorem ls_X9_74 : zLS RX9 74 yX9_harmonic cX9_harmonic 4 (some .int) 2 := ⟨zin_18 _ (List.mem_of_getElem? (i := 20) rfl), zin_18 _ (List.mem_of_getElem? (i := 21) rfl), zin_1 _ (List.mem_of_getElem? (i := 5) rfl), zin_18 _ (List.mem_of_getElem? (i := 22) rfl), ⟨by decide +kernel, by decide +kernel, by decide +kernel⟩⟩
theorem ls_X9_80 : zLS RX9 80 yX9_byRegisters cX9_byRegisters 5 (some .int) 2 := ⟨zin_18 _ (List.mem_of_getElem? (i := 23) rfl), zin_19 _ (List.mem_of_getElem? (i := 0) rfl), zin_1 _ (List.mem_of_getElem? (i := 5) rfl), zin_19 _ (List.mem_of_getElem? (i := 1) rfl), ⟨by decide +kernel, by decide +kernel, by decide +kernel⟩⟩
theorem ls_X9_83 : zLS RX9 83 yX9_rough cX9_rough 2 (some .int) 2 := ⟨zin_18 _ (List.mem_of_getElem? (i := 13) rfl), zin_18 _ (List.mem_of_getElem? (i := 14) rfl), zin_1 _ (List.mem_of_getElem? (i := 5) rfl), zin_18 _ (List.mem_of_getElem? (i := 15) rfl), ⟨by decide +kernel, by decide +kernel, by decide +kernel⟩⟩
theorem ls_X9_86 : zLS RX9 86 yX9_low cX9_low 3 (some .int) 2 := ⟨zin_19 _ (List.mem_of_getElem? (i := 6) rfl), zin_19 _ (List.mem_of_getElem? (i := 7) rfl), zin_1 _ (List.mem_of_getElem? (i := 5) rfl), zin_19 _ (List.mem_of_getElem? (i := 8) rfl), ⟨by decide +kernel, by decide +kernel, by decide +kernel⟩⟩
theorem ls_X9_89 : zLS RX9 89 yX9_high cX9_high 2 (some .int) 2 := ⟨zin_19 _ (List.mem_of_getElem? (i := 9) rfl), zin_19 _ (List.mem_of_getElem? (i := 10) rfl), zin_1 _ (List.mem_of_getElem? (i := 5) rfl), zin_19 _ (List.mem_of_getElem? (i := 11) rfl), ⟨by decide +kernel, by decide +kernel, by decide +kernel⟩⟩
theorem ls_X9_92 : zLS RX9 92 yX9_told cX9_told 5 (some .int) 2 := ⟨zin_18 _ (List.mem_of_getElem? (i := 10) rfl), zin_18 _ (List.mem_of_getElem? (i := 11) rfl), zin_1 _ (List.mem_of_getElem? (i := 5) rfl), zin_18 _ (List.mem_of_getElem? (i := 12) rfl), ⟨by decide +kernel, by decide +kernel, by decide +kernel⟩⟩
theorem lv_X0_17 : zLV RX0 17 yX6_signAt cX6_signAt 2 (some .char) 1 := ⟨zin_34 _ (List.mem_of_getElem? (i := 15) rfl), zin_34 _ (List.mem_of_getElem? (i := 16) rfl), zin_34 _ (List.mem_of_getElem? (i := 17) rfl), zin_1 _ (List.mem_of_getElem? (i := 22) rfl), zin_34 _ (List.mem_of_getElem? (i := 18) rfl), ⟨by decide +kernel, by decide +kernel, by decide +kernel⟩⟩
theorem lv_X0_23 : zLV RX0 23 yX0_numbersWanted cX0_numbersWanted 1 (some .int) 0 := ⟨zin_34 _ (List.mem_of_getElem? (i := 19) rfl), zin_34 _ (List.mem_of_getElem? (i := 20) rfl), zin_34 _ (List.mem_of_getElem? (i := 21) rfl), zin_2 _ (List.mem_of_getElem? (i := 2) rfl), zin_34 _ (List.mem_of_getElem? (i := 22) rfl), ⟨by decide +kernel, by decide +kernel, by decide +kernel⟩⟩
theorem lv_X0_27 : zLV RX0 27 yX6_digitsAt cX6_digitsAt 3 (some .int) 1 := ⟨zin_34 _ (List.mem_of_getElem? (i := 23) rfl), zin_35 _ (List.mem_of_getElem? (i := 0) rfl), zin_35 _ (List.mem_of_getElem? (i := 1) rfl), zin_1 _ (List.mem_of_getElem? (i := 22) rfl), zin_35 _ (List.mem_of_getElem? (i := 2) rfl), ⟨by decide +kernel, by decide +kernel, by decide +kernel⟩⟩
theorem lv_X0_31 : zLV RX0 31 yX6_numberAt cX6_numberAt 5 (some .int) 2 := ⟨zin_35 _ (List.mem_of_getElem? (i := 4) rfl), zin_35 _ (List.mem_of_getElem? (i := 5) rfl), zin_35 _ (List.mem_of_getElem? (i := 6) rfl), zin_1 _ (List.mem_of_getElem? (i := 22) rfl), zin_35 _ (List.mem_of_getElem? (i := 7) rfl), ⟨by decide +kernel, by decide +kernel, by decide +kernel⟩⟩
theorem lv_X1_22 : zLV RX1 22 yX1_dropOldest cX1_dropOldest 3 none 0 := ⟨zin_7 _ (List.mem_of_getElem? (i := 14) rfl), zin_7 _ (List.mem_of_getElem? (i := 15) rfl), zin_7 _ (List.mem_of_getElem? (i := 16) rfl), zin_1 _ (List.mem_of_getElem? (i := 18) rfl), zin_7 _ (List.mem_of_getElem? (i := 17) rfl), ⟨by decide +kernel, by decide +kernel, by decide +kernel⟩⟩
theorem lv_X1_25 : zLV RX1 25 yX1_slotAt cX1_slotAt 2 (some (.object "RoughTables$State")) 1 := ⟨zin_7 _ (List.mem_of_getElem? (i := 18) rfl), zin_7 _ (List.mem_of_getElem? (i := 19) rfl), zin_7 _ (List.mem_of_getElem? (i := 20) rfl), zin_1 _ (List.mem_of_getElem? (i := 18) rfl), zin_7 _ (List.mem_of_getElem? (i := 21) rfl), ⟨by decide +kernel, by decide +kernel, by decide +kernel⟩⟩
theorem lv_X1_29 : zLV RX1 29 yX4_copyFrom cX4_copyFrom 5 none 1 := ⟨zin_7 _ (List.mem_of_getElem? (i := 22) rfl), zin_7 _ (List.mem_of_getElem? (i := 23) rfl), zin_8 _ (List.mem_of_getElem? (i := 0) rfl), zin_1 _ (List.mem_of_getElem? (i := 14) rfl), zin_8 _ (List.mem_of_getElem? (i := 1) rfl), ⟨by decide +kernel, by decide +kernel, by decide +kernel⟩⟩
theorem lv_X3_104 : zLV RX3 104 yX3_low cX3_low 1 (some .int) 0 := ⟨zin_12 _ (List.mem_of_getElem? (i := 3) rfl), zin_12 _ (List.mem_of_getElem? (i := 4) rfl), zin_12 _ (List.mem_of_getElem? (i := 5) rfl), zin_2 _ (List.mem_of_getElem? (i := 10) rfl), zin_12 _ (List.mem_of_getElem? (i := 6) rfl), ⟨by decide +kernel, by decide +kernel, by decide +kernel⟩⟩
theorem lv_X3_107 : zLV RX3 107 yX3_rough cX3_rough 2 (some .int) 0 := ⟨zin_12 _ (List.mem_of_getElem? (i := 18) rfl), zin_12 _ (List.mem_of_getElem? (i := 19) rfl), zin_12 _ (List.mem_of_getElem? (i := 20) rfl), zin_2 _ (List.mem_of_getElem? (i := 10) rfl), zin_12 _ (List.mem_of_getElem? (i := 21) rfl), ⟨by decide +kernel, by decide +kernel, by decide +kernel⟩⟩
theorem lv_X3_110 : zLV RX3 110 yX3_high cX3_high 1 (some .int) 0 := ⟨zin_13 _ (List.mem_of_getElem? (i := 10) rfl), zin_13 _ (List.mem_of_getElem? (i := 11) rfl), zin_13 _ (List.mem_of_getElem? (i := 12) rfl), zin_2 _ (List.mem_of_getElem? (i := 10) rfl), zin_13 _ (List.mem_of_getElem? (i := 13) rfl), ⟨by decide +kernel, by decide +kernel, by decide +kernel⟩⟩
theorem lv_X3_56 : zLV RX3 56 yX3_bitOf cX3_bitOf 2 (some .int) 1 := ⟨zin_10 _ (List.mem_of_getElem? (i := 17) rfl), zin_10 _ (List.mem_of_getElem? (i := 18) rfl), zin_10 _ (List.mem_of_getElem? (i := 19) rfl), zin_2 _ (List.mem_of_getElem? (i := 10) rfl), zin_10 _ (List.mem_of_getElem? (i := 20) rfl), ⟨by decide +kernel, by decide +kernel, by decide +kernel⟩⟩
theorem lv_X3_60 : zLV RX3 60 yX3_keepHash cX3_keepHash 4 none 1 := ⟨zin_10 _ (List.mem_of_getElem? (i := 21) rfl), zin_10 _ (List.mem_of_getElem? (i := 22) rfl), zin_10 _ (List.mem_of_getElem? (i := 23) rfl), zin_2 _ (List.mem_of_getElem? (i := 10) rfl), zin_11 _ (List.mem_of_getElem? (i := 0) rfl), ⟨by decide +kernel, by decide +kernel, by decide +kernel⟩⟩
theorem lv_X3_64 : zLV RX3 64 yX3_registerOf cX3_registerOf 2 (some .int) 1 := ⟨zin_11 _ (List.mem_of_getElem? (i := 5) rfl), zin_11 _ (List.mem_of_getElem? (i := 6) rfl), zin_11 _ (List.mem_of_getElem? (i := 7) rfl), zin_2 _ (List.mem_of_getElem? (i := 10) rfl), zin_11 _ (List.mem_of_getElem? (i := 8) rfl), ⟨by decide +kernel, by decide +kernel, by decide +kernel⟩⟩
theorem lv_X3_70 : zLV RX3 70 yX3_raise cX3_raise 3 none 2 := ⟨zin_11 _ (List.mem_of_getElem? (i := 11) rfl), zin_11 _ (List.mem_of_getElem? (i := 12) rfl), zin_11 _ (List.mem_of_getElem? (i := 13) rfl), zin_2 _ (List.mem_of_getElem? (i := 10) rfl), zin_11 _ (List.mem_of_getElem? (i := 14) rfl), ⟨by decide +kernel, by decide +kernel, by decide +kernel⟩⟩
theorem lv_X3_74 : zLV RX3 74 yX3_placeOf cX3_placeOf 3 (some .int) 1 := ⟨zin_11 _ (List.mem_of_getElem? (i := 1) rfl), zin_11 _ (List.mem_of_getElem? (i := 2) rfl), zin_11 _ (List.mem_of_getElem? (i := 3) rfl), zin_2 _ (List.mem_of_getElem? (i := 10) rfl), zin_11 _ (List.mem_of_getElem? (i := 4) rfl), ⟨by decide +kernel, by decide +kernel, by decide +kernel⟩⟩
theorem lv_X3_77 : zLV RX3 77 yX3_staysWith cX3_staysWith 4 (some .boolean) 1 := ⟨zin_30 _ (List.mem_of_getElem? (i := 10) rfl), zin_24 _ (List.mem_of_getElem? (i := 15) rfl), zin_24 _ (List.mem_of_getElem? (i := 16) rfl), zin_2 _ (List.mem_of_getElem? (i := 10) rfl), zin_24 _ (List.mem_of_getElem? (i := 17) rfl), ⟨by decide +kernel, by decide +kernel, by decide +kernel⟩⟩
theorem lv_X3_89 : zLV RX3 89 yX3_filledRegisters cX3_filledRegisters 6 (some .int) 0 := ⟨zin_12 _ (List.mem_of_getElem? (i := 14) rfl), zin_12 _ (List.mem_of_getElem? (i := 15) rfl), zin_12 _ (List.mem_of_getElem? (i := 16) rfl), zin_2 _ (List.mem_of_getElem? (i := 10) rfl), zin_12 _ (List.mem_of_getElem? (i := 17) rfl), ⟨by decide +kernel, by decide +kernel, by decide +kernel⟩⟩
theorem lv_X3_96 : zLV RX3 96 yX3_roughByHashes cX3_roughByHashes 2 (some .int) 0 := ⟨zin_13 _ (List.mem_of_getElem? (i := 0) rfl), zin_13 _ (List.mem_of_getElem? (i := 1) rfl), zin_13 _ (List.mem_of_getElem? (i := 2) rfl), zin_2 _ (List.mem_of_getElem? (i := 10) rfl), zin_13 _ (List.mem_of_getElem? (i := 3) rfl), ⟨by decide +kernel, by decide +kernel, by decide +kernel⟩⟩
theorem lv_X3_99 : zLV RX3 99 yX3_roughByRanks cX3_roughByRanks 6 (some .int) 0 := ⟨zin_13 _ (List.mem_of_getElem? (i := 5) rfl), zin_13 _ (List.mem_of_getElem? (i := 6) rfl), zin_13 _ (List.mem_of_getElem? (i := 7) rfl), zin_2 _ (List.mem_of_getElem? (i := 10) rfl), zin_13 _ (List.mem_of_getElem? (i := 8) rfl), ⟨by decide +kernel, by decide +kernel, by decide +kernel⟩⟩
theorem lv_X4_103 : zLV RX4 103 yX3_take cX3_take 3 none 1 := ⟨zin_10 _ (List.mem_of_getElem? (i := 7) rfl), zin_10 _ (List.mem_of_getElem? (i := 8) rfl), zin_10 _ (List.mem_of_getElem? (i := 9) rfl), zin_2 _ (List.mem_of_getElem? (i := 10) rfl), zin_10 _ (List.mem_of_getElem? (i := 10) rfl), ⟨by decide +kernel, by decide +kernel, by decide +kernel⟩⟩
theorem lv_X4_107 : zLV RX4 107 yX5_know cX5_know 3 none 2 := ⟨zin_11 _ (List.mem_of_getElem? (i := 18) rfl), zin_11 _ (List.mem_of_getElem? (i := 19) rfl), zin_11 _ (List.mem_of_getElem? (i := 20) rfl), zin_2 _ (List.mem_of_getElem? (i := 23) rfl), zin_11 _ (List.mem_of_getElem? (i := 21) rfl), ⟨by decide +kernel, by decide +kernel, by decide +kernel⟩⟩
theorem lv_X4_110 : zLV RX4 110 yX3_told cX3_told 1 (some .int) 0 := ⟨zin_11 _ (List.mem_of_getElem? (i := 23) rfl), zin_12 _ (List.mem_of_getElem? (i := 0) rfl), zin_12 _ (List.mem_of_getElem? (i := 1) rfl), zin_2 _ (List.mem_of_getElem? (i := 10) rfl), zin_12 _ (List.mem_of_getElem? (i := 2) rfl), ⟨by decide +kernel, by decide +kernel, by decide +kernel⟩⟩
theorem lv_X4_114 : zLV RX4 114 yX3_unite cX3_unite 3 none 1 := ⟨zin_13 _ (List.mem_of_getElem? (i := 18) rfl), zin_13 _ (List.mem_of_getElem? (i := 19) rfl), zin_13 _ (List.mem_of_getElem? (i := 20) rfl), zin_2 _ (List.mem_of_getElem? (i := 10) rfl), zin_13 _ (List.mem_of_getElem? (i := 21) rfl), ⟨by decide +kernel, by decide +kernel, by decide +kernel⟩⟩
theorem lv_X4_117 : zLV RX4 117 yX5_knowAllOf cX5_knowAllOf 3 none 1 := ⟨zin_13 _ (List.mem_of_getElem? (i := 22) rfl), zin_13 _ (List.mem_of_getElem? (i := 23) rfl), zin_14 _ (List.mem_of_getElem? (i := 0) rfl), zin_2 _ (List.mem_of_getElem? (i := 23) rfl), zin_14 _ (List.mem_of_getElem? (i := 1) rfl), ⟨by decide +kernel, by decide +kernel, by decide +kernel⟩⟩
theorem lv_X4_123 : zLV RX4 123 yX2_write cX2_write 5 none 3 := ⟨zin_14 _ (List.mem_of_getElem? (i := 8) rfl), zin_14 _ (List.mem_of_getElem? (i := 9) rfl), zin_14 _ (List.mem_of_getElem? (i := 10) rfl), zin_2 _ (List.mem_of_getElem? (i := 20) rfl), zin_14 _ (List.mem_of_getElem? (i := 11) rfl), ⟨by decide +kernel, by decide +kernel, by decide +kernel⟩⟩
theorem lv_X4_127 : zLV RX4 127 yX5_beginAgain cX5_beginAgain 2 none 0 := ⟨zin_14 _ (List.mem_of_getElem? (i := 13) rfl), zin_14 _ (List.mem_of_getElem? (i := 14) rfl), zin_14 _ (List.mem_of_getElem? (i := 15) rfl), zin_2 _ (List.mem_of_getElem? (i := 23) rfl), zin_14 _ (List.mem_of_getElem? (i := 16) rfl), ⟨by decide +kernel, by decide +kernel, by decide +kernel⟩⟩
theorem lv_X4_130 : zLV RX4 130 yX5_saw cX5_saw 2 (some .boolean) 1 := ⟨zin_26 _ (List.mem_of_getElem? (i := 12) rfl), zin_24 _ (List.mem_of_getElem? (i := 10) rfl), zin_24 _ (List.mem_of_getElem? (i := 11) rfl), zin_2 _ (List.mem_of_getElem? (i := 23) rfl), zin_24 _ (List.mem_of_getElem? (i := 12) rfl), ⟨by decide +kernel, by decide +kernel, by decide +kernel⟩⟩
theorem lv_X4_133 : zLV RX4 133 yX4_tablesWithThing cX4_tablesWithThing 5 (some .int) 1 := ⟨zin_26 _ (List.mem_of_getElem? (i := 8) rfl), zin_26 _ (List.mem_of_getElem? (i := 9) rfl), zin_26 _ (List.mem_of_getElem? (i := 10) rfl), zin_1 _ (List.mem_of_getElem? (i := 14) rfl), zin_26 _ (List.mem_of_getElem? (i := 11) rfl), ⟨by decide +kernel, by decide +kernel, by decide +kernel⟩⟩
theorem lv_X4_136 : zLV RX4 136 yX5_error cX5_error 1 (some .int) 0 := ⟨zin_26 _ (List.mem_of_getElem? (i := 21) rfl), zin_22 _ (List.mem_of_getElem? (i := 2) rfl), zin_22 _ (List.mem_of_getElem? (i := 3) rfl), zin_2 _ (List.mem_of_getElem? (i := 23) rfl), zin_22 _ (List.mem_of_getElem? (i := 4) rfl), ⟨by decide +kernel, by decide +kernel, by decide +kernel⟩⟩
theorem lv_X4_139 : zLV RX4 139 yX4_errorSize cX4_errorSize 3 (some .int) 1 := ⟨zin_29 _ (List.mem_of_getElem? (i := 2) rfl), zin_29 _ (List.mem_of_getElem? (i := 3) rfl), zin_29 _ (List.mem_of_getElem? (i := 4) rfl), zin_1 _ (List.mem_of_getElem? (i := 14) rfl), zin_29 _ (List.mem_of_getElem? (i := 5) rfl), ⟨by decide +kernel, by decide +kernel, by decide +kernel⟩⟩
theorem lv_X4_32 : zLV RX4 32 yX2_copyFrom cX2_copyFrom 2 none 1 := ⟨zin_8 _ (List.mem_of_getElem? (i := 2) rfl), zin_8 _ (List.mem_of_getElem? (i := 3) rfl), zin_8 _ (List.mem_of_getElem? (i := 4) rfl), zin_2 _ (List.mem_of_getElem? (i := 20) rfl), zin_8 _ (List.mem_of_getElem? (i := 5) rfl), ⟨by decide +kernel, by decide +kernel, by decide +kernel⟩⟩
theorem lv_X4_36 : zLV RX4 36 yX4_find cX4_find 2 (some (.object "RoughTables$Table")) 1 := ⟨zin_6 _ (List.mem_of_getElem? (i := 16) rfl), zin_6 _ (List.mem_of_getElem? (i := 17) rfl), zin_6 _ (List.mem_of_getElem? (i := 18) rfl), zin_1 _ (List.mem_of_getElem? (i := 14) rfl), zin_6 _ (List.mem_of_getElem? (i := 19) rfl), ⟨by decide +kernel, by decide +kernel, by decide +kernel⟩⟩
theorem lv_X4_40 : zLV RX4 40 yX5_copyFrom cX5_copyFrom 2 none 1 := ⟨zin_8 _ (List.mem_of_getElem? (i := 11) rfl), zin_8 _ (List.mem_of_getElem? (i := 12) rfl), zin_8 _ (List.mem_of_getElem? (i := 13) rfl), zin_2 _ (List.mem_of_getElem? (i := 23) rfl), zin_8 _ (List.mem_of_getElem? (i := 14) rfl), ⟨by decide +kernel, by decide +kernel, by decide +kernel⟩⟩
theorem lv_X4_43 : zLV RX4 43 yX0_numberAt cX0_numberAt 2 (some .int) 1 := ⟨zin_6 _ (List.mem_of_getElem? (i := 0) rfl), zin_6 _ (List.mem_of_getElem? (i := 1) rfl), zin_6 _ (List.mem_of_getElem? (i := 2) rfl), zin_2 _ (List.mem_of_getElem? (i := 2) rfl), zin_6 _ (List.mem_of_getElem? (i := 3) rfl), ⟨by decide +kernel, by decide +kernel, by decide +kernel⟩⟩
theorem lv_X4_53 : zLV RX4 53 yX4_refusalOfTable cX4_refusalOfTable 3 (some .int) 2 := ⟨zin_6 _ (List.mem_of_getElem? (i := 4) rfl), zin_6 _ (List.mem_of_getElem? (i := 5) rfl), zin_6 _ (List.mem_of_getElem? (i := 6) rfl), zin_1 _ (List.mem_of_getElem? (i := 14) rfl), zin_6 _ (List.mem_of_getElem? (i := 7) rfl), ⟨by decide +kernel, by decide +kernel, by decide +kernel⟩⟩
theorem lv_X4_57 : zLV RX4 57 yX4_refusalOfRow cX4_refusalOfRow 5 (some .int) 4 := ⟨zin_6 _ (List.mem_of_getElem? (i := 11) rfl), zin_6 _ (List.mem_of_getElem? (i := 12) rfl), zin_6 _ (List.mem_of_getElem? (i := 13) rfl), zin_1 _ (List.mem_of_getElem? (i := 14) rfl), zin_6 _ (List.mem_of_getElem? (i := 14) rfl), ⟨by decide +kernel, by decide +kernel, by decide +kernel⟩⟩
theorem lv_X4_61 : zLV RX4 61 yX4_refusalOfMerge cX4_refusalOfMerge 5 (some .int) 2 := ⟨zin_6 _ (List.mem_of_getElem? (i := 22) rfl), zin_6 _ (List.mem_of_getElem? (i := 23) rfl), zin_7 _ (List.mem_of_getElem? (i := 0) rfl), zin_1 _ (List.mem_of_getElem? (i := 14) rfl), zin_7 _ (List.mem_of_getElem? (i := 1) rfl), ⟨by decide +kernel, by decide +kernel, by decide +kernel⟩⟩
theorem lv_X4_76 : zLV RX4 76 yX3_isLike cX3_isLike 2 (some .boolean) 1 := ⟨zin_7 _ (List.mem_of_getElem? (i := 3) rfl), zin_7 _ (List.mem_of_getElem? (i := 4) rfl), zin_7 _ (List.mem_of_getElem? (i := 5) rfl), zin_2 _ (List.mem_of_getElem? (i := 10) rfl), zin_7 _ (List.mem_of_getElem? (i := 6) rfl), ⟨by decide +kernel, by decide +kernel, by decide +kernel⟩⟩
theorem lv_X4_82 : zLV RX4 82 yX4_makeTable cX4_makeTable 4 (some .int) 2 := ⟨zin_9 _ (List.mem_of_getElem? (i := 6) rfl), zin_9 _ (List.mem_of_getElem? (i := 7) rfl), zin_9 _ (List.mem_of_getElem? (i := 8) rfl), zin_1 _ (List.mem_of_getElem? (i := 14) rfl), zin_9 _ (List.mem_of_getElem? (i := 9) rfl), ⟨by decide +kernel, by decide +kernel, by decide +kernel⟩⟩
theorem lv_X4_85 : zLV RX4 85 yX4_putRow cX4_putRow 8 (some .int) 4 := ⟨zin_10 _ (List.mem_of_getElem? (i := 3) rfl), zin_10 _ (List.mem_of_getElem? (i := 4) rfl), zin_10 _ (List.mem_of_getElem? (i := 5) rfl), zin_1 _ (List.mem_of_getElem? (i := 14) rfl), zin_10 _ (List.mem_of_getElem? (i := 6) rfl), ⟨by decide +kernel, by decide +kernel, by decide +kernel⟩⟩
theorem lv_X4_88 : zLV RX4 88 yX4_unite cX4_unite 5 (some .int) 2 := ⟨zin_13 _ (List.mem_of_getElem? (i := 14) rfl), zin_13 _ (List.mem_of_getElem? (i := 15) rfl), zin_13 _ (List.mem_of_getElem? (i := 16) rfl), zin_1 _ (List.mem_of_getElem? (i := 14) rfl), zin_13 _ (List.mem_of_getElem? (i := 17) rfl), ⟨by decide +kernel, by decide +kernel, by decide +kernel⟩⟩
theorem lv_X4_91 : zLV RX4 91 yX4_empty cX4_empty 4 (some .int) 1 := ⟨zin_14 _ (List.mem_of_getElem? (i := 3) rfl), zin_14 _ (List.mem_of_getElem? (i := 4) rfl), zin_14 _ (List.mem_of_getElem? (i := 5) rfl), zin_1 _ (List.mem_of_getElem? (i := 14) rfl), zin_14 _ (List.mem_of_getElem? (i := 6) rfl), ⟨by decide +kernel, by decide +kernel, by decide +kernel⟩⟩
theorem lv_X4_99 : zLV RX4 99 yX5_begin cX5_begin 3 none 2 := ⟨zin_9 _ (List.mem_of_getElem? (i := 14) rfl), zin_9 _ (List.mem_of_getElem? (i := 15) rfl), zin_9 _ (List.mem_of_getElem? (i := 16) rfl), zin_2 _ (List.mem_of_getElem? (i := 23) rfl), zin_9 _ (List.mem_of_getElem? (i := 17) rfl), ⟨by decide +kernel, by decide +kernel, by decide +kernel⟩⟩
theorem lv_X5_22 : zLV RX5 22 yX3_begin cX3_begin 3 none 2 := ⟨zin_9 _ (List.mem_of_getElem? (i := 18) rfl), zin_9 _ (List.mem_of_getElem? (i := 19) rfl), zin_9 _ (List.mem_of_getElem? (i := 20) rfl), zin_2 _ (List.mem_of_getElem? (i := 10) rfl), zin_9 _ (List.mem_of_getElem? (i := 21) rfl), ⟨by decide +kernel, by decide +kernel, by decide +kernel⟩⟩
theorem lv_X5_45 : zLV RX5 45 yX5_begin cX5_begin 3 none 2 := ⟨zin_14 _ (List.mem_of_getElem? (i := 19) rfl), zin_9 _ (List.mem_of_getElem? (i := 15) rfl), zin_9 _ (List.mem_of_getElem? (i := 16) rfl), zin_2 _ (List.mem_of_getElem? (i := 23) rfl), zin_9 _ (List.mem_of_getElem? (i := 17) rfl), ⟨by decide +kernel, by decide +kernel, by decide +kernel⟩⟩
theorem lv_X5_46 : zLV RX5 46 yX3_copyFrom cX3_copyFrom 2 none 1 := ⟨zin_8 _ (List.mem_of_getElem? (i := 18) rfl), zin_8 _ (List.mem_of_getElem? (i := 19) rfl), zin_8 _ (List.mem_of_getElem? (i := 20) rfl), zin_2 _ (List.mem_of_getElem? (i := 10) rfl), zin_8 _ (List.mem_of_getElem? (i := 21) rfl), ⟨by decide +kernel, by decide +kernel, by decide +kernel⟩⟩
theorem lv_X5_56 : zLV RX5 56 yX5_timeOf cX5_timeOf 2 (some .int) 1 := ⟨zin_24 _ (List.mem_of_getElem? (i := 13) rfl), zin_23 _ (List.mem_of_getElem? (i := 12) rfl), zin_23 _ (List.mem_of_getElem? (i := 13) rfl), zin_2 _ (List.mem_of_getElem? (i := 23) rfl), zin_23 _ (List.mem_of_getElem? (i := 14) rfl), ⟨by decide +kernel, by decide +kernel, by decide +kernel⟩⟩
theorem lv_X5_64 : zLV RX5 64 yX5_know cX5_know 3 none 2 := ⟨zin_14 _ (List.mem_of_getElem? (i := 2) rfl), zin_11 _ (List.mem_of_getElem? (i := 19) rfl), zin_11 _ (List.mem_of_getElem? (i := 20) rfl), zin_2 _ (List.mem_of_getElem? (i := 23) rfl), zin_11 _ (List.mem_of_getElem? (i := 21) rfl), ⟨by decide +kernel, by decide +kernel, by decide +kernel⟩⟩
theorem lv_X5_73 : zLV RX5 73 yX5_sawToo cX5_sawToo 4 (some .int) 1 := ⟨zin_31 _ (List.mem_of_getElem? (i := 0) rfl), zin_31 _ (List.mem_of_getElem? (i := 1) rfl), zin_31 _ (List.mem_of_getElem? (i := 2) rfl), zin_2 _ (List.mem_of_getElem? (i := 23) rfl), zin_31 _ (List.mem_of_getElem? (i := 3) rfl), ⟨by decide +kernel, by decide +kernel, by decide +kernel⟩⟩
theorem lv_X5_77 : zLV RX5 77 yX3_told cX3_told 1 (some .int) 0 := ⟨zin_21 _ (List.mem_of_getElem? (i := 22) rfl), zin_12 _ (List.mem_of_getElem? (i := 0) rfl), zin_12 _ (List.mem_of_getElem? (i := 1) rfl), zin_2 _ (List.mem_of_getElem? (i := 10) rfl), zin_12 _ (List.mem_of_getElem? (i := 2) rfl), ⟨by decide +kernel, by decide +kernel, by decide +kernel⟩⟩
theorem lv_X5_81 : zLV RX5 81 yX3_low cX3_low 1 (some .int) 0 := ⟨zin_21 _ (List.mem_of_getElem? (i := 23) rfl), zin_12 _ (List.mem_of_getElem? (i := 4) rfl), zin_12 _ (List.mem_of_getElem? (i := 5) rfl), zin_2 _ (List.mem_of_getElem? (i := 10) rfl), zin_12 _ (List.mem_of_getElem? (i := 6) rfl), ⟨by decide +kernel, by decide +kernel, by decide +kernel⟩⟩
theorem lv_X5_84 : zLV RX5 84 yX3_high cX3_high 1 (some .int) 0 := ⟨zin_22 _ (List.mem_of_getElem? (i := 0) rfl), zin_13 _ (List.mem_of_getElem? (i := 11) rfl), zin_13 _ (List.mem_of_getElem? (i := 12) rfl), zin_2 _ (List.mem_of_getElem? (i := 10) rfl), zin_13 _ (List.mem_of_getElem? (i := 13) rfl), ⟨by decide +kernel, by decide +kernel, by decide +kernel⟩⟩
theorem lv_X5_87 : zLV RX5 87 yX5_error cX5_error 1 (some .int) 0 := ⟨zin_22 _ (List.mem_of_getElem? (i := 1) rfl), zin_22 _ (List.mem_of_getElem? (i := 2) rfl), zin_22 _ (List.mem_of_getElem? (i := 3) rfl), zin_2 _ (List.mem_of_getElem? (i := 23) rfl), zin_22 _ (List.mem_of_getElem? (i := 4) rfl), ⟨by decide +kernel, by decide +kernel, by decide +kernel⟩⟩
theorem lv_X5_93 : zLV RX5 93 yX3_rough cX3_rough 2 (some .int) 0 := ⟨zin_22 _ (List.mem_of_getElem? (i := 5) rfl), zin_12 _ (List.mem_of_getElem? (i := 19) rfl), zin_12 _ (List.mem_of_getElem? (i := 20) rfl), zin_2 _ (List.mem_of_getElem? (i := 10) rfl), zin_12 _ (List.mem_of_getElem? (i := 21) rfl), ⟨by decide +kernel, by decide +kernel, by decide +kernel⟩⟩
theorem lv_X6_19 : zLV RX6 19 yX6_signAt cX6_signAt 2 (some .char) 1 := ⟨zin_35 _ (List.mem_of_getElem? (i := 3) rfl), zin_34 _ (List.mem_of_getElem? (i := 16) rfl), zin_34 _ (List.mem_of_getElem? (i := 17) rfl), zin_1 _ (List.mem_of_getElem? (i := 22) rfl), zin_34 _ (List.mem_of_getElem? (i := 18) rfl), ⟨by decide +kernel, by decide +kernel, by decide +kernel⟩⟩
theorem lv_X7_25 : zLV RX7 25 yX4_copyFrom cX4_copyFrom 5 none 1 := ⟨zin_34 _ (List.mem_of_getElem? (i := 5) rfl), zin_7 _ (List.mem_of_getElem? (i := 23) rfl), zin_8 _ (List.mem_of_getElem? (i := 0) rfl), zin_1 _ (List.mem_of_getElem? (i := 14) rfl), zin_8 _ (List.mem_of_getElem? (i := 1) rfl), ⟨by decide +kernel, by decide +kernel, by decide +kernel⟩⟩
theorem lv_X7_47 : zLV RX7 47 yX7_faultOfNext cX7_faultOfNext 2 (some .int) 1 := ⟨zin_34 _ (List.mem_of_getElem? (i := 6) rfl), zin_34 _ (List.mem_of_getElem? (i := 7) rfl), zin_34 _ (List.mem_of_getElem? (i := 8) rfl), zin_2 _ (List.mem_of_getElem? (i := 6) rfl), zin_34 _ (List.mem_of_getElem? (i := 9) rfl), ⟨by decide +kernel, by decide +kernel, by decide +kernel⟩⟩
theorem lv_X7_51 : zLV RX7 51 yX4_carryOut cX4_carryOut 4 (some .int) 1 := ⟨zin_35 _ (List.mem_of_getElem? (i := 9) rfl), zin_9 _ (List.mem_of_getElem? (i := 3) rfl), zin_9 _ (List.mem_of_getElem? (i := 4) rfl), zin_1 _ (List.mem_of_getElem? (i := 14) rfl), zin_9 _ (List.mem_of_getElem? (i := 5) rfl), ⟨by decide +kernel, by decide +kernel, by decide +kernel⟩⟩
theorem lv_X7_58 : zLV RX7 58 yX0_read cX0_read 8 (some .boolean) 2 := ⟨zin_34 _ (List.mem_of_getElem? (i := 10) rfl), zin_34 _ (List.mem_of_getElem? (i := 11) rfl), zin_34 _ (List.mem_of_getElem? (i := 12) rfl), zin_2 _ (List.mem_of_getElem? (i := 2) rfl), zin_34 _ (List.mem_of_getElem? (i := 13) rfl), ⟨by decide +kernel, by decide +kernel, by decide +kernel⟩⟩
theorem lv_X7_62 : zLV RX7 62 yX4_refusalOf cX4_refusalOf 4 (some .int) 1 := ⟨zin_35 _ (List.mem_of_getElem? (i := 8) rfl), zin_5 _ (List.mem_of_getElem? (i := 20) rfl), zin_5 _ (List.mem_of_getElem? (i := 21) rfl), zin_1 _ (List.mem_of_getElem? (i := 14) rfl), zin_5 _ (List.mem_of_getElem? (i := 22) rfl), ⟨by decide +kernel, by decide +kernel, by decide +kernel⟩⟩
theorem lv_X8_108 : zLV RX8 108 yX5_saw cX5_saw 2 (some .boolean) 1 := ⟨zin_24 _ (List.mem_of_getElem? (i := 9) rfl), zin_24 _ (List.mem_of_getElem? (i := 10) rfl), zin_24 _ (List.mem_of_getElem? (i := 11) rfl), zin_2 _ (List.mem_of_getElem? (i := 23) rfl), zin_24 _ (List.mem_of_getElem? (i := 12) rfl), ⟨by decide +kernel, by decide +kernel, by decide +kernel⟩⟩
theorem lv_X8_111 : zLV RX8 111 yX3_staysWith cX3_staysWith 4 (some .boolean) 1 := ⟨zin_24 _ (List.mem_of_getElem? (i := 14) rfl), zin_24 _ (List.mem_of_getElem? (i := 15) rfl), zin_24 _ (List.mem_of_getElem? (i := 16) rfl), zin_2 _ (List.mem_of_getElem? (i := 10) rfl), zin_24 _ (List.mem_of_getElem? (i := 17) rfl), ⟨by decide +kernel, by decide +kernel, by decide +kernel⟩⟩
theorem lv_X8_118 : zLV RX8 118 yX2_entry cX2_entry 3 (some .int) 2 := ⟨zin_25 _ (List.mem_of_getElem? (i := 11) rfl), zin_25 _ (List.mem_of_getElem? (i := 12) rfl), zin_25 _ (List.mem_of_getElem? (i := 13) rfl), zin_2 _ (List.mem_of_getElem? (i := 20) rfl), zin_25 _ (List.mem_of_getElem? (i := 14) rfl), ⟨by decide +kernel, by decide +kernel, by decide +kernel⟩⟩
theorem lv_X8_130 : zLV RX8 130 yX4_thingsOfAny cX4_thingsOfAny 3 (some .int) 0 := ⟨zin_26 _ (List.mem_of_getElem? (i := 4) rfl), zin_26 _ (List.mem_of_getElem? (i := 5) rfl), zin_26 _ (List.mem_of_getElem? (i := 6) rfl), zin_1 _ (List.mem_of_getElem? (i := 14) rfl), zin_26 _ (List.mem_of_getElem? (i := 7) rfl), ⟨by decide +kernel, by decide +kernel, by decide +kernel⟩⟩
theorem lv_X8_133 : zLV RX8 133 yX4_thingsOfAll cX4_thingsOfAll 3 (some .int) 0 := ⟨zin_26 _ (List.mem_of_getElem? (i := 13) rfl), zin_26 _ (List.mem_of_getElem? (i := 14) rfl), zin_26 _ (List.mem_of_getElem? (i := 15) rfl), zin_1 _ (List.mem_of_getElem? (i := 14) rfl), zin_26 _ (List.mem_of_getElem? (i := 16) rfl), ⟨by decide +kernel, by decide +kernel, by decide +kernel⟩⟩
theorem lv_X8_139 : zLV RX8 139 yX4_tablesWithoutError cX4_tablesWithoutError 4 (some .int) 0 := ⟨zin_26 _ (List.mem_of_getElem? (i := 17) rfl), zin_26 _ (List.mem_of_getElem? (i := 18) rfl), zin_26 _ (List.mem_of_getElem? (i := 19) rfl), zin_1 _ (List.mem_of_getElem? (i := 14) rfl), zin_26 _ (List.mem_of_getElem? (i := 20) rfl), ⟨by decide +kernel, by decide +kernel, by decide +kernel⟩⟩
theorem lv_X8_149 : zLV RX8 149 yX5_error cX5_error 1 (some .int) 0 := ⟨zin_27 _ (List.mem_of_getElem? (i := 16) rfl), zin_22 _ (List.mem_of_getElem? (i := 2) rfl), zin_22 _ (List.mem_of_getElem? (i := 3) rfl), zin_2 _ (List.mem_of_getElem? (i := 23) rfl), zin_22 _ (List.mem_of_getElem? (i := 4) rfl), ⟨by decide +kernel, by decide +kernel, by decide +kernel⟩⟩
theorem lv_X8_155 : zLV RX8 155 yX4_placeByError cX4_placeByError 6 (some .int) 1 := ⟨zin_28 _ (List.mem_of_getElem? (i := 22) rfl), zin_28 _ (List.mem_of_getElem? (i := 23) rfl), zin_29 _ (List.mem_of_getElem? (i := 0) rfl), zin_1 _ (List.mem_of_getElem? (i := 14) rfl), zin_29 _ (List.mem_of_getElem? (i := 1) rfl), ⟨by decide +kernel, by decide +kernel, by decide +kernel⟩⟩
theorem lv_X8_158 : zLV RX8 158 yX3_copyFrom cX3_copyFrom 2 none 1 := ⟨zin_29 _ (List.mem_of_getElem? (i := 19) rfl), zin_8 _ (List.mem_of_getElem? (i := 19) rfl), zin_8 _ (List.mem_of_getElem? (i := 20) rfl), zin_2 _ (List.mem_of_getElem? (i := 10) rfl), zin_8 _ (List.mem_of_getElem? (i := 21) rfl), ⟨by decide +kernel, by decide +kernel, by decide +kernel⟩⟩
theorem lv_X8_162 : zLV RX8 162 yX3_take cX3_take 3 none 1 := ⟨zin_29 _ (List.mem_of_getElem? (i := 20) rfl), zin_10 _ (List.mem_of_getElem? (i := 8) rfl), zin_10 _ (List.mem_of_getElem? (i := 9) rfl), zin_2 _ (List.mem_of_getElem? (i := 10) rfl), zin_10 _ (List.mem_of_getElem? (i := 10) rfl), ⟨by decide +kernel, by decide +kernel, by decide +kernel⟩⟩
theorem lv_X8_166 : zLV RX8 166 yX3_told cX3_told 1 (some .int) 0 := ⟨zin_29 _ (List.mem_of_getElem? (i := 21) rfl), zin_12 _ (List.mem_of_getElem? (i := 0) rfl), zin_12 _ (List.mem_of_getElem? (i := 1) rfl), zin_2 _ (List.mem_of_getElem? (i := 10) rfl), zin_12 _ (List.mem_of_getElem? (i := 2) rfl), ⟨by decide +kernel, by decide +kernel, by decide +kernel⟩⟩
theorem lv_X8_169 : zLV RX8 169 yX3_lowestRaising cX3_lowestRaising 2 (some .int) 0 := ⟨zin_30 _ (List.mem_of_getElem? (i := 6) rfl), zin_30 _ (List.mem_of_getElem? (i := 7) rfl), zin_30 _ (List.mem_of_getElem? (i := 8) rfl), zin_2 _ (List.mem_of_getElem? (i := 10) rfl), zin_30 _ (List.mem_of_getElem? (i := 9) rfl), ⟨by decide +kernel, by decide +kernel, by decide +kernel⟩⟩
theorem lv_X8_172 : zLV RX8 172 yX5_sawEither cX5_sawEither 2 (some .int) 1 := ⟨zin_30 _ (List.mem_of_getElem? (i := 20) rfl), zin_30 _ (List.mem_of_getElem? (i := 21) rfl), zin_30 _ (List.mem_of_getElem? (i := 22) rfl), zin_2 _ (List.mem_of_getElem? (i := 23) rfl), zin_30 _ (List.mem_of_getElem? (i := 23) rfl), ⟨by decide +kernel, by decide +kernel, by decide +kernel⟩⟩
theorem lv_X8_176 : zLV RX8 176 yX5_sawToo cX5_sawToo 4 (some .int) 1 := ⟨zin_31 _ (List.mem_of_getElem? (i := 4) rfl), zin_31 _ (List.mem_of_getElem? (i := 1) rfl), zin_31 _ (List.mem_of_getElem? (i := 2) rfl), zin_2 _ (List.mem_of_getElem? (i := 23) rfl), zin_31 _ (List.mem_of_getElem? (i := 3) rfl), ⟨by decide +kernel, by decide +kernel, by decide +kernel⟩⟩
theorem lv_X8_179 : zLV RX8 179 yX3_isLike cX3_isLike 2 (some .boolean) 1 := ⟨zin_31 _ (List.mem_of_getElem? (i := 5) rfl), zin_7 _ (List.mem_of_getElem? (i := 4) rfl), zin_7 _ (List.mem_of_getElem? (i := 5) rfl), zin_2 _ (List.mem_of_getElem? (i := 10) rfl), zin_7 _ (List.mem_of_getElem? (i := 6) rfl), ⟨by decide +kernel, by decide +kernel, by decide +kernel⟩⟩
theorem lv_X8_183 : zLV RX8 183 yX3_unite cX3_unite 3 none 1 := ⟨zin_31 _ (List.mem_of_getElem? (i := 6) rfl), zin_13 _ (List.mem_of_getElem? (i := 19) rfl), zin_13 _ (List.mem_of_getElem? (i := 20) rfl), zin_2 _ (List.mem_of_getElem? (i := 10) rfl), zin_13 _ (List.mem_of_getElem? (i := 21) rfl), ⟨by decide +kernel, by decide +kernel, by decide +kernel⟩⟩
theorem lv_X8_191 : zLV RX8 191 yX1_restore cX1_restore 3 none 1 := ⟨zin_31 _ (List.mem_of_getElem? (i := 23) rfl), zin_32 _ (List.mem_of_getElem? (i := 0) rfl), zin_32 _ (List.mem_of_getElem? (i := 1) rfl), zin_1 _ (List.mem_of_getElem? (i := 18) rfl), zin_32 _ (List.mem_of_getElem? (i := 2) rfl), ⟨by decide +kernel, by decide +kernel, by decide +kernel⟩⟩
theorem lv_X8_194 : zLV RX8 194 yX6_append cX6_append 2 (some .boolean) 1 := ⟨zin_32 _ (List.mem_of_getElem? (i := 15) rfl), zin_32 _ (List.mem_of_getElem? (i := 16) rfl), zin_32 _ (List.mem_of_getElem? (i := 17) rfl), zin_1 _ (List.mem_of_getElem? (i := 22) rfl), zin_32 _ (List.mem_of_getElem? (i := 18) rfl), ⟨by decide +kernel, by decide +kernel, by decide +kernel⟩⟩
theorem lv_X8_198 : zLV RX8 198 yX6_empty cX6_empty 2 (some .int) 0 := ⟨zin_33 _ (List.mem_of_getElem? (i := 4) rfl), zin_33 _ (List.mem_of_getElem? (i := 5) rfl), zin_33 _ (List.mem_of_getElem? (i := 6) rfl), zin_1 _ (List.mem_of_getElem? (i := 22) rfl), zin_33 _ (List.mem_of_getElem? (i := 7) rfl), ⟨by decide +kernel, by decide +kernel, by decide +kernel⟩⟩
theorem lv_X8_201 : zLV RX8 201 yX7_run cX7_run 4 none 2 := ⟨zin_33 _ (List.mem_of_getElem? (i := 19) rfl), zin_33 _ (List.mem_of_getElem? (i := 20) rfl), zin_33 _ (List.mem_of_getElem? (i := 21) rfl), zin_2 _ (List.mem_of_getElem? (i := 6) rfl), zin_33 _ (List.mem_of_getElem? (i := 22) rfl), ⟨by decide +kernel, by decide +kernel, by decide +kernel⟩⟩
theorem lv_X8_217 : zLV RX8 217 yX4_copyFrom cX4_copyFrom 5 none 1 := ⟨zin_36 _ (List.mem_of_getElem? (i := 20) rfl), zin_7 _ (List.mem_of_getElem? (i := 23) rfl), zin_8 _ (List.mem_of_getElem? (i := 0) rfl), zin_1 _ (List.mem_of_getElem? (i := 14) rfl), zin_8 _ (List.mem_of_getElem? (i := 1) rfl), ⟨by decide +kernel, by decide +kernel, by decide +kernel⟩⟩
theorem lv_X8_51 : zLV RX8 51 yX0_put cX0_put 4 none 3 := ⟨zin_5 _ (List.mem_of_getElem? (i := 10) rfl), zin_5 _ (List.mem_of_getElem? (i := 11) rfl), zin_5 _ (List.mem_of_getElem? (i := 12) rfl), zin_2 _ (List.mem_of_getElem? (i := 2) rfl), zin_5 _ (List.mem_of_getElem? (i := 13) rfl), ⟨by decide +kernel, by decide +kernel, by decide +kernel⟩⟩
theorem lv_X8_55 : zLV RX8 55 yX8_change cX8_change 2 (some .int) 0 := ⟨zin_5 _ (List.mem_of_getElem? (i := 15) rfl), zin_5 _ (List.mem_of_getElem? (i := 16) rfl), zin_5 _ (List.mem_of_getElem? (i := 17) rfl), zin_1 _ (List.mem_of_getElem? (i := 2) rfl), zin_5 _ (List.mem_of_getElem? (i := 18) rfl), ⟨by decide +kernel, by decide +kernel, by decide +kernel⟩⟩
theorem lv_X8_59 : zLV RX8 59 yX0_putMore cX0_putMore 3 none 2 := ⟨zin_19 _ (List.mem_of_getElem? (i := 16) rfl), zin_19 _ (List.mem_of_getElem? (i := 17) rfl), zin_19 _ (List.mem_of_getElem? (i := 18) rfl), zin_2 _ (List.mem_of_getElem? (i := 2) rfl), zin_19 _ (List.mem_of_getElem? (i := 19) rfl), ⟨by decide +kernel, by decide +kernel, by decide +kernel⟩⟩
theorem lv_X8_63 : zLV RX8 63 yX4_refusalOf cX4_refusalOf 4 (some .int) 1 := ⟨zin_5 _ (List.mem_of_getElem? (i := 19) rfl), zin_5 _ (List.mem_of_getElem? (i := 20) rfl), zin_5 _ (List.mem_of_getElem? (i := 21) rfl), zin_1 _ (List.mem_of_getElem? (i := 14) rfl), zin_5 _ (List.mem_of_getElem? (i := 22) rfl), ⟨by decide +kernel, by decide +kernel, by decide +kernel⟩⟩
theorem lv_X8_67 : zLV RX8 67 yX1_record cX1_record 3 none 1 := ⟨zin_7 _ (List.mem_of_getElem? (i := 9) rfl), zin_7 _ (List.mem_of_getElem? (i := 10) rfl), zin_7 _ (List.mem_of_getElem? (i := 11) rfl), zin_1 _ (List.mem_of_getElem? (i := 18) rfl), zin_7 _ (List.mem_of_getElem? (i := 12) rfl), ⟨by decide +kernel, by decide +kernel, by decide +kernel⟩⟩
theorem lv_X8_71 : zLV RX8 71 yX4_carryOut cX4_carryOut 4 (some .int) 1 := ⟨zin_9 _ (List.mem_of_getElem? (i := 2) rfl), zin_9 _ (List.mem_of_getElem? (i := 3) rfl), zin_9 _ (List.mem_of_getElem? (i := 4) rfl), zin_1 _ (List.mem_of_getElem? (i := 14) rfl), zin_9 _ (List.mem_of_getElem? (i := 5) rfl), ⟨by decide +kernel, by decide +kernel, by decide +kernel⟩⟩
theorem lv_X8_74 : zLV RX8 74 yX4_find cX4_find 2 (some (.object "RoughTables$Table")) 1 := ⟨zin_21 _ (List.mem_of_getElem? (i := 15) rfl), zin_6 _ (List.mem_of_getElem? (i := 17) rfl), zin_6 _ (List.mem_of_getElem? (i := 18) rfl), zin_1 _ (List.mem_of_getElem? (i := 14) rfl), zin_6 _ (List.mem_of_getElem? (i := 19) rfl), ⟨by decide +kernel, by decide +kernel, by decide +kernel⟩⟩
theorem lv_X8_82 : zLV RX8 82 yX5_property cX5_property 2 (some .int) 1 := ⟨zin_21 _ (List.mem_of_getElem? (i := 17) rfl), zin_21 _ (List.mem_of_getElem? (i := 18) rfl), zin_21 _ (List.mem_of_getElem? (i := 19) rfl), zin_2 _ (List.mem_of_getElem? (i := 23) rfl), zin_21 _ (List.mem_of_getElem? (i := 20) rfl), ⟨by decide +kernel, by decide +kernel, by decide +kernel⟩⟩
theorem lv_X8_91 : zLV RX8 91 yX3_partAt cX3_partAt 2 (some .int) 1 := ⟨zin_22 _ (List.mem_of_getElem? (i := 19) rfl), zin_22 _ (List.mem_of_getElem? (i := 20) rfl), zin_22 _ (List.mem_of_getElem? (i := 21) rfl), zin_2 _ (List.mem_of_getElem? (i := 10) rfl), zin_22 _ (List.mem_of_getElem? (i := 22) rfl), ⟨by decide +kernel, by decide +kernel, by decide +kernel⟩⟩
theorem lv_X8_94 : zLV RX8 94 yX5_thingAt cX5_thingAt 4 (some .int) 1 := ⟨zin_23 _ (List.mem_of_getElem? (i := 7) rfl), zin_23 _ (List.mem_of_getElem? (i := 8) rfl), zin_23 _ (List.mem_of_getElem? (i := 9) rfl), zin_2 _ (List.mem_of_getElem? (i := 23) rfl), zin_23 _ (List.mem_of_getElem? (i := 10) rfl), ⟨by decide +kernel, by decide +kernel, by decide +kernel⟩⟩
theorem lv_X8_97 : zLV RX8 97 yX5_timeOf cX5_timeOf 2 (some .int) 1 := ⟨zin_23 _ (List.mem_of_getElem? (i := 11) rfl), zin_23 _ (List.mem_of_getElem? (i := 12) rfl), zin_23 _ (List.mem_of_getElem? (i := 13) rfl), zin_2 _ (List.mem_of_getElem? (i := 23) rfl), zin_23 _ (List.mem_of_getElem? (i := 14) rfl), ⟨by decide +kernel, by decide +kernel, by decide +kernel⟩⟩
theorem lv_X9_104 : zLV RX9 104 yX9_forgets cX9_forgets 3 none 1 := ⟨zin_15 _ (List.mem_of_getElem? (i := 10) rfl), zin_15 _ (List.mem_of_getElem? (i := 11) rfl), zin_15 _ (List.mem_of_getElem? (i := 12) rfl), zin_1 _ (List.mem_of_getElem? (i := 5) rfl), zin_15 _ (List.mem_of_getElem? (i := 13) rfl), ⟨by decide +kernel, by decide +kernel, by decide +kernel⟩⟩
theorem lv_X9_113 : zLV RX9 113 yX9_added cX9_added 5 (some .int) 2 := ⟨zin_18 _ (List.mem_of_getElem? (i := 0) rfl), zin_18 _ (List.mem_of_getElem? (i := 1) rfl), zin_18 _ (List.mem_of_getElem? (i := 2) rfl), zin_1 _ (List.mem_of_getElem? (i := 5) rfl), zin_18 _ (List.mem_of_getElem? (i := 3) rfl), ⟨by decide +kernel, by decide +kernel, by decide +kernel⟩⟩
theorem lv_X9_116 : zLV RX9 116 yX9_isTable cX9_isTable 2 (some .boolean) 1 := ⟨zin_16 _ (List.mem_of_getElem? (i := 20) rfl), zin_16 _ (List.mem_of_getElem? (i := 21) rfl), zin_16 _ (List.mem_of_getElem? (i := 22) rfl), zin_1 _ (List.mem_of_getElem? (i := 5) rfl), zin_16 _ (List.mem_of_getElem? (i := 23) rfl), ⟨by decide +kernel, by decide +kernel, by decide +kernel⟩⟩
theorem lv_X9_123 : zLV RX9 123 yX9_sees cX9_sees 5 none 2 := ⟨zin_17 _ (List.mem_of_getElem? (i := 3) rfl), zin_17 _ (List.mem_of_getElem? (i := 4) rfl), zin_17 _ (List.mem_of_getElem? (i := 5) rfl), zin_1 _ (List.mem_of_getElem? (i := 5) rfl), zin_17 _ (List.mem_of_getElem? (i := 6) rfl), ⟨by decide +kernel, by decide +kernel, by decide +kernel⟩⟩
theorem lv_X9_127 : zLV RX9 127 yX9_areAlike cX9_areAlike 3 (some .boolean) 2 := ⟨zin_20 _ (List.mem_of_getElem? (i := 12) rfl), zin_20 _ (List.mem_of_getElem? (i := 13) rfl), zin_20 _ (List.mem_of_getElem? (i := 14) rfl), zin_1 _ (List.mem_of_getElem? (i := 5) rfl), zin_20 _ (List.mem_of_getElem? (i := 15) rfl), ⟨by decide +kernel, by decide +kernel, by decide +kernel⟩⟩
theorem lv_X9_135 : zLV RX9 135 yX9_swap cX9_swap 3 none 0 := ⟨zin_15 _ (List.mem_of_getElem? (i := 18) rfl), zin_15 _ (List.mem_of_getElem? (i := 19) rfl), zin_15 _ (List.mem_of_getElem? (i := 20) rfl), zin_1 _ (List.mem_of_getElem? (i := 5) rfl), zin_15 _ (List.mem_of_getElem? (i := 21) rfl), ⟨by decide +kernel, by decide +kernel, by decide +kernel⟩⟩
theorem lv_X9_138 : zLV RX9 138 yX9_records cX9_records 1 none 0 := ⟨zin_15 _ (List.mem_of_getElem? (i := 22) rfl), zin_15 _ (List.mem_of_getElem? (i := 23) rfl), zin_16 _ (List.mem_of_getElem? (i := 0) rfl), zin_1 _ (List.mem_of_getElem? (i := 5) rfl), zin_16 _ (List.mem_of_getElem? (i := 1) rfl), ⟨by decide +kernel, by decide +kernel, by decide +kernel⟩⟩
theorem lv_X9_141 : zLV RX9 141 yX9_makeTable cX9_makeTable 5 (some .int) 2 := ⟨zin_15 _ (List.mem_of_getElem? (i := 3) rfl), zin_15 _ (List.mem_of_getElem? (i := 4) rfl), zin_15 _ (List.mem_of_getElem? (i := 5) rfl), zin_1 _ (List.mem_of_getElem? (i := 5) rfl), zin_15 _ (List.mem_of_getElem? (i := 6) rfl), ⟨by decide +kernel, by decide +kernel, by decide +kernel⟩⟩
theorem lv_X9_144 : zLV RX9 144 yX9_ends cX9_ends 3 (some .int) 1 := ⟨zin_15 _ (List.mem_of_getElem? (i := 14) rfl), zin_15 _ (List.mem_of_getElem? (i := 15) rfl), zin_15 _ (List.mem_of_getElem? (i := 16) rfl), zin_1 _ (List.mem_of_getElem? (i := 5) rfl), zin_15 _ (List.mem_of_getElem? (i := 17) rfl), ⟨by decide +kernel, by decide +kernel, by decide +kernel⟩⟩
theorem lv_X9_147 : zLV RX9 147 yX9_seesRow cX9_seesRow 7 (some .int) 4 := ⟨zin_16 _ (List.mem_of_getElem? (i := 16) rfl), zin_16 _ (List.mem_of_getElem? (i := 17) rfl), zin_16 _ (List.mem_of_getElem? (i := 18) rfl), zin_1 _ (List.mem_of_getElem? (i := 5) rfl), zin_16 _ (List.mem_of_getElem? (i := 19) rfl), ⟨by decide +kernel, by decide +kernel, by decide +kernel⟩⟩
theorem lv_X9_151 : zLV RX9 151 yX9_mergesInto cX9_mergesInto 6 (some .int) 2 := ⟨zin_20 _ (List.mem_of_getElem? (i := 8) rfl), zin_20 _ (List.mem_of_getElem? (i := 9) rfl), zin_20 _ (List.mem_of_getElem? (i := 10) rfl), zin_1 _ (List.mem_of_getElem? (i := 5) rfl), zin_20 _ (List.mem_of_getElem? (i := 11) rfl), ⟨by decide +kernel, by decide +kernel, by decide +kernel⟩⟩
theorem lv_X9_154 : zLV RX9 154 yX9_resetsOne cX9_resetsOne 5 (some .int) 1 := ⟨zin_21 _ (List.mem_of_getElem? (i := 3) rfl), zin_21 _ (List.mem_of_getElem? (i := 4) rfl), zin_21 _ (List.mem_of_getElem? (i := 5) rfl), zin_1 _ (List.mem_of_getElem? (i := 5) rfl), zin_21 _ (List.mem_of_getElem? (i := 6) rfl), ⟨by decide +kernel, by decide +kernel, by decide +kernel⟩⟩
theorem lv_X9_157 : zLV RX9 157 yX9_error cX9_error 2 (some .int) 1 := ⟨zin_22 _ (List.mem_of_getElem? (i := 10) rfl), zin_22 _ (List.mem_of_getElem? (i := 11) rfl), zin_22 _ (List.mem_of_getElem? (i := 12) rfl), zin_1 _ (List.mem_of_getElem? (i := 5) rfl), zin_22 _ (List.mem_of_getElem? (i := 13) rfl), ⟨by decide +kernel, by decide +kernel, by decide +kernel⟩⟩
theorem lv_X9_160 : zLV RX9 160 yX9_laysMix cX9_laysMix 3 none 1 := ⟨zin_25 _ (List.mem_of_getElem? (i := 2) rfl), zin_25 _ (List.mem_of_getElem? (i := 3) rfl), zin_25 _ (List.mem_of_getElem? (i := 4) rfl), zin_1 _ (List.mem_of_getElem? (i := 5) rfl), zin_25 _ (List.mem_of_getElem? (i := 5) rfl), ⟨by decide +kernel, by decide +kernel, by decide +kernel⟩⟩
theorem lv_X9_163 : zLV RX9 163 yX9_couldHave cX9_couldHave 5 (some .boolean) 2 := ⟨zin_24 _ (List.mem_of_getElem? (i := 22) rfl), zin_24 _ (List.mem_of_getElem? (i := 23) rfl), zin_25 _ (List.mem_of_getElem? (i := 0) rfl), zin_1 _ (List.mem_of_getElem? (i := 5) rfl), zin_25 _ (List.mem_of_getElem? (i := 1) rfl), ⟨by decide +kernel, by decide +kernel, by decide +kernel⟩⟩
theorem lv_X9_166 : zLV RX9 166 yX9_seenBy cX9_seenBy 6 (some .int) 1 := ⟨zin_27 _ (List.mem_of_getElem? (i := 3) rfl), zin_27 _ (List.mem_of_getElem? (i := 4) rfl), zin_27 _ (List.mem_of_getElem? (i := 5) rfl), zin_1 _ (List.mem_of_getElem? (i := 5) rfl), zin_27 _ (List.mem_of_getElem? (i := 6) rfl), ⟨by decide +kernel, by decide +kernel, by decide +kernel⟩⟩
theorem lv_X9_170 : zLV RX9 170 yX9_rightOnes cX9_rightOnes 3 (some .int) 0 := ⟨zin_27 _ (List.mem_of_getElem? (i := 7) rfl), zin_27 _ (List.mem_of_getElem? (i := 8) rfl), zin_27 _ (List.mem_of_getElem? (i := 9) rfl), zin_1 _ (List.mem_of_getElem? (i := 5) rfl), zin_27 _ (List.mem_of_getElem? (i := 10) rfl), ⟨by decide +kernel, by decide +kernel, by decide +kernel⟩⟩
theorem lv_X9_183 : zLV RX9 183 yX9_amount cX9_amount 3 (some .int) 1 := ⟨zin_29 _ (List.mem_of_getElem? (i := 11) rfl), zin_29 _ (List.mem_of_getElem? (i := 12) rfl), zin_29 _ (List.mem_of_getElem? (i := 13) rfl), zin_1 _ (List.mem_of_getElem? (i := 5) rfl), zin_29 _ (List.mem_of_getElem? (i := 14) rfl), ⟨by decide +kernel, by decide +kernel, by decide +kernel⟩⟩
theorem lv_X9_186 : zLV RX9 186 yX9_seenByBoth cX9_seenByBoth 7 (some .int) 3 := ⟨zin_31 _ (List.mem_of_getElem? (i := 11) rfl), zin_31 _ (List.mem_of_getElem? (i := 12) rfl), zin_31 _ (List.mem_of_getElem? (i := 13) rfl), zin_1 _ (List.mem_of_getElem? (i := 5) rfl), zin_31 _ (List.mem_of_getElem? (i := 14) rfl), ⟨by decide +kernel, by decide +kernel, by decide +kernel⟩⟩
theorem lv_X9_190 : zLV RX9 190 yX9_toldOfBoth cX9_toldOfBoth 3 (some .int) 2 := ⟨zin_31 _ (List.mem_of_getElem? (i := 15) rfl), zin_31 _ (List.mem_of_getElem? (i := 16) rfl), zin_31 _ (List.mem_of_getElem? (i := 17) rfl), zin_1 _ (List.mem_of_getElem? (i := 5) rfl), zin_31 _ (List.mem_of_getElem? (i := 18) rfl), ⟨by decide +kernel, by decide +kernel, by decide +kernel⟩⟩
theorem lv_X9_193 : zLV RX9 193 yX9_brings cX9_brings 2 none 1 := ⟨zin_32 _ (List.mem_of_getElem? (i := 7) rfl), zin_32 _ (List.mem_of_getElem? (i := 8) rfl), zin_32 _ (List.mem_of_getElem? (i := 9) rfl), zin_1 _ (List.mem_of_getElem? (i := 5) rfl), zin_32 _ (List.mem_of_getElem? (i := 10) rfl), ⟨by decide +kernel, by decide +kernel, by decide +kernel⟩⟩
theorem lv_X9_203 : zLV RX9 203 yX9_here cX9_here 1 (some .int) 0 := ⟨zin_36 _ (List.mem_of_getElem? (i := 2) rfl), zin_36 _ (List.mem_of_getElem? (i := 3) rfl), zin_36 _ (List.mem_of_getElem? (i := 4) rfl), zin_1 _ (List.mem_of_getElem? (i := 5) rfl), zin_36 _ (List.mem_of_getElem? (i := 5) rfl), ⟨by decide +kernel, by decide +kernel, by decide +kernel⟩⟩
theorem lv_X9_206 : zLV RX9 206 yX9_must cX9_must 2 none 1 := ⟨zin_36 _ (List.mem_of_getElem? (i := 10) rfl), zin_36 _ (List.mem_of_getElem? (i := 11) rfl), zin_36 _ (List.mem_of_getElem? (i := 12) rfl), zin_1 _ (List.mem_of_getElem? (i := 5) rfl), zin_36 _ (List.mem_of_getElem? (i := 13) rfl), ⟨by decide +kernel, by decide +kernel, by decide +kernel⟩⟩
theorem lv_X9_209 : zLV RX9 209 yX9_number cX9_number 4 (some .int) 1 := ⟨zin_36 _ (List.mem_of_getElem? (i := 6) rfl), zin_36 _ (List.mem_of_getElem? (i := 7) rfl), zin_36 _ (List.mem_of_getElem? (i := 8) rfl), zin_1 _ (List.mem_of_getElem? (i := 5) rfl), zin_36 _ (List.mem_of_getElem? (i := 9) rfl), ⟨by decide +kernel, by decide +kernel, by decide +kernel⟩⟩
theorem lv_X9_212 : zLV RX9 212 yX9_command cX9_command 6 (some .int) 0 := ⟨zin_35 _ (List.mem_of_getElem? (i := 22) rfl), zin_35 _ (List.mem_of_getElem? (i := 23) rfl), zin_36 _ (List.mem_of_getElem? (i := 0) rfl), zin_1 _ (List.mem_of_getElem? (i := 5) rfl), zin_36 _ (List.mem_of_getElem? (i := 1) rfl), ⟨by decide +kernel, by decide +kernel, by decide +kernel⟩⟩
theorem lv_X9_221 : zLV RX9 221 yX9_does cX9_does 4 (some .int) 0 := ⟨zin_35 _ (List.mem_of_getElem? (i := 16) rfl), zin_35 _ (List.mem_of_getElem? (i := 17) rfl), zin_35 _ (List.mem_of_getElem? (i := 18) rfl), zin_1 _ (List.mem_of_getElem? (i := 5) rfl), zin_35 _ (List.mem_of_getElem? (i := 19) rfl), ⟨by decide +kernel, by decide +kernel, by decide +kernel⟩⟩
theorem lv_X9_45 : zLV RX9 45 yX9_lays cX9_lays 2 none 1 := ⟨zin_16 _ (List.mem_of_getElem? (i := 4) rfl), zin_16 _ (List.mem_of_getElem? (i := 5) rfl), zin_16 _ (List.mem_of_getElem? (i := 6) rfl), zin_1 _ (List.mem_of_getElem? (i := 5) rfl), zin_16 _ (List.mem_of_getElem? (i := 7) rfl), ⟨by decide +kernel, by decide +kernel, by decide +kernel⟩⟩
theorem lv_X9_95 : zLV RX9 95 yX9_toldOf cX9_toldOf 2 (some .int) 1 := ⟨zin_18 _ (List.mem_of_getElem? (i := 6) rfl), zin_18 _ (List.mem_of_getElem? (i := 7) rfl), zin_18 _ (List.mem_of_getElem? (i := 8) rfl), zin_1 _ (List.mem_of_getElem? (i := 5) rfl), zin_18 _ (List.mem_of_getElem? (i := 9) rfl), ⟨by decide +kernel, by decide +kernel, by decide +kernel⟩⟩
theorem lv_X9_98 : zLV RX9 98 yX9_exact cX9_exact 2 (some .int) 1 := ⟨zin_21 _ (List.mem_of_getElem? (i := 7) rfl), zin_21 _ (List.mem_of_getElem? (i := 8) rfl), zin_21 _ (List.mem_of_getElem? (i := 9) rfl), zin_1 _ (List.mem_of_getElem? (i := 5) rfl), zin_21 _ (List.mem_of_getElem? (i := 10) rfl), ⟨by decide +kernel, by decide +kernel, by decide +kernel⟩⟩
end

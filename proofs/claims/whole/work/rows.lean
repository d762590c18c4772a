section
-- ===== PART A: goes FIRST, ahead of the names: the tables' words, and 'selects' of the private methods out of them =====
/-- a private method of a class that the tables say can be made, by its rows of tables_1 -/
def lw_okq (q : MethodName × Nat) : Prop := (q.1.cls ≠ "java/lang/invoke/MethodHandle" ∧ q.1.cls ≠ "java/lang/invoke/VarHandle") ∧ Cond.instantiable q.1.cls q.2 ∈ tables_1 ∧ Cond.privateMethod q.1 ∈ tables_1 ∧ Cond.instanceMethod q.1 ∈ tables_1
theorem lw_p0 : lw_okq (⟨"PackStore$Item", "hasRisingNames", "()Z"⟩, 3) := ⟨⟨by decide +kernel, by decide +kernel⟩, List.mem_of_getElem? (i := 46) (by decide +kernel), List.mem_of_getElem? (i := 345) (by decide +kernel), List.mem_of_getElem? (i := 346) (by decide +kernel)⟩
theorem lw_p1 : lw_okq (⟨"PackStore", "isLedTo", "(I)Z"⟩, 11) := ⟨⟨by decide +kernel, by decide +kernel⟩, List.mem_of_getElem? (i := 17) (by decide +kernel), List.mem_of_getElem? (i := 403) (by decide +kernel), List.mem_of_getElem? (i := 404) (by decide +kernel)⟩
theorem lw_p2 : lw_okq (⟨"PackStore$Closure", "mark", "(I)V"⟩, 3) := ⟨⟨by decide +kernel, by decide +kernel⟩, List.mem_of_getElem? (i := 89) (by decide +kernel), List.mem_of_getElem? (i := 436) (by decide +kernel), List.mem_of_getElem? (i := 437) (by decide +kernel)⟩
theorem lw_p3 : lw_okq (⟨"PackStore$Closure", "markNamed", "(LPackStore$Shelf;LPackStore$Item;)Z"⟩, 3) := ⟨⟨by decide +kernel, by decide +kernel⟩, List.mem_of_getElem? (i := 89) (by decide +kernel), List.mem_of_getElem? (i := 441) (by decide +kernel), List.mem_of_getElem? (i := 442) (by decide +kernel)⟩
theorem lw_p4 : lw_okq (⟨"PackStore$PackWriter", "pick", "(ILPackStore$Closure;LPackStore$Closure;)V"⟩, 8) := ⟨⟨by decide +kernel, by decide +kernel⟩, List.mem_of_getElem? (i := 106) (by decide +kernel), List.mem_of_getElem? (i := 455) (by decide +kernel), List.mem_of_getElem? (i := 456) (by decide +kernel)⟩
theorem lw_p5 : lw_okq (⟨"PackStore$PackWriter", "writeEntry", "(I)V"⟩, 8) := ⟨⟨by decide +kernel, by decide +kernel⟩, List.mem_of_getElem? (i := 106) (by decide +kernel), List.mem_of_getElem? (i := 471) (by decide +kernel), List.mem_of_getElem? (i := 472) (by decide +kernel)⟩
theorem lw_p6 : lw_okq (⟨"PackStore$PackWriter", "writeByBack", "(LPackStore$Item;LPackStore$Item;I)V"⟩, 8) := ⟨⟨by decide +kernel, by decide +kernel⟩, List.mem_of_getElem? (i := 106) (by decide +kernel), List.mem_of_getElem? (i := 497) (by decide +kernel), List.mem_of_getElem? (i := 498) (by decide +kernel)⟩
theorem lw_p7 : lw_okq (⟨"PackStore$PackWriter", "keepIfShorter", "()V"⟩, 8) := ⟨⟨by decide +kernel, by decide +kernel⟩, List.mem_of_getElem? (i := 106) (by decide +kernel), List.mem_of_getElem? (i := 524) (by decide +kernel), List.mem_of_getElem? (i := 525) (by decide +kernel)⟩
theorem lw_p8 : lw_okq (⟨"PackStore$PackReader", "isNext", "(I)Z"⟩, 6) := ⟨⟨by decide +kernel, by decide +kernel⟩, List.mem_of_getElem? (i := 139) (by decide +kernel), List.mem_of_getElem? (i := 538) (by decide +kernel), List.mem_of_getElem? (i := 539) (by decide +kernel)⟩
theorem lw_p9 : lw_okq (⟨"PackStore$PackReader", "next", "(II)I"⟩, 6) := ⟨⟨by decide +kernel, by decide +kernel⟩, List.mem_of_getElem? (i := 139) (by decide +kernel), List.mem_of_getElem? (i := 542) (by decide +kernel), List.mem_of_getElem? (i := 543) (by decide +kernel)⟩
theorem lw_p10 : lw_okq (⟨"PackStore$PackReader", "readEntries", "()Z"⟩, 6) := ⟨⟨by decide +kernel, by decide +kernel⟩, List.mem_of_getElem? (i := 139) (by decide +kernel), List.mem_of_getElem? (i := 547) (by decide +kernel), List.mem_of_getElem? (i := 548) (by decide +kernel)⟩
theorem lw_p11 : lw_okq (⟨"PackStore$PackReader", "readHead", "(LPackStore$Entry;)Z"⟩, 6) := ⟨⟨by decide +kernel, by decide +kernel⟩, List.mem_of_getElem? (i := 139) (by decide +kernel), List.mem_of_getElem? (i := 551) (by decide +kernel), List.mem_of_getElem? (i := 552) (by decide +kernel)⟩
theorem lw_p12 : lw_okq (⟨"PackStore$PackReader", "failAtLast", "()Z"⟩, 6) := ⟨⟨by decide +kernel, by decide +kernel⟩, List.mem_of_getElem? (i := 139) (by decide +kernel), List.mem_of_getElem? (i := 559) (by decide +kernel), List.mem_of_getElem? (i := 560) (by decide +kernel)⟩
theorem lw_p13 : lw_okq (⟨"PackStore$PackReader", "readBase", "(LPackStore$Entry;)Z"⟩, 6) := ⟨⟨by decide +kernel, by decide +kernel⟩, List.mem_of_getElem? (i := 139) (by decide +kernel), List.mem_of_getElem? (i := 567) (by decide +kernel), List.mem_of_getElem? (i := 568) (by decide +kernel)⟩
theorem lw_p14 : lw_okq (⟨"PackStore$PackReader", "entryAt", "(I)I"⟩, 6) := ⟨⟨by decide +kernel, by decide +kernel⟩, List.mem_of_getElem? (i := 139) (by decide +kernel), List.mem_of_getElem? (i := 571) (by decide +kernel), List.mem_of_getElem? (i := 572) (by decide +kernel)⟩
theorem lw_p15 : lw_okq (⟨"PackStore$PackReader", "readRuns", "(LPackStore$Entry;)Z"⟩, 6) := ⟨⟨by decide +kernel, by decide +kernel⟩, List.mem_of_getElem? (i := 139) (by decide +kernel), List.mem_of_getElem? (i := 575) (by decide +kernel), List.mem_of_getElem? (i := 576) (by decide +kernel)⟩
def lw_privs_1 : List (MethodName × Nat) := [(⟨"PackStore$Item", "hasRisingNames", "()Z"⟩, 3), (⟨"PackStore", "isLedTo", "(I)Z"⟩, 11), (⟨"PackStore$Closure", "mark", "(I)V"⟩, 3), (⟨"PackStore$Closure", "markNamed", "(LPackStore$Shelf;LPackStore$Item;)Z"⟩, 3), (⟨"PackStore$PackWriter", "pick", "(ILPackStore$Closure;LPackStore$Closure;)V"⟩, 8), (⟨"PackStore$PackWriter", "writeEntry", "(I)V"⟩, 8), (⟨"PackStore$PackWriter", "writeByBack", "(LPackStore$Item;LPackStore$Item;I)V"⟩, 8), (⟨"PackStore$PackWriter", "keepIfShorter", "()V"⟩, 8), (⟨"PackStore$PackReader", "isNext", "(I)Z"⟩, 6), (⟨"PackStore$PackReader", "next", "(II)I"⟩, 6), (⟨"PackStore$PackReader", "readEntries", "()Z"⟩, 6), (⟨"PackStore$PackReader", "readHead", "(LPackStore$Entry;)Z"⟩, 6), (⟨"PackStore$PackReader", "failAtLast", "()Z"⟩, 6), (⟨"PackStore$PackReader", "readBase", "(LPackStore$Entry;)Z"⟩, 6), (⟨"PackStore$PackReader", "entryAt", "(I)I"⟩, 6), (⟨"PackStore$PackReader", "readRuns", "(LPackStore$Entry;)Z"⟩, 6)]
theorem lw_r1 : ∀ q ∈ lw_privs_1, lw_okq q := List.forall_mem_cons.mpr ⟨lw_p0, List.forall_mem_cons.mpr ⟨lw_p1, List.forall_mem_cons.mpr ⟨lw_p2, List.forall_mem_cons.mpr ⟨lw_p3, List.forall_mem_cons.mpr ⟨lw_p4, List.forall_mem_cons.mpr ⟨lw_p5, List.forall_mem_cons.mpr ⟨lw_p6, List.forall_mem_cons.mpr ⟨lw_p7, List.forall_mem_cons.mpr ⟨lw_p8, List.forall_mem_cons.mpr ⟨lw_p9, List.forall_mem_cons.mpr ⟨lw_p10, List.forall_mem_cons.mpr ⟨lw_p11, List.forall_mem_cons.mpr ⟨lw_p12, List.forall_mem_cons.mpr ⟨lw_p13, List.forall_mem_cons.mpr ⟨lw_p14, List.forall_mem_cons.mpr ⟨lw_p15, fun _ h => absurd h List.not_mem_nil⟩⟩⟩⟩⟩⟩⟩⟩⟩⟩⟩⟩⟩⟩⟩⟩
theorem lw_p16 : lw_okq (⟨"PackStore$PackReader", "readRun", "(LPackStore$Row;IZ)Z"⟩, 6) := ⟨⟨by decide +kernel, by decide +kernel⟩, List.mem_of_getElem? (i := 139) (by decide +kernel), List.mem_of_getElem? (i := 583) (by decide +kernel), List.mem_of_getElem? (i := 584) (by decide +kernel)⟩
theorem lw_p17 : lw_okq (⟨"PackStore$PackReader", "readHash", "()Z"⟩, 6) := ⟨⟨by decide +kernel, by decide +kernel⟩, List.mem_of_getElem? (i := 139) (by decide +kernel), List.mem_of_getElem? (i := 588) (by decide +kernel), List.mem_of_getElem? (i := 589) (by decide +kernel)⟩
theorem lw_p18 : lw_okq (⟨"PackStore$PackReader", "readEnd", "()Z"⟩, 6) := ⟨⟨by decide +kernel, by decide +kernel⟩, List.mem_of_getElem? (i := 139) (by decide +kernel), List.mem_of_getElem? (i := 593) (by decide +kernel), List.mem_of_getElem? (i := 594) (by decide +kernel)⟩
theorem lw_p19 : lw_okq (⟨"PackStore$PackReader", "workRound", "()I"⟩, 6) := ⟨⟨by decide +kernel, by decide +kernel⟩, List.mem_of_getElem? (i := 139) (by decide +kernel), List.mem_of_getElem? (i := 612) (by decide +kernel), List.mem_of_getElem? (i := 613) (by decide +kernel)⟩
theorem lw_p20 : lw_okq (⟨"PackStore$PackReader", "baseOf", "(LPackStore$Entry;)LPackStore$Item;"⟩, 6) := ⟨⟨by decide +kernel, by decide +kernel⟩, List.mem_of_getElem? (i := 139) (by decide +kernel), List.mem_of_getElem? (i := 616) (by decide +kernel), List.mem_of_getElem? (i := 617) (by decide +kernel)⟩
theorem lw_p21 : lw_okq (⟨"PackStore$PackReader", "isClashing", "(I)Z"⟩, 6) := ⟨⟨by decide +kernel, by decide +kernel⟩, List.mem_of_getElem? (i := 139) (by decide +kernel), List.mem_of_getElem? (i := 638) (by decide +kernel), List.mem_of_getElem? (i := 639) (by decide +kernel)⟩
theorem lw_p22 : lw_okq (⟨"PackStore$PackReader", "isNew", "(I)Z"⟩, 6) := ⟨⟨by decide +kernel, by decide +kernel⟩, List.mem_of_getElem? (i := 139) (by decide +kernel), List.mem_of_getElem? (i := 651) (by decide +kernel), List.mem_of_getElem? (i := 652) (by decide +kernel)⟩
theorem lw_p23 : lw_okq (⟨"PackStore", "itemOn", "(II)LPackStore$Item;"⟩, 11) := ⟨⟨by decide +kernel, by decide +kernel⟩, List.mem_of_getElem? (i := 17) (by decide +kernel), List.mem_of_getElem? (i := 674) (by decide +kernel), List.mem_of_getElem? (i := 675) (by decide +kernel)⟩
theorem lw_p24 : lw_okq (⟨"PackStore", "shelfOf", "(I)LPackStore$Shelf;"⟩, 11) := ⟨⟨by decide +kernel, by decide +kernel⟩, List.mem_of_getElem? (i := 17) (by decide +kernel), List.mem_of_getElem? (i := 678) (by decide +kernel), List.mem_of_getElem? (i := 679) (by decide +kernel)⟩
theorem lw_p25 : lw_okq (⟨"PackStoreModel", "idOf", "(I)I"⟩, 25) := ⟨⟨by decide +kernel, by decide +kernel⟩, List.mem_of_getElem? (i := 703) (by decide +kernel), List.mem_of_getElem? (i := 812) (by decide +kernel), List.mem_of_getElem? (i := 813) (by decide +kernel)⟩
theorem lw_p26 : lw_okq (⟨"PackStoreModel", "find", "(II)I"⟩, 25) := ⟨⟨by decide +kernel, by decide +kernel⟩, List.mem_of_getElem? (i := 703) (by decide +kernel), List.mem_of_getElem? (i := 820) (by decide +kernel), List.mem_of_getElem? (i := 821) (by decide +kernel)⟩
theorem lw_p27 : lw_okq (⟨"PackStoreModel", "wellFormed", "(I)Z"⟩, 25) := ⟨⟨by decide +kernel, by decide +kernel⟩, List.mem_of_getElem? (i := 703) (by decide +kernel), List.mem_of_getElem? (i := 827) (by decide +kernel), List.mem_of_getElem? (i := 828) (by decide +kernel)⟩
theorem lw_p28 : lw_okq (⟨"PackStoreModel", "same", "(II)Z"⟩, 25) := ⟨⟨by decide +kernel, by decide +kernel⟩, List.mem_of_getElem? (i := 703) (by decide +kernel), List.mem_of_getElem? (i := 831) (by decide +kernel), List.mem_of_getElem? (i := 832) (by decide +kernel)⟩
theorem lw_p29 : lw_okq (⟨"PackStoreModel", "names", "(I)I"⟩, 25) := ⟨⟨by decide +kernel, by decide +kernel⟩, List.mem_of_getElem? (i := 703) (by decide +kernel), List.mem_of_getElem? (i := 835) (by decide +kernel), List.mem_of_getElem? (i := 836) (by decide +kernel)⟩
theorem lw_p30 : lw_okq (⟨"PackStoreModel", "named", "(III)I"⟩, 25) := ⟨⟨by decide +kernel, by decide +kernel⟩, List.mem_of_getElem? (i := 703) (by decide +kernel), List.mem_of_getElem? (i := 839) (by decide +kernel), List.mem_of_getElem? (i := 840) (by decide +kernel)⟩
theorem lw_p31 : lw_okq (⟨"PackStoreModel", "copy", "(II)V"⟩, 25) := ⟨⟨by decide +kernel, by decide +kernel⟩, List.mem_of_getElem? (i := 703) (by decide +kernel), List.mem_of_getElem? (i := 843) (by decide +kernel), List.mem_of_getElem? (i := 844) (by decide +kernel)⟩
def lw_privs_2 : List (MethodName × Nat) := [(⟨"PackStore$PackReader", "readRun", "(LPackStore$Row;IZ)Z"⟩, 6), (⟨"PackStore$PackReader", "readHash", "()Z"⟩, 6), (⟨"PackStore$PackReader", "readEnd", "()Z"⟩, 6), (⟨"PackStore$PackReader", "workRound", "()I"⟩, 6), (⟨"PackStore$PackReader", "baseOf", "(LPackStore$Entry;)LPackStore$Item;"⟩, 6), (⟨"PackStore$PackReader", "isClashing", "(I)Z"⟩, 6), (⟨"PackStore$PackReader", "isNew", "(I)Z"⟩, 6), (⟨"PackStore", "itemOn", "(II)LPackStore$Item;"⟩, 11), (⟨"PackStore", "shelfOf", "(I)LPackStore$Shelf;"⟩, 11), (⟨"PackStoreModel", "idOf", "(I)I"⟩, 25), (⟨"PackStoreModel", "find", "(II)I"⟩, 25), (⟨"PackStoreModel", "wellFormed", "(I)Z"⟩, 25), (⟨"PackStoreModel", "same", "(II)Z"⟩, 25), (⟨"PackStoreModel", "names", "(I)I"⟩, 25), (⟨"PackStoreModel", "named", "(III)I"⟩, 25), (⟨"PackStoreModel", "copy", "(II)V"⟩, 25)]
theorem lw_r2 : ∀ q ∈ lw_privs_2, lw_okq q := List.forall_mem_cons.mpr ⟨lw_p16, List.forall_mem_cons.mpr ⟨lw_p17, List.forall_mem_cons.mpr ⟨lw_p18, List.forall_mem_cons.mpr ⟨lw_p19, List.forall_mem_cons.mpr ⟨lw_p20, List.forall_mem_cons.mpr ⟨lw_p21, List.forall_mem_cons.mpr ⟨lw_p22, List.forall_mem_cons.mpr ⟨lw_p23, List.forall_mem_cons.mpr ⟨lw_p24, List.forall_mem_cons.mpr ⟨lw_p25, List.forall_mem_cons.mpr ⟨lw_p26, List.forall_mem_cons.mpr ⟨lw_p27, List.forall_mem_cons.mpr ⟨lw_p28, List.forall_mem_cons.mpr ⟨lw_p29, List.forall_mem_cons.mpr ⟨lw_p30, List.forall_mem_cons.mpr ⟨lw_p31, fun _ h => absurd h List.not_mem_nil⟩⟩⟩⟩⟩⟩⟩⟩⟩⟩⟩⟩⟩⟩⟩⟩
theorem lw_p32 : lw_okq (⟨"PackStoreModel", "select", "()V"⟩, 25) := ⟨⟨by decide +kernel, by decide +kernel⟩, List.mem_of_getElem? (i := 703) (by decide +kernel), List.mem_of_getElem? (i := 867) (by decide +kernel), List.mem_of_getElem? (i := 868) (by decide +kernel)⟩
theorem lw_p33 : lw_okq (⟨"PackStoreModel", "unmark", "()V"⟩, 25) := ⟨⟨by decide +kernel, by decide +kernel⟩, List.mem_of_getElem? (i := 703) (by decide +kernel), List.mem_of_getElem? (i := 871) (by decide +kernel), List.mem_of_getElem? (i := 872) (by decide +kernel)⟩
theorem lw_p34 : lw_okq (⟨"PackStoreModel", "close", "(II)V"⟩, 25) := ⟨⟨by decide +kernel, by decide +kernel⟩, List.mem_of_getElem? (i := 703) (by decide +kernel), List.mem_of_getElem? (i := 875) (by decide +kernel), List.mem_of_getElem? (i := 876) (by decide +kernel)⟩
theorem lw_p35 : lw_okq (⟨"PackStoreModel", "choose", "()V"⟩, 25) := ⟨⟨by decide +kernel, by decide +kernel⟩, List.mem_of_getElem? (i := 703) (by decide +kernel), List.mem_of_getElem? (i := 879) (by decide +kernel), List.mem_of_getElem? (i := 880) (by decide +kernel)⟩
theorem lw_p36 : lw_okq (⟨"PackStoreModel", "write", "(I)V"⟩, 25) := ⟨⟨by decide +kernel, by decide +kernel⟩, List.mem_of_getElem? (i := 703) (by decide +kernel), List.mem_of_getElem? (i := 883) (by decide +kernel), List.mem_of_getElem? (i := 884) (by decide +kernel)⟩
theorem lw_p37 : lw_okq (⟨"PackStoreModel", "writeEntry", "(II)V"⟩, 25) := ⟨⟨by decide +kernel, by decide +kernel⟩, List.mem_of_getElem? (i := 703) (by decide +kernel), List.mem_of_getElem? (i := 887) (by decide +kernel), List.mem_of_getElem? (i := 888) (by decide +kernel)⟩
theorem lw_p38 : lw_okq (⟨"PackStoreModel", "difference", "(II)V"⟩, 25) := ⟨⟨by decide +kernel, by decide +kernel⟩, List.mem_of_getElem? (i := 703) (by decide +kernel), List.mem_of_getElem? (i := 891) (by decide +kernel), List.mem_of_getElem? (i := 892) (by decide +kernel)⟩
theorem lw_p39 : lw_okq (⟨"PackStoreModel", "addRow", "(I)V"⟩, 25) := ⟨⟨by decide +kernel, by decide +kernel⟩, List.mem_of_getElem? (i := 703) (by decide +kernel), List.mem_of_getElem? (i := 895) (by decide +kernel), List.mem_of_getElem? (i := 896) (by decide +kernel)⟩
theorem lw_p40 : lw_okq (⟨"PackStoreModel", "writePacked", "()V"⟩, 25) := ⟨⟨by decide +kernel, by decide +kernel⟩, List.mem_of_getElem? (i := 703) (by decide +kernel), List.mem_of_getElem? (i := 899) (by decide +kernel), List.mem_of_getElem? (i := 900) (by decide +kernel)⟩
theorem lw_p41 : lw_okq (⟨"PackStoreModel", "times", "(I)I"⟩, 25) := ⟨⟨by decide +kernel, by decide +kernel⟩, List.mem_of_getElem? (i := 703) (by decide +kernel), List.mem_of_getElem? (i := 903) (by decide +kernel), List.mem_of_getElem? (i := 904) (by decide +kernel)⟩
theorem lw_p42 : lw_okq (⟨"PackStoreModel", "hashTo", "(I)I"⟩, 25) := ⟨⟨by decide +kernel, by decide +kernel⟩, List.mem_of_getElem? (i := 703) (by decide +kernel), List.mem_of_getElem? (i := 907) (by decide +kernel), List.mem_of_getElem? (i := 908) (by decide +kernel)⟩
theorem lw_p43 : lw_okq (⟨"PackStoreModel", "readPack", "()Z"⟩, 25) := ⟨⟨by decide +kernel, by decide +kernel⟩, List.mem_of_getElem? (i := 703) (by decide +kernel), List.mem_of_getElem? (i := 915) (by decide +kernel), List.mem_of_getElem? (i := 916) (by decide +kernel)⟩
theorem lw_p44 : lw_okq (⟨"PackStoreModel", "look", "()I"⟩, 25) := ⟨⟨by decide +kernel, by decide +kernel⟩, List.mem_of_getElem? (i := 703) (by decide +kernel), List.mem_of_getElem? (i := 919) (by decide +kernel), List.mem_of_getElem? (i := 920) (by decide +kernel)⟩
theorem lw_p45 : lw_okq (⟨"PackStoreModel", "on", "(Z)Z"⟩, 25) := ⟨⟨by decide +kernel, by decide +kernel⟩, List.mem_of_getElem? (i := 703) (by decide +kernel), List.mem_of_getElem? (i := 923) (by decide +kernel), List.mem_of_getElem? (i := 924) (by decide +kernel)⟩
theorem lw_p46 : lw_okq (⟨"PackStoreModel", "readHead", "(I)Z"⟩, 25) := ⟨⟨by decide +kernel, by decide +kernel⟩, List.mem_of_getElem? (i := 703) (by decide +kernel), List.mem_of_getElem? (i := 927) (by decide +kernel), List.mem_of_getElem? (i := 928) (by decide +kernel)⟩
theorem lw_p47 : lw_okq (⟨"PackStoreModel", "readBase", "(I)Z"⟩, 25) := ⟨⟨by decide +kernel, by decide +kernel⟩, List.mem_of_getElem? (i := 703) (by decide +kernel), List.mem_of_getElem? (i := 931) (by decide +kernel), List.mem_of_getElem? (i := 932) (by decide +kernel)⟩
def lw_privs_3 : List (MethodName × Nat) := [(⟨"PackStoreModel", "select", "()V"⟩, 25), (⟨"PackStoreModel", "unmark", "()V"⟩, 25), (⟨"PackStoreModel", "close", "(II)V"⟩, 25), (⟨"PackStoreModel", "choose", "()V"⟩, 25), (⟨"PackStoreModel", "write", "(I)V"⟩, 25), (⟨"PackStoreModel", "writeEntry", "(II)V"⟩, 25), (⟨"PackStoreModel", "difference", "(II)V"⟩, 25), (⟨"PackStoreModel", "addRow", "(I)V"⟩, 25), (⟨"PackStoreModel", "writePacked", "()V"⟩, 25), (⟨"PackStoreModel", "times", "(I)I"⟩, 25), (⟨"PackStoreModel", "hashTo", "(I)I"⟩, 25), (⟨"PackStoreModel", "readPack", "()Z"⟩, 25), (⟨"PackStoreModel", "look", "()I"⟩, 25), (⟨"PackStoreModel", "on", "(Z)Z"⟩, 25), (⟨"PackStoreModel", "readHead", "(I)Z"⟩, 25), (⟨"PackStoreModel", "readBase", "(I)Z"⟩, 25)]
theorem lw_r3 : ∀ q ∈ lw_privs_3, lw_okq q := List.forall_mem_cons.mpr ⟨lw_p32, List.forall_mem_cons.mpr ⟨lw_p33, List.forall_mem_cons.mpr ⟨lw_p34, List.forall_mem_cons.mpr ⟨lw_p35, List.forall_mem_cons.mpr ⟨lw_p36, List.forall_mem_cons.mpr ⟨lw_p37, List.forall_mem_cons.mpr ⟨lw_p38, List.forall_mem_cons.mpr ⟨lw_p39, List.forall_mem_cons.mpr ⟨lw_p40, List.forall_mem_cons.mpr ⟨lw_p41, List.forall_mem_cons.mpr ⟨lw_p42, List.forall_mem_cons.mpr ⟨lw_p43, List.forall_mem_cons.mpr ⟨lw_p44, List.forall_mem_cons.mpr ⟨lw_p45, List.forall_mem_cons.mpr ⟨lw_p46, List.forall_mem_cons.mpr ⟨lw_p47, fun _ h => absurd h List.not_mem_nil⟩⟩⟩⟩⟩⟩⟩⟩⟩⟩⟩⟩⟩⟩⟩⟩
theorem lw_p48 : lw_okq (⟨"PackStoreModel", "readRuns", "(I)Z"⟩, 25) := ⟨⟨by decide +kernel, by decide +kernel⟩, List.mem_of_getElem? (i := 703) (by decide +kernel), List.mem_of_getElem? (i := 935) (by decide +kernel), List.mem_of_getElem? (i := 936) (by decide +kernel)⟩
theorem lw_p49 : lw_okq (⟨"PackStoreModel", "workOut", "()Z"⟩, 25) := ⟨⟨by decide +kernel, by decide +kernel⟩, List.mem_of_getElem? (i := 703) (by decide +kernel), List.mem_of_getElem? (i := 939) (by decide +kernel), List.mem_of_getElem? (i := 940) (by decide +kernel)⟩
theorem lw_p50 : lw_okq (⟨"PackStoreModel", "takeWhole", "(I)V"⟩, 25) := ⟨⟨by decide +kernel, by decide +kernel⟩, List.mem_of_getElem? (i := 703) (by decide +kernel), List.mem_of_getElem? (i := 943) (by decide +kernel), List.mem_of_getElem? (i := 944) (by decide +kernel)⟩
theorem lw_p51 : lw_okq (⟨"PackStoreModel", "baseOf", "(I)I"⟩, 25) := ⟨⟨by decide +kernel, by decide +kernel⟩, List.mem_of_getElem? (i := 703) (by decide +kernel), List.mem_of_getElem? (i := 947) (by decide +kernel), List.mem_of_getElem? (i := 948) (by decide +kernel)⟩
theorem lw_p52 : lw_okq (⟨"PackStoreModel", "apply", "(II)Z"⟩, 25) := ⟨⟨by decide +kernel, by decide +kernel⟩, List.mem_of_getElem? (i := 703) (by decide +kernel), List.mem_of_getElem? (i := 951) (by decide +kernel), List.mem_of_getElem? (i := 952) (by decide +kernel)⟩
theorem lw_p53 : lw_okq (⟨"PackStoreModel", "sound", "()Z"⟩, 25) := ⟨⟨by decide +kernel, by decide +kernel⟩, List.mem_of_getElem? (i := 703) (by decide +kernel), List.mem_of_getElem? (i := 955) (by decide +kernel), List.mem_of_getElem? (i := 956) (by decide +kernel)⟩
theorem lw_p54 : lw_okq (⟨"PackStoreModel", "seek", "(II)I"⟩, 25) := ⟨⟨by decide +kernel, by decide +kernel⟩, List.mem_of_getElem? (i := 703) (by decide +kernel), List.mem_of_getElem? (i := 967) (by decide +kernel), List.mem_of_getElem? (i := 968) (by decide +kernel)⟩
def lw_privs_4 : List (MethodName × Nat) := [(⟨"PackStoreModel", "readRuns", "(I)Z"⟩, 25), (⟨"PackStoreModel", "workOut", "()Z"⟩, 25), (⟨"PackStoreModel", "takeWhole", "(I)V"⟩, 25), (⟨"PackStoreModel", "baseOf", "(I)I"⟩, 25), (⟨"PackStoreModel", "apply", "(II)Z"⟩, 25), (⟨"PackStoreModel", "sound", "()Z"⟩, 25), (⟨"PackStoreModel", "seek", "(II)I"⟩, 25)]
theorem lw_r4 : ∀ q ∈ lw_privs_4, lw_okq q := List.forall_mem_cons.mpr ⟨lw_p48, List.forall_mem_cons.mpr ⟨lw_p49, List.forall_mem_cons.mpr ⟨lw_p50, List.forall_mem_cons.mpr ⟨lw_p51, List.forall_mem_cons.mpr ⟨lw_p52, List.forall_mem_cons.mpr ⟨lw_p53, List.forall_mem_cons.mpr ⟨lw_p54, fun _ h => absurd h List.not_mem_nil⟩⟩⟩⟩⟩⟩⟩
def lw_privs : List (MethodName × Nat) := lw_privs_1 ++ (lw_privs_2 ++ (lw_privs_3 ++ (lw_privs_4)))
def lw_tbl : List Cond := k2_sels lw_privs ++ tables_1
theorem lw_privs_ok : ∀ q ∈ lw_privs, lw_okq q := by
  show ∀ q ∈ lw_privs_1 ++ (lw_privs_2 ++ (lw_privs_3 ++ (lw_privs_4))), lw_okq q
  exact List.forall_mem_append.mpr ⟨lw_r1, List.forall_mem_append.mpr ⟨lw_r2, List.forall_mem_append.mpr ⟨lw_r3, lw_r4⟩⟩⟩
end
section
/-! tables of the small machine, by program (wip/whole/gen.py) -/
abbrev vI : Type := Jvm.ClassFile.Instr × Nat × Nat × Nat
abbrev vC : Type := Nat × List Value
abbrev vH : Type := List vC
abbrev vL : Type := List (Option Value)
abbrev vS : Type := Nat × vL × List Value × vH
def vT_0 : u_T := fun k => match k with
  | 0 => ("PackStore", "buffer", "LPackStore$Row;", true)
  | 1 => ("PackStore", "server", "LPackStore$Shelf;", true)
  | 2 => ("PackStore", "client", "LPackStore$Shelf;", true)
  | 3 => ("PackStore", "draft", "LPackStore$Item;", true)
  | 4 => ("PackStore", "refs", "[I", true)
  | 5 => ("PackStore", "wants", "LPackStore$IdList;", true)
  | 6 => ("PackStore", "haves", "LPackStore$IdList;", true)
  | 7 => ("PackStore", "reached", "LPackStore$Closure;", true)
  | 8 => ("PackStore", "had", "LPackStore$Closure;", true)
  | 9 => ("PackStore", "writer", "LPackStore$PackWriter;", true)
  | _ => ("PackStore", "reader", "LPackStore$PackReader;", true)
def vt_0 : Nat → FieldType := fun k => match k with
  | 0 => (.object "PackStore$Row")
  | 1 => (.object "PackStore$Shelf")
  | 2 => (.object "PackStore$Shelf")
  | 3 => (.object "PackStore$Item")
  | 4 => (.array .int)
  | 5 => (.object "PackStore$IdList")
  | 6 => (.object "PackStore$IdList")
  | 7 => (.object "PackStore$Closure")
  | 8 => (.object "PackStore$Closure")
  | 9 => (.object "PackStore$PackWriter")
  | _ => (.object "PackStore$PackReader")
def vT_1 : u_T := fun k => match k with
  | 0 => ("PackStore$Row", "bytes", "[I", true)
  | _ => ("PackStore$Row", "used", "I", false)
def vt_1 : Nat → FieldType := fun k => match k with
  | 0 => (.array .int)
  | _ => .int
def vT_2 : u_T := fun k => match k with
  | 0 => ("PackStore$IdList", "ids", "[I", true)
  | _ => ("PackStore$IdList", "used", "I", false)
def vt_2 : Nat → FieldType := fun k => match k with
  | 0 => (.array .int)
  | _ => .int
def vT_3 : u_T := fun k => match k with
  | 0 => ("PackStore$Item", "bytes", "LPackStore$Row;", true)
  | 1 => ("PackStore$Item", "sort", "I", false)
  | _ => ("PackStore$Item", "id", "I", false)
def vt_3 : Nat → FieldType := fun k => match k with
  | 0 => (.object "PackStore$Row")
  | 1 => .int
  | _ => .int
def vT_4 : u_T := fun k => match k with
  | 0 => ("PackStore$Shelf", "items", "[LPackStore$Item;", true)
  | _ => ("PackStore$Shelf", "held", "I", false)
def vt_4 : Nat → FieldType := fun k => match k with
  | 0 => (.array (.object "PackStore$Item"))
  | _ => .int
def vT_5 : u_T := fun k => match k with
  | 0 => ("PackStore$Closure", "marked", "[Z", true)
  | 1 => ("PackStore$Closure", "places", "[I", true)
  | _ => ("PackStore$Closure", "found", "I", false)
def vt_5 : Nat → FieldType := fun k => match k with
  | 0 => (.array .boolean)
  | 1 => (.array .int)
  | _ => .int
def vT_6 : u_T := fun k => match k with
  | 0 => ("PackStore$PackWriter", "shelf", "LPackStore$Shelf;", true)
  | 1 => ("PackStore$PackWriter", "out", "LPackStore$Row;", true)
  | 2 => ("PackStore$PackWriter", "picked", "[I", true)
  | 3 => ("PackStore$PackWriter", "heads", "[I", true)
  | 4 => ("PackStore$PackWriter", "entries", "I", false)
  | 5 => ("PackStore$PackWriter", "difference", "LPackStore$Row;", true)
  | 6 => ("PackStore$PackWriter", "trial", "LPackStore$Row;", true)
  | _ => ("PackStore$PackWriter", "best", "LPackStore$Row;", true)
def vt_6 : Nat → FieldType := fun k => match k with
  | 0 => (.object "PackStore$Shelf")
  | 1 => (.object "PackStore$Row")
  | 2 => (.array .int)
  | 3 => (.array .int)
  | 4 => .int
  | 5 => (.object "PackStore$Row")
  | 6 => (.object "PackStore$Row")
  | _ => (.object "PackStore$Row")
def vT_7 : u_T := fun k => match k with
  | 0 => ("PackStore$Entry", "unpacked", "LPackStore$Row;", true)
  | 1 => ("PackStore$Entry", "item", "LPackStore$Item;", true)
  | 2 => ("PackStore$Entry", "head", "I", false)
  | 3 => ("PackStore$Entry", "sort", "I", false)
  | 4 => ("PackStore$Entry", "size", "I", false)
  | 5 => ("PackStore$Entry", "base", "I", false)
  | _ => ("PackStore$Entry", "ready", "Z", false)
def vt_7 : Nat → FieldType := fun k => match k with
  | 0 => (.object "PackStore$Row")
  | 1 => (.object "PackStore$Item")
  | 2 => .int
  | 3 => .int
  | 4 => .int
  | 5 => .int
  | _ => .boolean
def vT_8 : u_T := fun k => match k with
  | 0 => ("PackStore$PackReader", "in", "LPackStore$Row;", true)
  | 1 => ("PackStore$PackReader", "shelf", "LPackStore$Shelf;", true)
  | 2 => ("PackStore$PackReader", "all", "[LPackStore$Entry;", true)
  | 3 => ("PackStore$PackReader", "entries", "I", false)
  | 4 => ("PackStore$PackReader", "place", "I", false)
  | _ => ("PackStore$PackReader", "fault", "I", false)
def vt_8 : Nat → FieldType := fun k => match k with
  | 0 => (.object "PackStore$Row")
  | 1 => (.object "PackStore$Shelf")
  | 2 => (.array (.object "PackStore$Entry"))
  | 3 => .int
  | 4 => .int
  | _ => .int
def vT_9 : u_T := fun k => match k with
  | 0 => ("PackStoreModel", "buffer", "[I", false)
  | 1 => ("PackStoreModel", "size", "I", false)
  | 2 => ("PackStoreModel", "held", "[I", false)
  | 3 => ("PackStoreModel", "kinds", "[I", false)
  | 4 => ("PackStoreModel", "sizes", "[I", false)
  | 5 => ("PackStoreModel", "bytes", "[I", false)
  | 6 => ("PackStoreModel", "mark", "[Z", false)
  | 7 => ("PackStoreModel", "whole", "Z", false)
  | 8 => ("PackStoreModel", "refs", "[I", false)
  | 9 => ("PackStoreModel", "wanted", "[Z", false)
  | 10 => ("PackStoreModel", "someWanted", "Z", false)
  | 11 => ("PackStoreModel", "haves", "I", false)
  | 12 => ("PackStoreModel", "have", "[I", false)
  | 13 => ("PackStoreModel", "many", "I", false)
  | 14 => ("PackStoreModel", "order", "[I", false)
  | 15 => ("PackStoreModel", "headAt", "[I", false)
  | 16 => ("PackStoreModel", "rowSize", "I", false)
  | 17 => ("PackStoreModel", "row", "[I", false)
  | 18 => ("PackStoreModel", "at", "I", false)
  | 19 => ("PackStoreModel", "entries", "I", false)
  | 20 => ("PackStoreModel", "eSort", "[I", false)
  | 21 => ("PackStoreModel", "eSize", "[I", false)
  | 22 => ("PackStoreModel", "eBase", "[I", false)
  | 23 => ("PackStoreModel", "eBytes", "[I", false)
  | _ => ("PackStoreModel", "done", "[Z", false)
def vt_9 : Nat → FieldType := fun k => match k with
  | 0 => (.array .int)
  | 1 => .int
  | 2 => (.array .int)
  | 3 => (.array .int)
  | 4 => (.array .int)
  | 5 => (.array .int)
  | 6 => (.array .boolean)
  | 7 => .boolean
  | 8 => (.array .int)
  | 9 => (.array .boolean)
  | 10 => .boolean
  | 11 => .int
  | 12 => (.array .int)
  | 13 => .int
  | 14 => (.array .int)
  | 15 => (.array .int)
  | 16 => .int
  | 17 => (.array .int)
  | 18 => .int
  | 19 => .int
  | 20 => (.array .int)
  | 21 => (.array .int)
  | 22 => (.array .int)
  | 23 => (.array .int)
  | _ => (.array .boolean)
abbrev vcl : List vw_C := [("PackStore", vT_0, 11), ("PackStore$Row", vT_1, 2), ("PackStore$IdList", vT_2, 2), ("PackStore$Item", vT_3, 3), ("PackStore$Shelf", vT_4, 2), ("PackStore$Closure", vT_5, 3), ("PackStore$PackWriter", vT_6, 8), ("PackStore$Entry", vT_7, 7), ("PackStore$PackReader", vT_8, 6), ("PackStoreModel", vT_9, 25)]
def vty (t : Nat) : Nat → FieldType := match t with
  | 0 => vt_0
  | 1 => vt_1
  | 2 => vt_2
  | 3 => vt_3
  | 4 => vt_4
  | 5 => vt_5
  | 6 => vt_6
  | 7 => vt_7
  | 8 => vt_8
  | _ => vt_9
def vdef (t : Nat) : List Value := match t with
  | 0 => [.null, .null, .null, .null, .null, .null, .null, .null, .null, .null, .null]
  | 1 => [.null, .int 0]
  | 2 => [.null, .int 0]
  | 3 => [.null, .int 0, .int 0]
  | 4 => [.null, .int 0]
  | 5 => [.null, .null, .int 0]
  | 6 => [.null, .null, .null, .null, .int 0, .null, .null, .null]
  | 7 => [.null, .null, .int 0, .int 0, .int 0, .int 0, .int 0]
  | 8 => [.null, .null, .null, .int 0, .int 0, .int 0]
  | _ => [.null, .int 0, .null, .null, .null, .null, .null, .int 0, .null, .null, .int 0, .int 0, .null, .int 0, .null, .null, .int 0, .null, .int 0, .int 0, .null, .null, .null, .null, .null]
def vcn (t : Nat) : String := match t with
  | 102 => "PackStore$Item"
  | _ => "PackStore$Entry"
def vcomp (t : Nat) : Nat := match t with
  | 102 => 3
  | _ => 7
def vcname (t : Nat) : String := match t with
  | 0 => "PackStore"
  | 1 => "PackStore$Row"
  | 2 => "PackStore$IdList"
  | 3 => "PackStore$Item"
  | 4 => "PackStore$Shelf"
  | 5 => "PackStore$Closure"
  | 6 => "PackStore$PackWriter"
  | 7 => "PackStore$Entry"
  | 8 => "PackStore$PackReader"
  | 9 => "PackStoreModel"
  | 10 => "PackStore$Packing"
  | 11 => "PackStore$Difference"
  | 12 => "PackStoreLaw"
  | _ => "java/util/Arrays"
def vyL : List MethodName := [⟨"PackStore", "<init>", "()V"⟩, ⟨"PackStore", "put", "(II)Z"⟩, ⟨"PackStore", "set", "(II)Z"⟩, ⟨"PackStore", "cut", "(I)Z"⟩, ⟨"PackStore", "size", "()I"⟩, ⟨"PackStore", "at", "(I)I"⟩, ⟨"PackStore", "store", "(I)I"⟩, ⟨"PackStore", "point", "(II)Z"⟩, ⟨"PackStore", "ref", "(I)I"⟩, ⟨"PackStore", "want", "(I)Z"⟩, ⟨"PackStore", "have", "(I)Z"⟩, ⟨"PackStore", "serve", "()I"⟩, ⟨"PackStore", "receive", "()I"⟩, ⟨"PackStore", "forget", "()I"⟩, ⟨"PackStore", "kind", "(II)I"⟩, ⟨"PackStore", "length", "(II)I"⟩, ⟨"PackStore", "content", "(III)I"⟩, ⟨"PackStore", "closure", "(II)I"⟩, ⟨"PackStore", "count", "(I)I"⟩, ⟨"PackStore", "isLedTo", "(I)Z"⟩, ⟨"PackStore", "shelfOf", "(I)LPackStore$Shelf;"⟩, ⟨"PackStore", "itemOn", "(II)LPackStore$Item;"⟩, ⟨"PackStore", "hashStep", "(II)I"⟩, ⟨"PackStoreModel", "<init>", "()V"⟩, ⟨"PackStoreModel", "in", "(III)Z"⟩, ⟨"PackStoreModel", "fold", "(II)I"⟩, ⟨"PackStoreModel", "put", "(II)Z"⟩, ⟨"PackStoreModel", "set", "(II)Z"⟩, ⟨"PackStoreModel", "cut", "(I)Z"⟩, ⟨"PackStoreModel", "size", "()I"⟩, ⟨"PackStoreModel", "at", "(I)I"⟩, ⟨"PackStoreModel", "idOf", "(I)I"⟩, ⟨"PackStoreModel", "start", "(I)I"⟩, ⟨"PackStoreModel", "find", "(II)I"⟩, ⟨"PackStoreModel", "same", "(II)Z"⟩, ⟨"PackStoreModel", "wellFormed", "(I)Z"⟩, ⟨"PackStoreModel", "names", "(I)I"⟩, ⟨"PackStoreModel", "named", "(III)I"⟩, ⟨"PackStoreModel", "close", "(II)V"⟩, ⟨"PackStoreModel", "unmark", "()V"⟩, ⟨"PackStoreModel", "store", "(I)I"⟩, ⟨"PackStoreModel", "copy", "(II)V"⟩, ⟨"PackStoreModel", "point", "(II)Z"⟩, ⟨"PackStoreModel", "ref", "(I)I"⟩, ⟨"PackStoreModel", "want", "(I)Z"⟩, ⟨"PackStoreModel", "have", "(I)Z"⟩, ⟨"PackStoreModel", "write", "(I)V"⟩, ⟨"PackStoreModel", "times", "(I)I"⟩, ⟨"PackStoreModel", "writePacked", "()V"⟩, ⟨"PackStoreModel", "addRow", "(I)V"⟩, ⟨"PackStoreModel", "difference", "(II)V"⟩, ⟨"PackStoreModel", "writeEntry", "(II)V"⟩, ⟨"PackStoreModel", "choose", "()V"⟩, ⟨"PackStoreModel", "hashTo", "(I)I"⟩, ⟨"PackStoreModel", "select", "()V"⟩, ⟨"PackStoreModel", "serve", "()I"⟩, ⟨"PackStoreModel", "look", "()I"⟩, ⟨"PackStoreModel", "on", "(Z)Z"⟩, ⟨"PackStoreModel", "readHead", "(I)Z"⟩, ⟨"PackStoreModel", "readBase", "(I)Z"⟩, ⟨"PackStoreModel", "readRuns", "(I)Z"⟩, ⟨"PackStoreModel", "readPack", "()Z"⟩, ⟨"PackStoreModel", "apply", "(II)Z"⟩, ⟨"PackStoreModel", "baseOf", "(I)I"⟩, ⟨"PackStoreModel", "takeWhole", "(I)V"⟩, ⟨"PackStoreModel", "workOut", "()Z"⟩, ⟨"PackStoreModel", "sound", "()Z"⟩, ⟨"PackStoreModel", "receive", "()I"⟩, ⟨"PackStoreModel", "forget", "()I"⟩, ⟨"PackStoreModel", "seek", "(II)I"⟩, ⟨"PackStoreModel", "kind", "(II)I"⟩, ⟨"PackStoreModel", "length", "(II)I"⟩, ⟨"PackStoreModel", "content", "(III)I"⟩, ⟨"PackStoreModel", "closure", "(II)I"⟩, ⟨"PackStoreModel", "count", "(I)I"⟩, ⟨"PackStore$Closure", "<init>", "(I)V"⟩, ⟨"PackStore$Closure", "found", "()I"⟩, ⟨"PackStore$Closure", "has", "(I)Z"⟩, ⟨"PackStore$Closure", "clear", "()V"⟩, ⟨"PackStore$Closure", "include", "(LPackStore$Shelf;I)Z"⟩, ⟨"PackStore$Closure", "markNamed", "(LPackStore$Shelf;LPackStore$Item;)Z"⟩, ⟨"PackStore$Closure", "mark", "(I)V"⟩, ⟨"PackStore$Difference", "write", "(LPackStore$Row;LPackStore$Row;LPackStore$Row;)V"⟩, ⟨"PackStore$Difference", "writePut", "(LPackStore$Row;IILPackStore$Row;)V"⟩, ⟨"PackStore$Difference", "longestPlace", "(LPackStore$Row;LPackStore$Row;I)I"⟩, ⟨"PackStore$Difference", "apply", "(LPackStore$Row;LPackStore$Row;LPackStore$Row;)Z"⟩, ⟨"PackStore$Difference", "applyStep", "(LPackStore$Row;LPackStore$Row;ILPackStore$Row;)Z"⟩, ⟨"PackStore$Entry", "<init>", "()V"⟩, ⟨"PackStore$Entry", "isWhole", "()Z"⟩, ⟨"PackStore$Entry", "hasKnownSort", "()Z"⟩, ⟨"PackStore$Entry", "takeWhole", "()V"⟩, ⟨"PackStore$IdList", "<init>", "(I)V"⟩, ⟨"PackStore$IdList", "used", "()I"⟩, ⟨"PackStore$IdList", "get", "(I)I"⟩, ⟨"PackStore$IdList", "clear", "()V"⟩, ⟨"PackStore$IdList", "add", "(I)Z"⟩, ⟨"PackStore$Item", "<init>", "()V"⟩, ⟨"PackStore$Item", "sort", "()I"⟩, ⟨"PackStore$Item", "id", "()I"⟩, ⟨"PackStore$Item", "bytes", "()LPackStore$Row;"⟩, ⟨"PackStore$Item", "fill", "(ILPackStore$Row;)V"⟩, ⟨"PackStore$Item", "finish", "(I)V"⟩, ⟨"PackStore$Item", "isSame", "(LPackStore$Item;)Z"⟩, ⟨"PackStore$Item", "clashesWith", "(LPackStore$Item;)Z"⟩, ⟨"PackStore$Item", "isWellFormed", "()Z"⟩, ⟨"PackStore$Item", "hasRisingNames", "()Z"⟩, ⟨"PackStore$Item", "namedItems", "()I"⟩, ⟨"PackStore$Item", "namedId", "(I)I"⟩, ⟨"PackStore$Item", "mayName", "(II)Z"⟩, ⟨"PackStore$PackReader", "<init>", "(LPackStore$Row;LPackStore$Shelf;)V"⟩, ⟨"PackStore$PackReader", "fault", "()I"⟩, ⟨"PackStore$PackReader", "readPack", "()Z"⟩, ⟨"PackStore$PackReader", "next", "(II)I"⟩, ⟨"PackStore$PackReader", "isNext", "(I)Z"⟩, ⟨"PackStore$PackReader", "failAtLast", "()Z"⟩, ⟨"PackStore$PackReader", "readEntries", "()Z"⟩, ⟨"PackStore$PackReader", "readHead", "(LPackStore$Entry;)Z"⟩, ⟨"PackStore$PackReader", "readBase", "(LPackStore$Entry;)Z"⟩, ⟨"PackStore$PackReader", "entryAt", "(I)I"⟩, ⟨"PackStore$PackReader", "readRuns", "(LPackStore$Entry;)Z"⟩, ⟨"PackStore$PackReader", "readRun", "(LPackStore$Row;IZ)Z"⟩, ⟨"PackStore$PackReader", "readHash", "()Z"⟩, ⟨"PackStore$PackReader", "readEnd", "()Z"⟩, ⟨"PackStore$PackReader", "workOut", "()Z"⟩, ⟨"PackStore$PackReader", "workRound", "()I"⟩, ⟨"PackStore$PackReader", "baseOf", "(LPackStore$Entry;)LPackStore$Item;"⟩, ⟨"PackStore$PackReader", "isSound", "()Z"⟩, ⟨"PackStore$PackReader", "isClashing", "(I)Z"⟩, ⟨"PackStore$PackReader", "newItems", "()I"⟩, ⟨"PackStore$PackReader", "isNew", "(I)Z"⟩, ⟨"PackStore$PackReader", "keepNew", "()I"⟩, ⟨"PackStore$PackWriter", "<init>", "(LPackStore$Shelf;LPackStore$Row;)V"⟩, ⟨"PackStore$PackWriter", "write", "(LPackStore$Closure;LPackStore$Closure;)I"⟩, ⟨"PackStore$PackWriter", "pick", "(ILPackStore$Closure;LPackStore$Closure;)V"⟩, ⟨"PackStore$PackWriter", "writeEntry", "(I)V"⟩, ⟨"PackStore$PackWriter", "writeByBack", "(LPackStore$Item;LPackStore$Item;I)V"⟩, ⟨"PackStore$PackWriter", "keepIfShorter", "()V"⟩, ⟨"PackStore$PackWriter", "writeHead", "(IILPackStore$Row;)V"⟩, ⟨"PackStore$Packing", "runLength", "(I)I"⟩, ⟨"PackStore$Packing", "pack", "(LPackStore$Row;LPackStore$Row;)V"⟩, ⟨"PackStore$Packing", "plainLength", "(LPackStore$Row;I)I"⟩, ⟨"PackStore$Row", "<init>", "(I)V"⟩, ⟨"PackStore$Row", "used", "()I"⟩, ⟨"PackStore$Row", "left", "()I"⟩, ⟨"PackStore$Row", "get", "(I)I"⟩, ⟨"PackStore$Row", "getTwo", "(I)I"⟩, ⟨"PackStore$Row", "clear", "()V"⟩, ⟨"PackStore$Row", "add", "(I)V"⟩, ⟨"PackStore$Row", "addTwo", "(I)V"⟩, ⟨"PackStore$Row", "addPart", "(LPackStore$Row;II)Z"⟩, ⟨"PackStore$Row", "addAll", "(LPackStore$Row;)V"⟩, ⟨"PackStore$Row", "replace", "(II)Z"⟩, ⟨"PackStore$Row", "shorten", "(I)Z"⟩, ⟨"PackStore$Row", "isSame", "(LPackStore$Row;)Z"⟩, ⟨"PackStore$Row", "hashOn", "(II)I"⟩, ⟨"PackStore$Row", "sameFrom", "(I)I"⟩, ⟨"PackStore$Row", "commonFrom", "(ILPackStore$Row;I)I"⟩, ⟨"PackStore$Shelf", "<init>", "(I)V"⟩, ⟨"PackStore$Shelf", "held", "()I"⟩, ⟨"PackStore$Shelf", "left", "()I"⟩, ⟨"PackStore$Shelf", "get", "(I)LPackStore$Item;"⟩, ⟨"PackStore$Shelf", "clear", "()V"⟩, ⟨"PackStore$Shelf", "find", "(I)I"⟩, ⟨"PackStore$Shelf", "keep", "(LPackStore$Item;)V"⟩, ⟨"PackStore$Shelf", "findNamed", "(LPackStore$Item;I)I"⟩, ⟨"PackStore$Shelf", "holdsAllNamed", "(LPackStore$Item;)Z"⟩, ⟨"PackStoreLaw", "law", "([I)Z"⟩, ⟨"java/util/Arrays", "fill", "([II)V"⟩]
def vbL : List ByteArray := [prog_1_method_1_code, prog_1_method_2_code, prog_1_method_3_code, prog_1_method_4_code, prog_1_method_5_code, prog_1_method_6_code, prog_1_method_7_code, prog_1_method_8_code, prog_1_method_9_code, prog_1_method_10_code, prog_1_method_11_code, prog_1_method_12_code, prog_1_method_13_code, prog_1_method_14_code, prog_1_method_15_code, prog_1_method_16_code, prog_1_method_17_code, prog_1_method_18_code, prog_1_method_19_code, prog_1_method_20_code, prog_1_method_21_code, prog_1_method_22_code, prog_1_method_23_code, prog_13_method_1_code, prog_13_method_2_code, prog_13_method_3_code, prog_13_method_4_code, prog_13_method_5_code, prog_13_method_6_code, prog_13_method_7_code, prog_13_method_8_code, prog_13_method_9_code, prog_13_method_10_code, prog_13_method_11_code, prog_13_method_12_code, prog_13_method_13_code, prog_13_method_14_code, prog_13_method_15_code, prog_13_method_16_code, prog_13_method_17_code, prog_13_method_18_code, prog_13_method_19_code, prog_13_method_20_code, prog_13_method_21_code, prog_13_method_22_code, prog_13_method_23_code, prog_13_method_24_code, prog_13_method_25_code, prog_13_method_26_code, prog_13_method_27_code, prog_13_method_28_code, prog_13_method_29_code, prog_13_method_30_code, prog_13_method_31_code, prog_13_method_32_code, prog_13_method_33_code, prog_13_method_34_code, prog_13_method_35_code, prog_13_method_36_code, prog_13_method_37_code, prog_13_method_38_code, prog_13_method_39_code, prog_13_method_40_code, prog_13_method_41_code, prog_13_method_42_code, prog_13_method_43_code, prog_13_method_44_code, prog_13_method_45_code, prog_13_method_46_code, prog_13_method_47_code, prog_13_method_48_code, prog_13_method_49_code, prog_13_method_50_code, prog_13_method_51_code, prog_13_method_52_code, prog_2_method_1_code, prog_2_method_2_code, prog_2_method_3_code, prog_2_method_4_code, prog_2_method_5_code, prog_2_method_6_code, prog_2_method_7_code, prog_3_method_2_code, prog_3_method_3_code, prog_3_method_4_code, prog_3_method_5_code, prog_3_method_6_code, prog_4_method_1_code, prog_4_method_2_code, prog_4_method_3_code, prog_4_method_4_code, prog_5_method_1_code, prog_5_method_2_code, prog_5_method_3_code, prog_5_method_4_code, prog_5_method_5_code, prog_6_method_1_code, prog_6_method_2_code, prog_6_method_3_code, prog_6_method_4_code, prog_6_method_5_code, prog_6_method_6_code, prog_6_method_7_code, prog_6_method_8_code, prog_6_method_9_code, prog_6_method_10_code, prog_6_method_11_code, prog_6_method_12_code, prog_6_method_13_code, prog_7_method_1_code, prog_7_method_2_code, prog_7_method_3_code, prog_7_method_4_code, prog_7_method_5_code, prog_7_method_6_code, prog_7_method_7_code, prog_7_method_8_code, prog_7_method_9_code, prog_7_method_10_code, prog_7_method_11_code, prog_7_method_12_code, prog_7_method_13_code, prog_7_method_14_code, prog_7_method_15_code, prog_7_method_16_code, prog_7_method_17_code, prog_7_method_18_code, prog_7_method_19_code, prog_7_method_20_code, prog_7_method_21_code, prog_7_method_22_code, prog_8_method_1_code, prog_8_method_2_code, prog_8_method_3_code, prog_8_method_4_code, prog_8_method_5_code, prog_8_method_6_code, prog_8_method_7_code, prog_9_method_2_code, prog_9_method_3_code, prog_9_method_4_code, prog_10_method_1_code, prog_10_method_2_code, prog_10_method_3_code, prog_10_method_4_code, prog_10_method_5_code, prog_10_method_6_code, prog_10_method_7_code, prog_10_method_8_code, prog_10_method_9_code, prog_10_method_10_code, prog_10_method_11_code, prog_10_method_12_code, prog_10_method_13_code, prog_10_method_14_code, prog_10_method_15_code, prog_10_method_16_code, prog_11_method_1_code, prog_11_method_2_code, prog_11_method_3_code, prog_11_method_4_code, prog_11_method_5_code, prog_11_method_6_code, prog_11_method_7_code, prog_11_method_8_code, prog_11_method_9_code, code, prog_16_method_103_code]
def vmL : List Nat := [1, 4, 3, 2, 1, 2, 3, 4, 2, 2, 2, 2, 1, 2, 4, 4, 5, 4, 3, 3, 2, 5, 2, 2, 3, 2, 4, 3, 2, 1, 2, 4, 1, 5, 5, 5, 2, 7, 8, 2, 7, 4, 4, 2, 4, 4, 2, 3, 5, 2, 9, 6, 3, 4, 3, 5, 1, 2, 9, 7, 8, 2, 13, 4, 3, 6, 6, 6, 2, 3, 4, 4, 5, 6, 2, 2, 1, 2, 2, 6, 5, 2, 8, 4, 7, 6, 5, 1, 1, 1, 1, 2, 1, 2, 1, 3, 1, 1, 1, 1, 3, 3, 2, 2, 2, 2, 1, 2, 3, 4, 1, 1, 4, 2, 1, 4, 4, 5, 3, 5, 6, 2, 1, 4, 5, 3, 2, 4, 3, 4, 4, 3, 4, 6, 5, 4, 1, 5, 1, 5, 3, 2, 1, 1, 2, 2, 1, 2, 2, 4, 2, 3, 2, 3, 5, 3, 6, 3, 1, 1, 2, 1, 3, 2, 4, 3, 4, 4]
def vrL : List (Option FieldType) := [(Option.none : Option FieldType), (Option.some FieldType.boolean), (Option.some FieldType.boolean), (Option.some FieldType.boolean), (Option.some FieldType.int), (Option.some FieldType.int), (Option.some FieldType.int), (Option.some FieldType.boolean), (Option.some FieldType.int), (Option.some FieldType.boolean), (Option.some FieldType.boolean), (Option.some FieldType.int), (Option.some FieldType.int), (Option.some FieldType.int), (Option.some FieldType.int), (Option.some FieldType.int), (Option.some FieldType.int), (Option.some FieldType.int), (Option.some FieldType.int), (Option.some FieldType.boolean), (Option.some (FieldType.object "PackStore$Shelf")), (Option.some (FieldType.object "PackStore$Item")), (Option.some FieldType.int), (Option.none : Option FieldType), (Option.some FieldType.boolean), (Option.some FieldType.int), (Option.some FieldType.boolean), (Option.some FieldType.boolean), (Option.some FieldType.boolean), (Option.some FieldType.int), (Option.some FieldType.int), (Option.some FieldType.int), (Option.some FieldType.int), (Option.some FieldType.int), (Option.some FieldType.boolean), (Option.some FieldType.boolean), (Option.some FieldType.int), (Option.some FieldType.int), (Option.none : Option FieldType), (Option.none : Option FieldType), (Option.some FieldType.int), (Option.none : Option FieldType), (Option.some FieldType.boolean), (Option.some FieldType.int), (Option.some FieldType.boolean), (Option.some FieldType.boolean), (Option.none : Option FieldType), (Option.some FieldType.int), (Option.none : Option FieldType), (Option.none : Option FieldType), (Option.none : Option FieldType), (Option.none : Option FieldType), (Option.none : Option FieldType), (Option.some FieldType.int), (Option.none : Option FieldType), (Option.some FieldType.int), (Option.some FieldType.int), (Option.some FieldType.boolean), (Option.some FieldType.boolean), (Option.some FieldType.boolean), (Option.some FieldType.boolean), (Option.some FieldType.boolean), (Option.some FieldType.boolean), (Option.some FieldType.int), (Option.none : Option FieldType), (Option.some FieldType.boolean), (Option.some FieldType.boolean), (Option.some FieldType.int), (Option.some FieldType.int), (Option.some FieldType.int), (Option.some FieldType.int), (Option.some FieldType.int), (Option.some FieldType.int), (Option.some FieldType.int), (Option.some FieldType.int), (Option.none : Option FieldType), (Option.some FieldType.int), (Option.some FieldType.boolean), (Option.none : Option FieldType), (Option.some FieldType.boolean), (Option.some FieldType.boolean), (Option.none : Option FieldType), (Option.none : Option FieldType), (Option.none : Option FieldType), (Option.some FieldType.int), (Option.some FieldType.boolean), (Option.some FieldType.boolean), (Option.none : Option FieldType), (Option.some FieldType.boolean), (Option.some FieldType.boolean), (Option.none : Option FieldType), (Option.none : Option FieldType), (Option.some FieldType.int), (Option.some FieldType.int), (Option.none : Option FieldType), (Option.some FieldType.boolean), (Option.none : Option FieldType), (Option.some FieldType.int), (Option.some FieldType.int), (Option.some (FieldType.object "PackStore$Row")), (Option.none : Option FieldType), (Option.none : Option FieldType), (Option.some FieldType.boolean), (Option.some FieldType.boolean), (Option.some FieldType.boolean), (Option.some FieldType.boolean), (Option.some FieldType.int), (Option.some FieldType.int), (Option.some FieldType.boolean), (Option.none : Option FieldType), (Option.some FieldType.int), (Option.some FieldType.boolean), (Option.some FieldType.int), (Option.some FieldType.boolean), (Option.some FieldType.boolean), (Option.some FieldType.boolean), (Option.some FieldType.boolean), (Option.some FieldType.boolean), (Option.some FieldType.int), (Option.some FieldType.boolean), (Option.some FieldType.boolean), (Option.some FieldType.boolean), (Option.some FieldType.boolean), (Option.some FieldType.boolean), (Option.some FieldType.int), (Option.some (FieldType.object "PackStore$Item")), (Option.some FieldType.boolean), (Option.some FieldType.boolean), (Option.some FieldType.int), (Option.some FieldType.boolean), (Option.some FieldType.int), (Option.none : Option FieldType), (Option.some FieldType.int), (Option.none : Option FieldType), (Option.none : Option FieldType), (Option.none : Option FieldType), (Option.none : Option FieldType), (Option.none : Option FieldType), (Option.some FieldType.int), (Option.none : Option FieldType), (Option.some FieldType.int), (Option.none : Option FieldType), (Option.some FieldType.int), (Option.some FieldType.int), (Option.some FieldType.int), (Option.some FieldType.int), (Option.none : Option FieldType), (Option.none : Option FieldType), (Option.none : Option FieldType), (Option.some FieldType.boolean), (Option.none : Option FieldType), (Option.some FieldType.boolean), (Option.some FieldType.boolean), (Option.some FieldType.boolean), (Option.some FieldType.int), (Option.some FieldType.int), (Option.some FieldType.int), (Option.none : Option FieldType), (Option.some FieldType.int), (Option.some FieldType.int), (Option.some (FieldType.object "PackStore$Item")), (Option.none : Option FieldType), (Option.some FieldType.int), (Option.none : Option FieldType), (Option.some FieldType.int), (Option.some FieldType.boolean), ret, (Option.none : Option FieldType)]
def voL : List Nat := [0, 0, 0, 0, 0, 0, 0, 0, 0, 0, 0, 0, 0, 0, 0, 0, 0, 0, 0, 0, 0, 0, 0, 9, 9, 9, 9, 9, 9, 9, 9, 9, 9, 9, 9, 9, 9, 9, 9, 9, 9, 9, 9, 9, 9, 9, 9, 9, 9, 9, 9, 9, 9, 9, 9, 9, 9, 9, 9, 9, 9, 9, 9, 9, 9, 9, 9, 9, 9, 9, 9, 9, 9, 9, 9, 5, 5, 5, 5, 5, 5, 5, 11, 11, 11, 11, 11, 7, 7, 7, 7, 2, 2, 2, 2, 2, 3, 3, 3, 3, 3, 3, 3, 3, 3, 3, 3, 3, 3, 8, 8, 8, 8, 8, 8, 8, 8, 8, 8, 8, 8, 8, 8, 8, 8, 8, 8, 8, 8, 8, 8, 6, 6, 6, 6, 6, 6, 6, 10, 10, 10, 1, 1, 1, 1, 1, 1, 1, 1, 1, 1, 1, 1, 1, 1, 1, 1, 4, 4, 4, 4, 4, 4, 4, 4, 4, 12, 13]
def vkL : List Nat := [5, 2, 2, 2, 2, 2, 6, 3, 1, 2, 2, 7, 7, 2, 4, 4, 4, 7, 2, 1, 1, 3, 1, 1, 1, 1, 2, 2, 2, 1, 2, 2, 1, 3, 1, 1, 1, 4, 5, 1, 5, 1, 4, 2, 4, 1, 1, 1, 2, 1, 2, 3, 1, 2, 6, 7, 1, 1, 2, 2, 2, 3, 1, 4, 1, 5, 4, 6, 1, 4, 5, 5, 5, 6, 2, 1, 1, 1, 1, 6, 5, 1, 3, 2, 2, 3, 2, 3, 1, 1, 5, 1, 1, 1, 1, 1, 2, 1, 1, 1, 4, 3, 2, 3, 3, 2, 2, 3, 1, 4, 1, 6, 2, 3, 1, 5, 3, 3, 1, 4, 3, 4, 2, 6, 4, 3, 5, 4, 4, 3, 6, 2, 6, 2, 5, 4, 3, 2, 1, 3, 2, 1, 1, 1, 1, 2, 1, 1, 2, 1, 2, 1, 1, 1, 2, 1, 1, 3, 1, 1, 1, 1, 2, 5, 4, 5, 8, 1]
def vlL : List Nat := [104, 21, 22, 21, 20, 21, 113, 42, 0, 22, 22, 169, 145, 20, 66, 66, 66, 135, 21, 0, 0, 42, 0, 20, 0, 0, 22, 22, 22, 0, 22, 21, 0, 44, 0, 0, 0, 68, 94, 0, 94, 0, 68, 22, 68, 0, 0, 0, 22, 0, 21, 49, 0, 21, 121, 143, 0, 0, 22, 21, 21, 50, 0, 68, 0, 91, 68, 116, 0, 68, 90, 90, 90, 121, 22, 20, 0, 0, 0, 110, 86, 0, 72, 49, 46, 73, 49, 61, 0, 0, 92, 20, 0, 0, 0, 0, 41, 0, 0, 0, 70, 45, 22, 43, 42, 21, 20, 42, 0, 81, 0, 116, 21, 44, 0, 93, 44, 44, 0, 69, 44, 65, 20, 122, 98, 42, 87, 64, 65, 42, 113, 41, 146, 21, 122, 99, 70, 21, 0, 49, 22, 20, 0, 0, 0, 21, 0, 0, 21, 26, 49, 0, 0, 0, 21, 0, 21, 61, 0, 0, 0, 0, 20, 92, 63, 86, 190, 0]
def vdL : List Nat := [2, 1, 1, 1, 1, 1, 1, 1, 1, 1, 1, 1, 1, 1, 1, 1, 1, 1, 1, 1, 1, 1, 0, 2, 0, 0, 1, 1, 1, 1, 1, 1, 0, 1, 1, 1, 1, 1, 1, 1, 1, 1, 1, 1, 1, 1, 1, 1, 1, 1, 1, 1, 1, 1, 1, 1, 1, 1, 1, 1, 1, 1, 1, 1, 1, 1, 1, 1, 1, 1, 1, 1, 1, 1, 1, 2, 1, 1, 1, 1, 1, 1, 0, 0, 0, 0, 0, 2, 1, 1, 1, 2, 1, 1, 1, 1, 2, 1, 1, 1, 1, 1, 1, 1, 1, 1, 1, 1, 1, 2, 1, 1, 1, 1, 1, 1, 1, 1, 1, 1, 1, 1, 1, 1, 1, 1, 1, 1, 1, 1, 1, 2, 1, 1, 1, 1, 1, 0, 0, 0, 0, 2, 1, 1, 1, 1, 1, 1, 1, 1, 1, 1, 1, 1, 1, 1, 1, 2, 1, 1, 1, 1, 1, 1, 1, 1, 0, 0]
def vy (i : Nat) : MethodName := (vyL[i]?).getD ⟨"", "", ""⟩
def vbytes (i : Nat) : ByteArray := (vbL[i]?).getD ⟨#[]⟩
def vmaxL (i : Nat) : Nat := (vmL[i]?).getD 0
def vret (i : Nat) : Option FieldType := (vrL[i]?).getD none
def vco (i : Nat) : Nat := (voL[i]?).getD 0
def vown (i : Nat) : String := vcname (vco i)
def vci (i : Nat) : Nat := vco i
def vrk (i : Nat) : Nat := (vkL[i]?).getD 0
def vlo (i : Nat) : Nat := (vlL[i]?).getD 0
def vkd (i : Nat) : Nat := (vdL[i]?).getD 0
-- 0 PackStore init
def vt0 : List (Nat × vI) := [(0, .aload_n 0, 1, 0, 0), (1, .invokespecial 1, 3, 1000, 0), (4, .aload_n 0, 1, 0, 0), (5, .new 7, 3, 1, 0), (8, .dup, 1, 0, 0), (9, .sipush (500), 3, 0, 0), (12, .invokespecial 11, 3, 141, 2), (15, .putfield 14, 3, 0, 0), (18, .aload_n 0, 1, 0, 0), (19, .new 18, 3, 4, 0), (22, .dup, 1, 0, 0), (23, .bipush (16), 2, 0, 0), (25, .invokespecial 20, 3, 157, 2), (28, .putfield 21, 3, 0, 1), (31, .aload_n 0, 1, 0, 0), (32, .new 18, 3, 4, 0), (35, .dup, 1, 0, 0), (36, .bipush (24), 2, 0, 0), (38, .invokespecial 20, 3, 157, 2), (41, .putfield 25, 3, 0, 2), (44, .aload_n 0, 1, 0, 0), (45, .new 28, 3, 3, 0), (48, .dup, 1, 0, 0), (49, .invokespecial 30, 3, 96, 1), (52, .putfield 31, 3, 0, 3), (55, .aload_n 0, 1, 0, 0), (56, .iconst 4, 1, 0, 0), (57, .newarray .int, 2, 0, 0), (59, .putfield 35, 3, 0, 4), (62, .aload_n 0, 1, 0, 0), (63, .getfield 35, 3, 0, 4), (66, .iconst (-1), 1, 0, 0), (67, .invokestatic 39, 3, 167, 2), (70, .aload_n 0, 1, 0, 0), (71, .new 45, 3, 2, 0), (74, .dup, 1, 0, 0), (75, .bipush (16), 2, 0, 0), (77, .invokespecial 47, 3, 91, 2), (80, .putfield 48, 3, 0, 5), (83, .aload_n 0, 1, 0, 0), (84, .new 45, 3, 2, 0), (87, .dup, 1, 0, 0), (88, .bipush (8), 2, 0, 0), (90, .invokespecial 47, 3, 91, 2), (93, .putfield 52, 3, 0, 6), (96, .aload_n 0, 1, 0, 0), (97, .new 55, 3, 5, 0), (100, .dup, 1, 0, 0), (101, .bipush (24), 2, 0, 0), (103, .invokespecial 57, 3, 75, 2), (106, .putfield 58, 3, 0, 7), (109, .aload_n 0, 1, 0, 0), (110, .new 55, 3, 5, 0), (113, .dup, 1, 0, 0), (114, .bipush (16), 2, 0, 0), (116, .invokespecial 57, 3, 75, 2), (119, .putfield 62, 3, 0, 8), (122, .aload_n 0, 1, 0, 0), (123, .new 65, 3, 6, 0), (126, .dup, 1, 0, 0), (127, .aload_n 0, 1, 0, 0), (128, .getfield 21, 3, 0, 1), (131, .aload_n 0, 1, 0, 0), (132, .getfield 14, 3, 0, 0), (135, .invokespecial 67, 3, 131, 3), (138, .putfield 70, 3, 0, 9), (141, .aload_n 0, 1, 0, 0), (142, .new 74, 3, 8, 0), (145, .dup, 1, 0, 0), (146, .aload_n 0, 1, 0, 0), (147, .getfield 14, 3, 0, 0), (150, .aload_n 0, 1, 0, 0), (151, .getfield 25, 3, 0, 2), (154, .invokespecial 76, 3, 109, 3), (157, .putfield 79, 3, 0, 10), (160, .return_, 1, 0, 0)]
-- 1 PackStore put
def vt1 : List (Nat × vI) := [(0, .iload_n 2, 1, 0, 0), (1, .iconst 1, 1, 0, 0), (2, .if_icmp .lt (19), 3, 0, 0), (5, .iload_n 2, 1, 0, 0), (6, .iconst 4, 1, 0, 0), (7, .if_icmp .gt (14), 3, 0, 0), (10, .iload_n 2, 1, 0, 0), (11, .aload_n 0, 1, 0, 0), (12, .getfield 14, 3, 0, 0), (15, .invokevirtual 83, 3, 143, 1), (18, .if_icmp .le (5), 3, 0, 0), (21, .iconst 0, 1, 0, 0), (22, .ireturn, 1, 0, 0), (23, .iload_n 2, 1, 0, 0), (24, .iconst 1, 1, 0, 0), (25, .isub, 1, 0, 0), (26, .istore_n 3, 1, 0, 0), (27, .iload_n 3, 1, 0, 0), (28, .ifCond .lt (26), 3, 0, 0), (31, .aload_n 0, 1, 0, 0), (32, .getfield 14, 3, 0, 0), (35, .iload_n 1, 1, 0, 0), (36, .bipush (8), 2, 0, 0), (38, .iload_n 3, 1, 0, 0), (39, .imul, 1, 0, 0), (40, .ishr, 1, 0, 0), (41, .sipush (255), 3, 0, 0), (44, .iand, 1, 0, 0), (45, .invokevirtual 87, 3, 147, 2), (48, .iinc 3 (-1), 3, 0, 0), (51, .goto (-24), 3, 0, 0), (54, .iconst 1, 1, 0, 0), (55, .ireturn, 1, 0, 0)]
-- 2 PackStore set
def vt2 : List (Nat × vI) := [(0, .iload_n 2, 1, 0, 0), (1, .ifCond .lt (10), 3, 0, 0), (4, .iload_n 2, 1, 0, 0), (5, .sipush (255), 3, 0, 0), (8, .if_icmp .le (5), 3, 0, 0), (11, .iconst 0, 1, 0, 0), (12, .ireturn, 1, 0, 0), (13, .aload_n 0, 1, 0, 0), (14, .getfield 14, 3, 0, 0), (17, .iload_n 1, 1, 0, 0), (18, .iload_n 2, 1, 0, 0), (19, .invokevirtual 90, 3, 151, 3), (22, .ireturn, 1, 0, 0)]
-- 3 PackStore cut
def vt3 : List (Nat × vI) := [(0, .aload_n 0, 1, 0, 0), (1, .getfield 14, 3, 0, 0), (4, .iload_n 1, 1, 0, 0), (5, .invokevirtual 94, 3, 152, 2), (8, .ireturn, 1, 0, 0)]
-- 4 PackStore size
def vt4 : List (Nat × vI) := [(0, .aload_n 0, 1, 0, 0), (1, .getfield 14, 3, 0, 0), (4, .invokevirtual 98, 3, 142, 1), (7, .ireturn, 1, 0, 0)]
-- 5 PackStore at
def vt5 : List (Nat × vI) := [(0, .aload_n 0, 1, 0, 0), (1, .getfield 14, 3, 0, 0), (4, .iload_n 1, 1, 0, 0), (5, .invokevirtual 101, 3, 144, 2), (8, .ireturn, 1, 0, 0)]
-- 6 PackStore store
def vt6 : List (Nat × vI) := [(0, .iload_n 1, 1, 0, 0), (1, .iconst 1, 1, 0, 0), (2, .if_icmp .lt (20), 3, 0, 0), (5, .iload_n 1, 1, 0, 0), (6, .iconst 3, 1, 0, 0), (7, .if_icmp .gt (15), 3, 0, 0), (10, .aload_n 0, 1, 0, 0), (11, .getfield 14, 3, 0, 0), (14, .invokevirtual 98, 3, 142, 1), (17, .bipush (24), 2, 0, 0), (19, .if_icmp .le (5), 3, 0, 0), (22, .iconst (-1), 1, 0, 0), (23, .ireturn, 1, 0, 0), (24, .aload_n 0, 1, 0, 0), (25, .getfield 31, 3, 0, 3), (28, .iload_n 1, 1, 0, 0), (29, .aload_n 0, 1, 0, 0), (30, .getfield 14, 3, 0, 0), (33, .invokevirtual 105, 3, 100, 3), (36, .aload_n 0, 1, 0, 0), (37, .getfield 21, 3, 0, 1), (40, .aload_n 0, 1, 0, 0), (41, .getfield 31, 3, 0, 3), (44, .invokevirtual 108, 3, 98, 1), (47, .invokevirtual 111, 3, 162, 2), (50, .istore_n 2, 1, 0, 0), (51, .iload_n 2, 1, 0, 0), (52, .ifCond .lt (23), 3, 0, 0), (55, .aload_n 0, 1, 0, 0), (56, .getfield 21, 3, 0, 1), (59, .iload_n 2, 1, 0, 0), (60, .invokevirtual 114, 3, 160, 2), (63, .aload_n 0, 1, 0, 0), (64, .getfield 31, 3, 0, 3), (67, .invokevirtual 117, 3, 102, 2), (70, .ifCond .ne (52), 3, 0, 0), (73, .iconst (-1), 1, 0, 0), (74, .ireturn, 1, 0, 0), (75, .aload_n 0, 1, 0, 0), (76, .getfield 21, 3, 0, 1), (79, .invokevirtual 121, 3, 159, 1), (82, .ifCond .eq (27), 3, 0, 0), (85, .aload_n 0, 1, 0, 0), (86, .getfield 31, 3, 0, 3), (89, .invokevirtual 122, 3, 104, 1), (92, .ifCond .eq (17), 3, 0, 0), (95, .aload_n 0, 1, 0, 0), (96, .getfield 21, 3, 0, 1), (99, .aload_n 0, 1, 0, 0), (100, .getfield 31, 3, 0, 3), (103, .invokevirtual 126, 3, 165, 2), (106, .ifCond .ne (5), 3, 0, 0), (109, .iconst (-1), 1, 0, 0), (110, .ireturn, 1, 0, 0), (111, .aload_n 0, 1, 0, 0), (112, .getfield 21, 3, 0, 1), (115, .aload_n 0, 1, 0, 0), (116, .getfield 31, 3, 0, 3), (119, .invokevirtual 129, 3, 163, 2), (122, .aload_n 0, 1, 0, 0), (123, .getfield 14, 3, 0, 0), (126, .invokevirtual 133, 3, 146, 1), (129, .aload_n 0, 1, 0, 0), (130, .getfield 31, 3, 0, 3), (133, .invokevirtual 108, 3, 98, 1), (136, .ireturn, 1, 0, 0)]
-- 7 PackStore point
def vt7 : List (Nat × vI) := [(0, .iload_n 1, 1, 0, 0), (1, .ifCond .lt (8), 3, 0, 0), (4, .iload_n 1, 1, 0, 0), (5, .iconst 4, 1, 0, 0), (6, .if_icmp .lt (5), 3, 0, 0), (9, .iconst 0, 1, 0, 0), (10, .ireturn, 1, 0, 0), (11, .aload_n 0, 1, 0, 0), (12, .getfield 21, 3, 0, 1), (15, .iload_n 2, 1, 0, 0), (16, .invokevirtual 111, 3, 162, 2), (19, .istore_n 3, 1, 0, 0), (20, .iload_n 3, 1, 0, 0), (21, .ifCond .lt (18), 3, 0, 0), (24, .aload_n 0, 1, 0, 0), (25, .getfield 21, 3, 0, 1), (28, .iload_n 3, 1, 0, 0), (29, .invokevirtual 114, 3, 160, 2), (32, .invokevirtual 136, 3, 97, 1), (35, .iconst 1, 1, 0, 0), (36, .if_icmp .eq (5), 3, 0, 0), (39, .iconst 0, 1, 0, 0), (40, .ireturn, 1, 0, 0), (41, .aload_n 0, 1, 0, 0), (42, .getfield 35, 3, 0, 4), (45, .iload_n 1, 1, 0, 0), (46, .iload_n 2, 1, 0, 0), (47, .iastore, 1, 0, 0), (48, .iconst 1, 1, 0, 0), (49, .ireturn, 1, 0, 0)]
-- 8 PackStore ref
def vt8 : List (Nat × vI) := [(0, .iload_n 1, 1, 0, 0), (1, .ifCond .lt (8), 3, 0, 0), (4, .iload_n 1, 1, 0, 0), (5, .iconst 4, 1, 0, 0), (6, .if_icmp .lt (7), 3, 0, 0), (9, .iconst (-1), 1, 0, 0), (10, .goto (9), 3, 0, 0), (13, .aload_n 0, 1, 0, 0), (14, .getfield 35, 3, 0, 4), (17, .iload_n 1, 1, 0, 0), (18, .iaload, 1, 0, 0), (19, .ireturn, 1, 0, 0)]
-- 9 PackStore want
def vt9 : List (Nat × vI) := [(0, .aload_n 0, 1, 0, 0), (1, .iload_n 1, 1, 0, 0), (2, .invokevirtual 139, 3, 19, 2), (5, .ifCond .ne (5), 3, 0, 0), (8, .iconst 0, 1, 0, 0), (9, .ireturn, 1, 0, 0), (10, .aload_n 0, 1, 0, 0), (11, .getfield 48, 3, 0, 5), (14, .iload_n 1, 1, 0, 0), (15, .invokevirtual 142, 3, 95, 2), (18, .pop, 1, 0, 0), (19, .iconst 1, 1, 0, 0), (20, .ireturn, 1, 0, 0)]
-- 10 PackStore have
def vt10 : List (Nat × vI) := [(0, .aload_n 0, 1, 0, 0), (1, .getfield 52, 3, 0, 6), (4, .iload_n 1, 1, 0, 0), (5, .invokevirtual 142, 3, 95, 2), (8, .ireturn, 1, 0, 0)]
-- 11 PackStore serve
def vt11 : List (Nat × vI) := [(0, .aload_n 0, 1, 0, 0), (1, .getfield 48, 3, 0, 5), (4, .invokevirtual 144, 3, 92, 1), (7, .ifCond .ne (5), 3, 0, 0), (10, .iconst (-1), 1, 0, 0), (11, .ireturn, 1, 0, 0), (12, .aload_n 0, 1, 0, 0), (13, .getfield 58, 3, 0, 7), (16, .invokevirtual 145, 3, 78, 1), (19, .iconst 0, 1, 0, 0), (20, .istore_n 1, 1, 0, 0), (21, .iload_n 1, 1, 0, 0), (22, .aload_n 0, 1, 0, 0), (23, .getfield 48, 3, 0, 5), (26, .invokevirtual 144, 3, 92, 1), (29, .if_icmp .ge (29), 3, 0, 0), (32, .aload_n 0, 1, 0, 0), (33, .getfield 58, 3, 0, 7), (36, .aload_n 0, 1, 0, 0), (37, .getfield 21, 3, 0, 1), (40, .aload_n 0, 1, 0, 0), (41, .getfield 48, 3, 0, 5), (44, .iload_n 1, 1, 0, 0), (45, .invokevirtual 146, 3, 93, 2), (48, .invokevirtual 147, 3, 79, 3), (51, .pop, 1, 0, 0), (52, .iinc 1 (1), 3, 0, 0), (55, .goto (-34), 3, 0, 0), (58, .aload_n 0, 1, 0, 0), (59, .getfield 62, 3, 0, 8), (62, .invokevirtual 145, 3, 78, 1), (65, .iconst 0, 1, 0, 0), (66, .istore_n 1, 1, 0, 0), (67, .iload_n 1, 1, 0, 0), (68, .aload_n 0, 1, 0, 0), (69, .getfield 52, 3, 0, 6), (72, .invokevirtual 144, 3, 92, 1), (75, .if_icmp .ge (29), 3, 0, 0), (78, .aload_n 0, 1, 0, 0), (79, .getfield 62, 3, 0, 8), (82, .aload_n 0, 1, 0, 0), (83, .getfield 21, 3, 0, 1), (86, .aload_n 0, 1, 0, 0), (87, .getfield 52, 3, 0, 6), (90, .iload_n 1, 1, 0, 0), (91, .invokevirtual 146, 3, 93, 2), (94, .invokevirtual 147, 3, 79, 3), (97, .pop, 1, 0, 0), (98, .iinc 1 (1), 3, 0, 0), (101, .goto (-34), 3, 0, 0), (104, .aload_n 0, 1, 0, 0), (105, .getfield 48, 3, 0, 5), (108, .invokevirtual 151, 3, 94, 1), (111, .aload_n 0, 1, 0, 0), (112, .getfield 52, 3, 0, 6), (115, .invokevirtual 151, 3, 94, 1), (118, .aload_n 0, 1, 0, 0), (119, .getfield 70, 3, 0, 9), (122, .aload_n 0, 1, 0, 0), (123, .getfield 58, 3, 0, 7), (126, .aload_n 0, 1, 0, 0), (127, .getfield 62, 3, 0, 8), (130, .invokevirtual 152, 3, 132, 3), (133, .ireturn, 1, 0, 0)]
-- 12 PackStore receive
def vt12 : List (Nat × vI) := [(0, .aload_n 0, 1, 0, 0), (1, .getfield 79, 3, 0, 10), (4, .invokevirtual 156, 3, 111, 1), (7, .ifCond .ne (13), 3, 0, 0), (10, .iconst (-1), 1, 0, 0), (11, .aload_n 0, 1, 0, 0), (12, .getfield 79, 3, 0, 10), (15, .invokevirtual 159, 3, 110, 1), (18, .isub, 1, 0, 0), (19, .ireturn, 1, 0, 0), (20, .aload_n 0, 1, 0, 0), (21, .getfield 79, 3, 0, 10), (24, .invokevirtual 162, 3, 123, 1), (27, .ifCond .ne (7), 3, 0, 0), (30, .sipush (-1000), 3, 0, 0), (33, .ireturn, 1, 0, 0), (34, .aload_n 0, 1, 0, 0), (35, .getfield 79, 3, 0, 10), (38, .invokevirtual 165, 3, 126, 1), (41, .ifCond .ne (7), 3, 0, 0), (44, .sipush (-1001), 3, 0, 0), (47, .ireturn, 1, 0, 0), (48, .aload_n 0, 1, 0, 0), (49, .getfield 79, 3, 0, 10), (52, .invokevirtual 168, 3, 128, 1), (55, .aload_n 0, 1, 0, 0), (56, .getfield 25, 3, 0, 2), (59, .invokevirtual 121, 3, 159, 1), (62, .if_icmp .le (7), 3, 0, 0), (65, .sipush (-1002), 3, 0, 0), (68, .ireturn, 1, 0, 0), (69, .aload_n 0, 1, 0, 0), (70, .getfield 79, 3, 0, 10), (73, .invokevirtual 171, 3, 130, 1), (76, .ireturn, 1, 0, 0)]
-- 13 PackStore forget
def vt13 : List (Nat × vI) := [(0, .aload_n 0, 1, 0, 0), (1, .getfield 25, 3, 0, 2), (4, .invokevirtual 174, 3, 158, 1), (7, .istore_n 1, 1, 0, 0), (8, .aload_n 0, 1, 0, 0), (9, .getfield 25, 3, 0, 2), (12, .invokevirtual 177, 3, 161, 1), (15, .iload_n 1, 1, 0, 0), (16, .ireturn, 1, 0, 0)]
-- 14 PackStore kind
def vt14 : List (Nat × vI) := [(0, .aload_n 0, 1, 0, 0), (1, .iload_n 1, 1, 0, 0), (2, .iload_n 2, 1, 0, 0), (3, .invokevirtual 178, 3, 21, 3), (6, .astore_n 3, 1, 0, 0), (7, .aload_n 3, 1, 0, 0), (8, .ifnonnull (7), 3, 0, 0), (11, .iconst 0, 1, 0, 0), (12, .goto (7), 3, 0, 0), (15, .aload_n 3, 1, 0, 0), (16, .invokevirtual 136, 3, 97, 1), (19, .ireturn, 1, 0, 0)]
-- 15 PackStore length
def vt15 : List (Nat × vI) := [(0, .aload_n 0, 1, 0, 0), (1, .iload_n 1, 1, 0, 0), (2, .iload_n 2, 1, 0, 0), (3, .invokevirtual 178, 3, 21, 3), (6, .astore_n 3, 1, 0, 0), (7, .aload_n 3, 1, 0, 0), (8, .ifnonnull (7), 3, 0, 0), (11, .iconst (-1), 1, 0, 0), (12, .goto (10), 3, 0, 0), (15, .aload_n 3, 1, 0, 0), (16, .invokevirtual 182, 3, 99, 1), (19, .invokevirtual 98, 3, 142, 1), (22, .ireturn, 1, 0, 0)]
-- 16 PackStore content
def vt16 : List (Nat × vI) := [(0, .aload_n 0, 1, 0, 0), (1, .iload_n 1, 1, 0, 0), (2, .iload_n 2, 1, 0, 0), (3, .invokevirtual 178, 3, 21, 3), (6, .astore 4, 2, 0, 0), (8, .aload 4, 2, 0, 0), (10, .ifnonnull (7), 3, 0, 0), (13, .iconst (-1), 1, 0, 0), (14, .goto (12), 3, 0, 0), (17, .aload 4, 2, 0, 0), (19, .invokevirtual 182, 3, 99, 1), (22, .iload_n 3, 1, 0, 0), (23, .invokevirtual 101, 3, 144, 2), (26, .ireturn, 1, 0, 0)]
-- 17 PackStore closure
def vt17 : List (Nat × vI) := [(0, .aload_n 0, 1, 0, 0), (1, .iload_n 1, 1, 0, 0), (2, .invokevirtual 186, 3, 20, 2), (5, .astore_n 3, 1, 0, 0), (6, .aload_n 3, 1, 0, 0), (7, .ifnonnull (5), 3, 0, 0), (10, .iconst (-1), 1, 0, 0), (11, .ireturn, 1, 0, 0), (12, .aload_n 0, 1, 0, 0), (13, .getfield 58, 3, 0, 7), (16, .invokevirtual 145, 3, 78, 1), (19, .aload_n 0, 1, 0, 0), (20, .getfield 58, 3, 0, 7), (23, .aload_n 3, 1, 0, 0), (24, .iload_n 2, 1, 0, 0), (25, .invokevirtual 147, 3, 79, 3), (28, .ifCond .eq (13), 3, 0, 0), (31, .aload_n 0, 1, 0, 0), (32, .getfield 58, 3, 0, 7), (35, .invokevirtual 190, 3, 76, 1), (38, .goto (4), 3, 0, 0), (41, .iconst (-1), 1, 0, 0), (42, .ireturn, 1, 0, 0)]
-- 18 PackStore count
def vt18 : List (Nat × vI) := [(0, .aload_n 0, 1, 0, 0), (1, .iload_n 1, 1, 0, 0), (2, .invokevirtual 186, 3, 20, 2), (5, .astore_n 2, 1, 0, 0), (6, .aload_n 2, 1, 0, 0), (7, .ifnonnull (7), 3, 0, 0), (10, .iconst (-1), 1, 0, 0), (11, .goto (7), 3, 0, 0), (14, .aload_n 2, 1, 0, 0), (15, .invokevirtual 174, 3, 158, 1), (18, .ireturn, 1, 0, 0)]
-- 19 PackStore isLedTo
def vt19 : List (Nat × vI) := [(0, .iload_n 1, 1, 0, 0), (1, .iconst (-1), 1, 0, 0), (2, .if_icmp .ne (5), 3, 0, 0), (5, .iconst 0, 1, 0, 0), (6, .ireturn, 1, 0, 0), (7, .iconst 0, 1, 0, 0), (8, .istore_n 2, 1, 0, 0), (9, .iload_n 2, 1, 0, 0), (10, .iconst 4, 1, 0, 0), (11, .if_icmp .ge (21), 3, 0, 0), (14, .aload_n 0, 1, 0, 0), (15, .getfield 35, 3, 0, 4), (18, .iload_n 2, 1, 0, 0), (19, .iaload, 1, 0, 0), (20, .iload_n 1, 1, 0, 0), (21, .if_icmp .ne (5), 3, 0, 0), (24, .iconst 1, 1, 0, 0), (25, .ireturn, 1, 0, 0), (26, .iinc 2 (1), 3, 0, 0), (29, .goto (-20), 3, 0, 0), (32, .iconst 0, 1, 0, 0), (33, .ireturn, 1, 0, 0)]
-- 20 PackStore shelfOf
def vt20 : List (Nat × vI) := [(0, .iload_n 1, 1, 0, 0), (1, .ifCond .ne (8), 3, 0, 0), (4, .aload_n 0, 1, 0, 0), (5, .getfield 21, 3, 0, 1), (8, .areturn, 1, 0, 0), (9, .iload_n 1, 1, 0, 0), (10, .iconst 1, 1, 0, 0), (11, .if_icmp .ne (10), 3, 0, 0), (14, .aload_n 0, 1, 0, 0), (15, .getfield 25, 3, 0, 2), (18, .goto (4), 3, 0, 0), (21, .aconst_null, 1, 0, 0), (22, .areturn, 1, 0, 0)]
-- 21 PackStore itemOn
def vt21 : List (Nat × vI) := [(0, .aload_n 0, 1, 0, 0), (1, .iload_n 1, 1, 0, 0), (2, .invokevirtual 186, 3, 20, 2), (5, .astore_n 3, 1, 0, 0), (6, .aload_n 3, 1, 0, 0), (7, .ifnonnull (5), 3, 0, 0), (10, .aconst_null, 1, 0, 0), (11, .areturn, 1, 0, 0), (12, .aload_n 3, 1, 0, 0), (13, .iload_n 2, 1, 0, 0), (14, .invokevirtual 111, 3, 162, 2), (17, .istore 4, 2, 0, 0), (19, .iload 4, 2, 0, 0), (21, .ifCond .ge (7), 3, 0, 0), (24, .aconst_null, 1, 0, 0), (25, .goto (9), 3, 0, 0), (28, .aload_n 3, 1, 0, 0), (29, .iload 4, 2, 0, 0), (31, .invokevirtual 114, 3, 160, 2), (34, .areturn, 1, 0, 0)]
-- 22 PackStore hashStep
def vt22 : List (Nat × vI) := [(0, .iload_n 0, 1, 0, 0), (1, .sipush (257), 3, 0, 0), (4, .imul, 1, 0, 0), (5, .iload_n 1, 1, 0, 0), (6, .iadd, 1, 0, 0), (7, .ldc 193, 2, 65521, 0), (9, .irem, 1, 0, 0), (10, .ireturn, 1, 0, 0)]
-- 23 PackStoreModel init
def vt23 : List (Nat × vI) := [(0, .aload_n 0, 1, 0, 0), (1, .invokespecial 1, 3, 1000, 0), (4, .aload_n 0, 1, 0, 0), (5, .sipush (640), 3, 0, 0), (8, .newarray .int, 2, 0, 0), (10, .putfield 7, 3, 9, 0), (13, .aload_n 0, 1, 0, 0), (14, .iconst 2, 1, 0, 0), (15, .newarray .int, 2, 0, 0), (17, .putfield 13, 3, 9, 2), (20, .aload_n 0, 1, 0, 0), (21, .bipush (57), 2, 0, 0), (23, .newarray .int, 2, 0, 0), (25, .putfield 16, 3, 9, 3), (28, .aload_n 0, 1, 0, 0), (29, .bipush (57), 2, 0, 0), (31, .newarray .int, 2, 0, 0), (33, .putfield 19, 3, 9, 4), (36, .aload_n 0, 1, 0, 0), (37, .sipush (1368), 3, 0, 0), (40, .newarray .int, 2, 0, 0), (42, .putfield 22, 3, 9, 5), (45, .aload_n 0, 1, 0, 0), (46, .bipush (40), 2, 0, 0), (48, .newarray .boolean, 2, 0, 0), (50, .putfield 25, 3, 9, 6), (53, .aload_n 0, 1, 0, 0), (54, .iconst 4, 1, 0, 0), (55, .newarray .int, 2, 0, 0), (57, .putfield 29, 3, 9, 8), (60, .aload_n 0, 1, 0, 0), (61, .bipush (16), 2, 0, 0), (63, .newarray .boolean, 2, 0, 0), (65, .putfield 32, 3, 9, 9), (68, .aload_n 0, 1, 0, 0), (69, .bipush (8), 2, 0, 0), (71, .newarray .int, 2, 0, 0), (73, .putfield 35, 3, 9, 12), (76, .aload_n 0, 1, 0, 0), (77, .bipush (16), 2, 0, 0), (79, .newarray .int, 2, 0, 0), (81, .putfield 38, 3, 9, 14), (84, .aload_n 0, 1, 0, 0), (85, .bipush (16), 2, 0, 0), (87, .newarray .int, 2, 0, 0), (89, .putfield 41, 3, 9, 15), (92, .aload_n 0, 1, 0, 0), (93, .sipush (256), 3, 0, 0), (96, .newarray .int, 2, 0, 0), (98, .putfield 44, 3, 9, 17), (101, .aload_n 0, 1, 0, 0), (102, .bipush (16), 2, 0, 0), (104, .newarray .int, 2, 0, 0), (106, .putfield 47, 3, 9, 20), (109, .aload_n 0, 1, 0, 0), (110, .bipush (16), 2, 0, 0), (112, .newarray .int, 2, 0, 0), (114, .putfield 50, 3, 9, 21), (117, .aload_n 0, 1, 0, 0), (118, .bipush (16), 2, 0, 0), (120, .newarray .int, 2, 0, 0), (122, .putfield 53, 3, 9, 22), (125, .aload_n 0, 1, 0, 0), (126, .sipush (4096), 3, 0, 0), (129, .newarray .int, 2, 0, 0), (131, .putfield 56, 3, 9, 23), (134, .aload_n 0, 1, 0, 0), (135, .bipush (16), 2, 0, 0), (137, .newarray .boolean, 2, 0, 0), (139, .putfield 59, 3, 9, 24), (142, .iconst 0, 1, 0, 0), (143, .istore_n 1, 1, 0, 0), (144, .iload_n 1, 1, 0, 0), (145, .iconst 4, 1, 0, 0), (146, .if_icmp .ge (16), 3, 0, 0), (149, .aload_n 0, 1, 0, 0), (150, .getfield 29, 3, 9, 8), (153, .iload_n 1, 1, 0, 0), (154, .iconst (-1), 1, 0, 0), (155, .iastore, 1, 0, 0), (156, .iinc 1 (1), 3, 0, 0), (159, .goto (-15), 3, 0, 0), (162, .return_, 1, 0, 0)]
-- 24 PackStoreModel in
def vt24 : List (Nat × vI) := [(0, .iload_n 0, 1, 0, 0), (1, .iload_n 1, 1, 0, 0), (2, .if_icmp .lt (12), 3, 0, 0), (5, .iload_n 0, 1, 0, 0), (6, .iload_n 2, 1, 0, 0), (7, .if_icmp .gt (7), 3, 0, 0), (10, .iconst 1, 1, 0, 0), (11, .goto (4), 3, 0, 0), (14, .iconst 0, 1, 0, 0), (15, .ireturn, 1, 0, 0)]
-- 25 PackStoreModel fold
def vt25 : List (Nat × vI) := [(0, .iload_n 0, 1, 0, 0), (1, .sipush (257), 3, 0, 0), (4, .imul, 1, 0, 0), (5, .iload_n 1, 1, 0, 0), (6, .iadd, 1, 0, 0), (7, .ldc 62, 2, 65521, 0), (9, .irem, 1, 0, 0), (10, .ireturn, 1, 0, 0)]
-- 26 PackStoreModel put
def vt26 : List (Nat × vI) := [(0, .iload_n 2, 1, 0, 0), (1, .iconst 1, 1, 0, 0), (2, .iconst 4, 1, 0, 0), (3, .invokestatic 63, 3, 24, 3), (6, .ifCond .eq (15), 3, 0, 0), (9, .aload_n 0, 1, 0, 0), (10, .getfield 67, 3, 9, 1), (13, .iload_n 2, 1, 0, 0), (14, .iadd, 1, 0, 0), (15, .sipush (500), 3, 0, 0), (18, .if_icmp .le (5), 3, 0, 0), (21, .iconst 0, 1, 0, 0), (22, .ireturn, 1, 0, 0), (23, .iload_n 2, 1, 0, 0), (24, .iconst 1, 1, 0, 0), (25, .isub, 1, 0, 0), (26, .istore_n 3, 1, 0, 0), (27, .iload_n 3, 1, 0, 0), (28, .ifCond .lt (38), 3, 0, 0), (31, .aload_n 0, 1, 0, 0), (32, .getfield 7, 3, 9, 0), (35, .aload_n 0, 1, 0, 0), (36, .getfield 67, 3, 9, 1), (39, .iload_n 1, 1, 0, 0), (40, .bipush (8), 2, 0, 0), (42, .iload_n 3, 1, 0, 0), (43, .imul, 1, 0, 0), (44, .ishr, 1, 0, 0), (45, .sipush (255), 3, 0, 0), (48, .iand, 1, 0, 0), (49, .iastore, 1, 0, 0), (50, .aload_n 0, 1, 0, 0), (51, .aload_n 0, 1, 0, 0), (52, .getfield 67, 3, 9, 1), (55, .iconst 1, 1, 0, 0), (56, .iadd, 1, 0, 0), (57, .putfield 67, 3, 9, 1), (60, .iinc 3 (-1), 3, 0, 0), (63, .goto (-36), 3, 0, 0), (66, .iconst 1, 1, 0, 0), (67, .ireturn, 1, 0, 0)]
-- 27 PackStoreModel set
def vt27 : List (Nat × vI) := [(0, .iload_n 1, 1, 0, 0), (1, .iconst 0, 1, 0, 0), (2, .aload_n 0, 1, 0, 0), (3, .getfield 67, 3, 9, 1), (6, .iconst 1, 1, 0, 0), (7, .isub, 1, 0, 0), (8, .invokestatic 63, 3, 24, 3), (11, .ifCond .eq (14), 3, 0, 0), (14, .iload_n 2, 1, 0, 0), (15, .iconst 0, 1, 0, 0), (16, .sipush (255), 3, 0, 0), (19, .invokestatic 63, 3, 24, 3), (22, .ifCond .ne (5), 3, 0, 0), (25, .iconst 0, 1, 0, 0), (26, .ireturn, 1, 0, 0), (27, .aload_n 0, 1, 0, 0), (28, .getfield 7, 3, 9, 0), (31, .iload_n 1, 1, 0, 0), (32, .iload_n 2, 1, 0, 0), (33, .iastore, 1, 0, 0), (34, .iconst 1, 1, 0, 0), (35, .ireturn, 1, 0, 0)]
-- 28 PackStoreModel cut
def vt28 : List (Nat × vI) := [(0, .iload_n 1, 1, 0, 0), (1, .iconst 0, 1, 0, 0), (2, .aload_n 0, 1, 0, 0), (3, .getfield 67, 3, 9, 1), (6, .invokestatic 63, 3, 24, 3), (9, .ifCond .ne (5), 3, 0, 0), (12, .iconst 0, 1, 0, 0), (13, .ireturn, 1, 0, 0), (14, .aload_n 0, 1, 0, 0), (15, .iload_n 1, 1, 0, 0), (16, .putfield 67, 3, 9, 1), (19, .iconst 1, 1, 0, 0), (20, .ireturn, 1, 0, 0)]
-- 29 PackStoreModel size
def vt29 : List (Nat × vI) := [(0, .aload_n 0, 1, 0, 0), (1, .getfield 67, 3, 9, 1), (4, .ireturn, 1, 0, 0)]
-- 30 PackStoreModel at
def vt30 : List (Nat × vI) := [(0, .iload_n 1, 1, 0, 0), (1, .iconst 0, 1, 0, 0), (2, .aload_n 0, 1, 0, 0), (3, .getfield 67, 3, 9, 1), (6, .iconst 1, 1, 0, 0), (7, .isub, 1, 0, 0), (8, .invokestatic 63, 3, 24, 3), (11, .ifCond .eq (12), 3, 0, 0), (14, .aload_n 0, 1, 0, 0), (15, .getfield 7, 3, 9, 0), (18, .iload_n 1, 1, 0, 0), (19, .iaload, 1, 0, 0), (20, .goto (4), 3, 0, 0), (23, .iconst (-1), 1, 0, 0), (24, .ireturn, 1, 0, 0)]
-- 31 PackStoreModel idOf
def vt31 : List (Nat × vI) := [(0, .bipush (7), 2, 0, 0), (2, .aload_n 0, 1, 0, 0), (3, .getfield 16, 3, 9, 3), (6, .iload_n 1, 1, 0, 0), (7, .iaload, 1, 0, 0), (8, .invokestatic 71, 3, 25, 2), (11, .istore_n 2, 1, 0, 0), (12, .iload_n 2, 1, 0, 0), (13, .aload_n 0, 1, 0, 0), (14, .getfield 19, 3, 9, 4), (17, .iload_n 1, 1, 0, 0), (18, .iaload, 1, 0, 0), (19, .invokestatic 71, 3, 25, 2), (22, .istore_n 2, 1, 0, 0), (23, .iconst 0, 1, 0, 0), (24, .istore_n 3, 1, 0, 0), (25, .iload_n 3, 1, 0, 0), (26, .aload_n 0, 1, 0, 0), (27, .getfield 19, 3, 9, 4), (30, .iload_n 1, 1, 0, 0), (31, .iaload, 1, 0, 0), (32, .if_icmp .ge (25), 3, 0, 0), (35, .iload_n 2, 1, 0, 0), (36, .aload_n 0, 1, 0, 0), (37, .getfield 22, 3, 9, 5), (40, .bipush (24), 2, 0, 0), (42, .iload_n 1, 1, 0, 0), (43, .imul, 1, 0, 0), (44, .iload_n 3, 1, 0, 0), (45, .iadd, 1, 0, 0), (46, .iaload, 1, 0, 0), (47, .invokestatic 71, 3, 25, 2), (50, .istore_n 2, 1, 0, 0), (51, .iinc 3 (1), 3, 0, 0), (54, .goto (-29), 3, 0, 0), (57, .iload_n 2, 1, 0, 0), (58, .ireturn, 1, 0, 0)]
-- 32 PackStoreModel start
def vt32 : List (Nat × vI) := [(0, .iload_n 0, 1, 0, 0), (1, .ifCond .ne (7), 3, 0, 0), (4, .iconst 0, 1, 0, 0), (5, .goto (5), 3, 0, 0), (8, .bipush (16), 2, 0, 0), (10, .ireturn, 1, 0, 0)]
-- 33 PackStoreModel find
def vt33 : List (Nat × vI) := [(0, .iconst (-1), 1, 0, 0), (1, .istore_n 3, 1, 0, 0), (2, .iload_n 1, 1, 0, 0), (3, .invokestatic 75, 3, 32, 1), (6, .istore 4, 2, 0, 0), (8, .iload 4, 2, 0, 0), (10, .iload_n 1, 1, 0, 0), (11, .invokestatic 75, 3, 32, 1), (14, .aload_n 0, 1, 0, 0), (15, .getfield 13, 3, 9, 2), (18, .iload_n 1, 1, 0, 0), (19, .iaload, 1, 0, 0), (20, .iadd, 1, 0, 0), (21, .if_icmp .ge (26), 3, 0, 0), (24, .aload_n 0, 1, 0, 0), (25, .iload 4, 2, 0, 0), (27, .invokevirtual 79, 3, 31, 2), (30, .iload_n 2, 1, 0, 0), (31, .if_icmp .ne (8), 3, 0, 0), (34, .iload 4, 2, 0, 0), (36, .goto (4), 3, 0, 0), (39, .iload_n 3, 1, 0, 0), (40, .istore_n 3, 1, 0, 0), (41, .iinc 4 (1), 3, 0, 0), (44, .goto (-36), 3, 0, 0), (47, .iload_n 3, 1, 0, 0), (48, .ireturn, 1, 0, 0)]
-- 34 PackStoreModel same
def vt34 : List (Nat × vI) := [(0, .aload_n 0, 1, 0, 0), (1, .getfield 16, 3, 9, 3), (4, .iload_n 1, 1, 0, 0), (5, .iaload, 1, 0, 0), (6, .aload_n 0, 1, 0, 0), (7, .getfield 16, 3, 9, 3), (10, .iload_n 2, 1, 0, 0), (11, .iaload, 1, 0, 0), (12, .if_icmp .ne (22), 3, 0, 0), (15, .aload_n 0, 1, 0, 0), (16, .getfield 19, 3, 9, 4), (19, .iload_n 1, 1, 0, 0), (20, .iaload, 1, 0, 0), (21, .aload_n 0, 1, 0, 0), (22, .getfield 19, 3, 9, 4), (25, .iload_n 2, 1, 0, 0), (26, .iaload, 1, 0, 0), (27, .if_icmp .ne (7), 3, 0, 0), (30, .iconst 1, 1, 0, 0), (31, .goto (4), 3, 0, 0), (34, .iconst 0, 1, 0, 0), (35, .istore_n 3, 1, 0, 0), (36, .iconst 0, 1, 0, 0), (37, .istore 4, 2, 0, 0), (39, .iload 4, 2, 0, 0), (41, .bipush (24), 2, 0, 0), (43, .if_icmp .ge (57), 3, 0, 0), (46, .iload_n 3, 1, 0, 0), (47, .ifCond .eq (45), 3, 0, 0), (50, .iload 4, 2, 0, 0), (52, .aload_n 0, 1, 0, 0), (53, .getfield 19, 3, 9, 4), (56, .iload_n 1, 1, 0, 0), (57, .iaload, 1, 0, 0), (58, .if_icmp .ge (30), 3, 0, 0), (61, .aload_n 0, 1, 0, 0), (62, .getfield 22, 3, 9, 5), (65, .bipush (24), 2, 0, 0), (67, .iload_n 1, 1, 0, 0), (68, .imul, 1, 0, 0), (69, .iload 4, 2, 0, 0), (71, .iadd, 1, 0, 0), (72, .iaload, 1, 0, 0), (73, .aload_n 0, 1, 0, 0), (74, .getfield 22, 3, 9, 5), (77, .bipush (24), 2, 0, 0), (79, .iload_n 2, 1, 0, 0), (80, .imul, 1, 0, 0), (81, .iload 4, 2, 0, 0), (83, .iadd, 1, 0, 0), (84, .iaload, 1, 0, 0), (85, .if_icmp .ne (7), 3, 0, 0), (88, .iconst 1, 1, 0, 0), (89, .goto (4), 3, 0, 0), (92, .iconst 0, 1, 0, 0), (93, .istore_n 3, 1, 0, 0), (94, .iinc 4 (1), 3, 0, 0), (97, .goto (-58), 3, 0, 0), (100, .iload_n 3, 1, 0, 0), (101, .ireturn, 1, 0, 0)]
-- 35 PackStoreModel wellFormed
def vt35 : List (Nat × vI) := [(0, .aload_n 0, 1, 0, 0), (1, .getfield 19, 3, 9, 4), (4, .iload_n 1, 1, 0, 0), (5, .iaload, 1, 0, 0), (6, .istore_n 2, 1, 0, 0), (7, .aload_n 0, 1, 0, 0), (8, .getfield 16, 3, 9, 3), (11, .iload_n 1, 1, 0, 0), (12, .iaload, 1, 0, 0), (13, .iconst 1, 1, 0, 0), (14, .if_icmp .ne (25), 3, 0, 0), (17, .iload_n 2, 1, 0, 0), (18, .iconst 3, 1, 0, 0), (19, .if_icmp .eq (14), 3, 0, 0), (22, .iload_n 2, 1, 0, 0), (23, .iconst 5, 1, 0, 0), (24, .if_icmp .eq (9), 3, 0, 0), (27, .iload_n 2, 1, 0, 0), (28, .bipush (7), 2, 0, 0), (30, .if_icmp .ne (7), 3, 0, 0), (33, .iconst 1, 1, 0, 0), (34, .goto (4), 3, 0, 0), (37, .iconst 0, 1, 0, 0), (38, .ireturn, 1, 0, 0), (39, .aload_n 0, 1, 0, 0), (40, .getfield 16, 3, 9, 3), (43, .iload_n 1, 1, 0, 0), (44, .iaload, 1, 0, 0), (45, .iconst 3, 1, 0, 0), (46, .if_icmp .eq (9), 3, 0, 0), (49, .iload_n 2, 1, 0, 0), (50, .iconst 3, 1, 0, 0), (51, .irem, 1, 0, 0), (52, .ifCond .ne (7), 3, 0, 0), (55, .iconst 1, 1, 0, 0), (56, .goto (4), 3, 0, 0), (59, .iconst 0, 1, 0, 0), (60, .istore_n 3, 1, 0, 0), (61, .iconst 3, 1, 0, 0), (62, .istore 4, 2, 0, 0), (64, .iload 4, 2, 0, 0), (66, .iload_n 2, 1, 0, 0), (67, .if_icmp .ge (58), 3, 0, 0), (70, .aload_n 0, 1, 0, 0), (71, .getfield 16, 3, 9, 3), (74, .iload_n 1, 1, 0, 0), (75, .iaload, 1, 0, 0), (76, .iconst 2, 1, 0, 0), (77, .if_icmp .ne (48), 3, 0, 0), (80, .iload_n 3, 1, 0, 0), (81, .ifCond .eq (36), 3, 0, 0), (84, .aload_n 0, 1, 0, 0), (85, .getfield 22, 3, 9, 5), (88, .bipush (24), 2, 0, 0), (90, .iload_n 1, 1, 0, 0), (91, .imul, 1, 0, 0), (92, .iload 4, 2, 0, 0), (94, .iadd, 1, 0, 0), (95, .iaload, 1, 0, 0), (96, .aload_n 0, 1, 0, 0), (97, .getfield 22, 3, 9, 5), (100, .bipush (24), 2, 0, 0), (102, .iload_n 1, 1, 0, 0), (103, .imul, 1, 0, 0), (104, .iload 4, 2, 0, 0), (106, .iadd, 1, 0, 0), (107, .iconst 3, 1, 0, 0), (108, .isub, 1, 0, 0), (109, .iaload, 1, 0, 0), (110, .if_icmp .le (7), 3, 0, 0), (113, .iconst 1, 1, 0, 0), (114, .goto (4), 3, 0, 0), (117, .iconst 0, 1, 0, 0), (118, .istore_n 3, 1, 0, 0), (119, .iinc 4 (3), 3, 0, 0), (122, .goto (-58), 3, 0, 0), (125, .iload_n 3, 1, 0, 0), (126, .ireturn, 1, 0, 0)]
-- 36 PackStoreModel names
def vt36 : List (Nat × vI) := [(0, .aload_n 0, 1, 0, 0), (1, .getfield 16, 3, 9, 3), (4, .iload_n 1, 1, 0, 0), (5, .iaload, 1, 0, 0), (6, .iconst 1, 1, 0, 0), (7, .if_icmp .ne (14), 3, 0, 0), (10, .aload_n 0, 1, 0, 0), (11, .getfield 19, 3, 9, 4), (14, .iload_n 1, 1, 0, 0), (15, .iaload, 1, 0, 0), (16, .iconst 2, 1, 0, 0), (17, .idiv, 1, 0, 0), (18, .goto (25), 3, 0, 0), (21, .aload_n 0, 1, 0, 0), (22, .getfield 16, 3, 9, 3), (25, .iload_n 1, 1, 0, 0), (26, .iaload, 1, 0, 0), (27, .iconst 2, 1, 0, 0), (28, .if_icmp .ne (14), 3, 0, 0), (31, .aload_n 0, 1, 0, 0), (32, .getfield 19, 3, 9, 4), (35, .iload_n 1, 1, 0, 0), (36, .iaload, 1, 0, 0), (37, .iconst 3, 1, 0, 0), (38, .idiv, 1, 0, 0), (39, .goto (4), 3, 0, 0), (42, .iconst 0, 1, 0, 0), (43, .ireturn, 1, 0, 0)]
-- 37 PackStoreModel named
def vt37 : List (Nat × vI) := [(0, .bipush (24), 2, 0, 0), (2, .iload_n 2, 1, 0, 0), (3, .imul, 1, 0, 0), (4, .aload_n 0, 1, 0, 0), (5, .getfield 16, 3, 9, 3), (8, .iload_n 2, 1, 0, 0), (9, .iaload, 1, 0, 0), (10, .iconst 1, 1, 0, 0), (11, .if_icmp .ne (9), 3, 0, 0), (14, .iconst 2, 1, 0, 0), (15, .iload_n 3, 1, 0, 0), (16, .imul, 1, 0, 0), (17, .goto (8), 3, 0, 0), (20, .iconst 3, 1, 0, 0), (21, .iload_n 3, 1, 0, 0), (22, .imul, 1, 0, 0), (23, .iconst 1, 1, 0, 0), (24, .iadd, 1, 0, 0), (25, .iadd, 1, 0, 0), (26, .istore 4, 2, 0, 0), (28, .aload_n 0, 1, 0, 0), (29, .iload_n 1, 1, 0, 0), (30, .sipush (256), 3, 0, 0), (33, .aload_n 0, 1, 0, 0), (34, .getfield 22, 3, 9, 5), (37, .iload 4, 2, 0, 0), (39, .iaload, 1, 0, 0), (40, .imul, 1, 0, 0), (41, .aload_n 0, 1, 0, 0), (42, .getfield 22, 3, 9, 5), (45, .iload 4, 2, 0, 0), (47, .iconst 1, 1, 0, 0), (48, .iadd, 1, 0, 0), (49, .iaload, 1, 0, 0), (50, .iadd, 1, 0, 0), (51, .invokevirtual 82, 3, 33, 3), (54, .istore 5, 2, 0, 0), (56, .iload 5, 2, 0, 0), (58, .ifCond .lt (60), 3, 0, 0), (61, .aload_n 0, 1, 0, 0), (62, .getfield 16, 3, 9, 3), (65, .iload_n 2, 1, 0, 0), (66, .iaload, 1, 0, 0), (67, .iconst 2, 1, 0, 0), (68, .if_icmp .ne (17), 3, 0, 0), (71, .aload_n 0, 1, 0, 0), (72, .getfield 16, 3, 9, 3), (75, .iload 5, 2, 0, 0), (77, .iaload, 1, 0, 0), (78, .iconst 1, 1, 0, 0), (79, .if_icmp .le (39), 3, 0, 0), (82, .goto (32), 3, 0, 0), (85, .iload_n 3, 1, 0, 0), (86, .ifCond .ne (17), 3, 0, 0), (89, .aload_n 0, 1, 0, 0), (90, .getfield 16, 3, 9, 3), (93, .iload 5, 2, 0, 0), (95, .iaload, 1, 0, 0), (96, .iconst 2, 1, 0, 0), (97, .if_icmp .ne (21), 3, 0, 0), (100, .goto (14), 3, 0, 0), (103, .aload_n 0, 1, 0, 0), (104, .getfield 16, 3, 9, 3), (107, .iload 5, 2, 0, 0), (109, .iaload, 1, 0, 0), (110, .iconst 1, 1, 0, 0), (111, .if_icmp .ne (7), 3, 0, 0), (114, .iconst 1, 1, 0, 0), (115, .goto (4), 3, 0, 0), (118, .iconst 0, 1, 0, 0), (119, .istore 6, 2, 0, 0), (121, .iload 6, 2, 0, 0), (123, .ifCond .eq (8), 3, 0, 0), (126, .iload 5, 2, 0, 0), (128, .goto (4), 3, 0, 0), (131, .iconst (-1), 1, 0, 0), (132, .ireturn, 1, 0, 0)]
-- 38 PackStoreModel close
def vt38 : List (Nat × vI) := [(0, .aload_n 0, 1, 0, 0), (1, .getfield 25, 3, 9, 6), (4, .iload_n 2, 1, 0, 0), (5, .iconst 1, 1, 0, 0), (6, .bastore, 1, 0, 0), (7, .aload_n 0, 1, 0, 0), (8, .iconst 1, 1, 0, 0), (9, .putfield 85, 3, 9, 7), (12, .iconst 1, 1, 0, 0), (13, .istore_n 3, 1, 0, 0), (14, .iconst 0, 1, 0, 0), (15, .istore 4, 2, 0, 0), (17, .iload 4, 2, 0, 0), (19, .bipush (24), 2, 0, 0), (21, .if_icmp .gt (143), 3, 0, 0), (24, .iload_n 3, 1, 0, 0), (25, .ifCond .eq (139), 3, 0, 0), (28, .iconst 0, 1, 0, 0), (29, .istore_n 3, 1, 0, 0), (30, .iload_n 1, 1, 0, 0), (31, .invokestatic 75, 3, 32, 1), (34, .istore 5, 2, 0, 0), (36, .iload 5, 2, 0, 0), (38, .iload_n 1, 1, 0, 0), (39, .invokestatic 75, 3, 32, 1), (42, .aload_n 0, 1, 0, 0), (43, .getfield 13, 3, 9, 2), (46, .iload_n 1, 1, 0, 0), (47, .iaload, 1, 0, 0), (48, .iadd, 1, 0, 0), (49, .if_icmp .ge (109), 3, 0, 0), (52, .iconst 0, 1, 0, 0), (53, .istore 6, 2, 0, 0), (55, .aload_n 0, 1, 0, 0), (56, .getfield 25, 3, 9, 6), (59, .iload 5, 2, 0, 0), (61, .baload, 1, 0, 0), (62, .ifCond .eq (90), 3, 0, 0), (65, .iload 6, 2, 0, 0), (67, .aload_n 0, 1, 0, 0), (68, .iload 5, 2, 0, 0), (70, .invokevirtual 89, 3, 36, 2), (73, .if_icmp .ge (79), 3, 0, 0), (76, .aload_n 0, 1, 0, 0), (77, .iload_n 1, 1, 0, 0), (78, .iload 5, 2, 0, 0), (80, .iload 6, 2, 0, 0), (82, .invokevirtual 92, 3, 37, 4), (85, .istore 7, 2, 0, 0), (87, .aload_n 0, 1, 0, 0), (88, .aload_n 0, 1, 0, 0), (89, .getfield 85, 3, 9, 7), (92, .ifCond .eq (12), 3, 0, 0), (95, .iload 7, 2, 0, 0), (97, .ifCond .lt (7), 3, 0, 0), (100, .iconst 1, 1, 0, 0), (101, .goto (4), 3, 0, 0), (104, .iconst 0, 1, 0, 0), (105, .putfield 85, 3, 9, 7), (108, .iload_n 3, 1, 0, 0), (109, .ifCond .ne (18), 3, 0, 0), (112, .iload 7, 2, 0, 0), (114, .ifCond .lt (17), 3, 0, 0), (117, .aload_n 0, 1, 0, 0), (118, .getfield 25, 3, 9, 6), (121, .iload 7, 2, 0, 0), (123, .baload, 1, 0, 0), (124, .ifCond .ne (7), 3, 0, 0), (127, .iconst 1, 1, 0, 0), (128, .goto (4), 3, 0, 0), (131, .iconst 0, 1, 0, 0), (132, .istore_n 3, 1, 0, 0), (133, .iload 7, 2, 0, 0), (135, .ifCond .lt (11), 3, 0, 0), (138, .aload_n 0, 1, 0, 0), (139, .getfield 25, 3, 9, 6), (142, .iload 7, 2, 0, 0), (144, .iconst 1, 1, 0, 0), (145, .bastore, 1, 0, 0), (146, .iinc 6 (1), 3, 0, 0), (149, .goto (-94), 3, 0, 0), (152, .iinc 5 (1), 3, 0, 0), (155, .goto (-119), 3, 0, 0), (158, .iinc 4 (1), 3, 0, 0), (161, .goto (-144), 3, 0, 0), (164, .return_, 1, 0, 0)]
-- 39 PackStoreModel unmark
def vt39 : List (Nat × vI) := [(0, .iconst 0, 1, 0, 0), (1, .istore_n 1, 1, 0, 0), (2, .iload_n 1, 1, 0, 0), (3, .bipush (40), 2, 0, 0), (5, .if_icmp .ge (16), 3, 0, 0), (8, .aload_n 0, 1, 0, 0), (9, .getfield 25, 3, 9, 6), (12, .iload_n 1, 1, 0, 0), (13, .iconst 0, 1, 0, 0), (14, .bastore, 1, 0, 0), (15, .iinc 1 (1), 3, 0, 0), (18, .goto (-16), 3, 0, 0), (21, .return_, 1, 0, 0)]
-- 40 PackStoreModel store
def vt40 : List (Nat × vI) := [(0, .iload_n 1, 1, 0, 0), (1, .iconst 1, 1, 0, 0), (2, .iconst 3, 1, 0, 0), (3, .invokestatic 63, 3, 24, 3), (6, .ifCond .eq (12), 3, 0, 0), (9, .aload_n 0, 1, 0, 0), (10, .getfield 67, 3, 9, 1), (13, .bipush (24), 2, 0, 0), (15, .if_icmp .le (5), 3, 0, 0), (18, .iconst (-1), 1, 0, 0), (19, .ireturn, 1, 0, 0), (20, .aload_n 0, 1, 0, 0), (21, .getfield 13, 3, 9, 2), (24, .iconst 0, 1, 0, 0), (25, .iaload, 1, 0, 0), (26, .istore_n 2, 1, 0, 0), (27, .aload_n 0, 1, 0, 0), (28, .getfield 16, 3, 9, 3), (31, .bipush (56), 2, 0, 0), (33, .iload_n 1, 1, 0, 0), (34, .iastore, 1, 0, 0), (35, .aload_n 0, 1, 0, 0), (36, .getfield 19, 3, 9, 4), (39, .bipush (56), 2, 0, 0), (41, .aload_n 0, 1, 0, 0), (42, .getfield 67, 3, 9, 1), (45, .iastore, 1, 0, 0), (46, .iconst 0, 1, 0, 0), (47, .istore_n 3, 1, 0, 0), (48, .iload_n 3, 1, 0, 0), (49, .aload_n 0, 1, 0, 0), (50, .getfield 67, 3, 9, 1), (53, .if_icmp .ge (25), 3, 0, 0), (56, .aload_n 0, 1, 0, 0), (57, .getfield 22, 3, 9, 5), (60, .sipush (1344), 3, 0, 0), (63, .iload_n 3, 1, 0, 0), (64, .iadd, 1, 0, 0), (65, .aload_n 0, 1, 0, 0), (66, .getfield 7, 3, 9, 0), (69, .iload_n 3, 1, 0, 0), (70, .iaload, 1, 0, 0), (71, .iastore, 1, 0, 0), (72, .iinc 3 (1), 3, 0, 0), (75, .goto (-27), 3, 0, 0), (78, .aload_n 0, 1, 0, 0), (79, .bipush (56), 2, 0, 0), (81, .invokevirtual 79, 3, 31, 2), (84, .istore_n 3, 1, 0, 0), (85, .aload_n 0, 1, 0, 0), (86, .iconst 0, 1, 0, 0), (87, .iload_n 3, 1, 0, 0), (88, .invokevirtual 82, 3, 33, 3), (91, .istore 4, 2, 0, 0), (93, .aload_n 0, 1, 0, 0), (94, .bipush (56), 2, 0, 0), (96, .invokevirtual 96, 3, 35, 2), (99, .ifCond .eq (32), 3, 0, 0), (102, .iload 4, 2, 0, 0), (104, .ifCond .ge (12), 3, 0, 0), (107, .iload_n 2, 1, 0, 0), (108, .bipush (16), 2, 0, 0), (110, .if_icmp .ge (21), 3, 0, 0), (113, .goto (14), 3, 0, 0), (116, .aload_n 0, 1, 0, 0), (117, .iload 4, 2, 0, 0), (119, .bipush (56), 2, 0, 0), (121, .invokevirtual 100, 3, 34, 3), (124, .ifCond .eq (7), 3, 0, 0), (127, .iconst 1, 1, 0, 0), (128, .goto (4), 3, 0, 0), (131, .iconst 0, 1, 0, 0), (132, .istore 5, 2, 0, 0), (134, .iconst 0, 1, 0, 0), (135, .istore 6, 2, 0, 0), (137, .iload 5, 2, 0, 0), (139, .ifCond .eq (39), 3, 0, 0), (142, .iload 6, 2, 0, 0), (144, .aload_n 0, 1, 0, 0), (145, .bipush (56), 2, 0, 0), (147, .invokevirtual 89, 3, 36, 2), (150, .if_icmp .ge (28), 3, 0, 0), (153, .aload_n 0, 1, 0, 0), (154, .iconst 0, 1, 0, 0), (155, .bipush (56), 2, 0, 0), (157, .iload 6, 2, 0, 0), (159, .invokevirtual 92, 3, 37, 4), (162, .ifCond .lt (7), 3, 0, 0), (165, .iconst 1, 1, 0, 0), (166, .goto (4), 3, 0, 0), (169, .iconst 0, 1, 0, 0), (170, .istore 5, 2, 0, 0), (172, .iinc 6 (1), 3, 0, 0), (175, .goto (-38), 3, 0, 0), (178, .iload 5, 2, 0, 0), (180, .ifCond .ne (5), 3, 0, 0), (183, .iconst (-1), 1, 0, 0), (184, .ireturn, 1, 0, 0), (185, .iload 4, 2, 0, 0), (187, .ifCond .ge (19), 3, 0, 0), (190, .aload_n 0, 1, 0, 0), (191, .bipush (56), 2, 0, 0), (193, .iload_n 2, 1, 0, 0), (194, .invokevirtual 104, 3, 41, 3), (197, .aload_n 0, 1, 0, 0), (198, .getfield 13, 3, 9, 2), (201, .iconst 0, 1, 0, 0), (202, .iload_n 2, 1, 0, 0), (203, .iconst 1, 1, 0, 0), (204, .iadd, 1, 0, 0), (205, .iastore, 1, 0, 0), (206, .aload_n 0, 1, 0, 0), (207, .iconst 0, 1, 0, 0), (208, .putfield 67, 3, 9, 1), (211, .iload_n 3, 1, 0, 0), (212, .ireturn, 1, 0, 0)]
-- 41 PackStoreModel copy
def vt41 : List (Nat × vI) := [(0, .aload_n 0, 1, 0, 0), (1, .getfield 16, 3, 9, 3), (4, .iload_n 2, 1, 0, 0), (5, .aload_n 0, 1, 0, 0), (6, .getfield 16, 3, 9, 3), (9, .iload_n 1, 1, 0, 0), (10, .iaload, 1, 0, 0), (11, .iastore, 1, 0, 0), (12, .aload_n 0, 1, 0, 0), (13, .getfield 19, 3, 9, 4), (16, .iload_n 2, 1, 0, 0), (17, .aload_n 0, 1, 0, 0), (18, .getfield 19, 3, 9, 4), (21, .iload_n 1, 1, 0, 0), (22, .iaload, 1, 0, 0), (23, .iastore, 1, 0, 0), (24, .iconst 0, 1, 0, 0), (25, .istore_n 3, 1, 0, 0), (26, .iload_n 3, 1, 0, 0), (27, .bipush (24), 2, 0, 0), (29, .if_icmp .ge (31), 3, 0, 0), (32, .aload_n 0, 1, 0, 0), (33, .getfield 22, 3, 9, 5), (36, .bipush (24), 2, 0, 0), (38, .iload_n 2, 1, 0, 0), (39, .imul, 1, 0, 0), (40, .iload_n 3, 1, 0, 0), (41, .iadd, 1, 0, 0), (42, .aload_n 0, 1, 0, 0), (43, .getfield 22, 3, 9, 5), (46, .bipush (24), 2, 0, 0), (48, .iload_n 1, 1, 0, 0), (49, .imul, 1, 0, 0), (50, .iload_n 3, 1, 0, 0), (51, .iadd, 1, 0, 0), (52, .iaload, 1, 0, 0), (53, .iastore, 1, 0, 0), (54, .iinc 3 (1), 3, 0, 0), (57, .goto (-31), 3, 0, 0), (60, .return_, 1, 0, 0)]
-- 42 PackStoreModel point
def vt42 : List (Nat × vI) := [(0, .aload_n 0, 1, 0, 0), (1, .iconst 0, 1, 0, 0), (2, .iload_n 2, 1, 0, 0), (3, .invokevirtual 82, 3, 33, 3), (6, .istore_n 3, 1, 0, 0), (7, .iload_n 1, 1, 0, 0), (8, .iconst 0, 1, 0, 0), (9, .iconst 3, 1, 0, 0), (10, .invokestatic 63, 3, 24, 3), (13, .ifCond .eq (17), 3, 0, 0), (16, .iload_n 3, 1, 0, 0), (17, .ifCond .lt (13), 3, 0, 0), (20, .aload_n 0, 1, 0, 0), (21, .getfield 16, 3, 9, 3), (24, .iload_n 3, 1, 0, 0), (25, .iaload, 1, 0, 0), (26, .iconst 1, 1, 0, 0), (27, .if_icmp .eq (5), 3, 0, 0), (30, .iconst 0, 1, 0, 0), (31, .ireturn, 1, 0, 0), (32, .aload_n 0, 1, 0, 0), (33, .getfield 29, 3, 9, 8), (36, .iload_n 1, 1, 0, 0), (37, .iload_n 2, 1, 0, 0), (38, .iastore, 1, 0, 0), (39, .iconst 1, 1, 0, 0), (40, .ireturn, 1, 0, 0)]
-- 43 PackStoreModel ref
def vt43 : List (Nat × vI) := [(0, .iload_n 1, 1, 0, 0), (1, .iconst 0, 1, 0, 0), (2, .iconst 3, 1, 0, 0), (3, .invokestatic 63, 3, 24, 3), (6, .ifCond .eq (12), 3, 0, 0), (9, .aload_n 0, 1, 0, 0), (10, .getfield 29, 3, 9, 8), (13, .iload_n 1, 1, 0, 0), (14, .iaload, 1, 0, 0), (15, .goto (4), 3, 0, 0), (18, .iconst (-1), 1, 0, 0), (19, .ireturn, 1, 0, 0)]
-- 44 PackStoreModel want
def vt44 : List (Nat × vI) := [(0, .iconst 0, 1, 0, 0), (1, .istore_n 2, 1, 0, 0), (2, .iconst 0, 1, 0, 0), (3, .istore_n 3, 1, 0, 0), (4, .iload_n 3, 1, 0, 0), (5, .iconst 4, 1, 0, 0), (6, .if_icmp .ge (33), 3, 0, 0), (9, .iload_n 2, 1, 0, 0), (10, .ifCond .ne (17), 3, 0, 0), (13, .iload_n 1, 1, 0, 0), (14, .ifCond .lt (17), 3, 0, 0), (17, .aload_n 0, 1, 0, 0), (18, .getfield 29, 3, 9, 8), (21, .iload_n 3, 1, 0, 0), (22, .iaload, 1, 0, 0), (23, .iload_n 1, 1, 0, 0), (24, .if_icmp .ne (7), 3, 0, 0), (27, .iconst 1, 1, 0, 0), (28, .goto (4), 3, 0, 0), (31, .iconst 0, 1, 0, 0), (32, .istore_n 2, 1, 0, 0), (33, .iinc 3 (1), 3, 0, 0), (36, .goto (-32), 3, 0, 0), (39, .iload_n 2, 1, 0, 0), (40, .ifCond .ne (5), 3, 0, 0), (43, .iconst 0, 1, 0, 0), (44, .ireturn, 1, 0, 0), (45, .aload_n 0, 1, 0, 0), (46, .getfield 32, 3, 9, 9), (49, .aload_n 0, 1, 0, 0), (50, .iconst 0, 1, 0, 0), (51, .iload_n 1, 1, 0, 0), (52, .invokevirtual 82, 3, 33, 3), (55, .iconst 1, 1, 0, 0), (56, .bastore, 1, 0, 0), (57, .aload_n 0, 1, 0, 0), (58, .iconst 1, 1, 0, 0), (59, .putfield 108, 3, 9, 10), (62, .iconst 1, 1, 0, 0), (63, .ireturn, 1, 0, 0)]
-- 45 PackStoreModel have
def vt45 : List (Nat × vI) := [(0, .aload_n 0, 1, 0, 0), (1, .getfield 111, 3, 9, 11), (4, .bipush (8), 2, 0, 0), (6, .if_icmp .ge (7), 3, 0, 0), (9, .iconst 1, 1, 0, 0), (10, .goto (4), 3, 0, 0), (13, .iconst 0, 1, 0, 0), (14, .istore_n 2, 1, 0, 0), (15, .iconst 0, 1, 0, 0), (16, .istore_n 3, 1, 0, 0), (17, .iload_n 3, 1, 0, 0), (18, .aload_n 0, 1, 0, 0), (19, .getfield 111, 3, 9, 11), (22, .if_icmp .ge (29), 3, 0, 0), (25, .iload_n 2, 1, 0, 0), (26, .ifCond .eq (17), 3, 0, 0), (29, .aload_n 0, 1, 0, 0), (30, .getfield 35, 3, 9, 12), (33, .iload_n 3, 1, 0, 0), (34, .iaload, 1, 0, 0), (35, .iload_n 1, 1, 0, 0), (36, .if_icmp .eq (7), 3, 0, 0), (39, .iconst 1, 1, 0, 0), (40, .goto (4), 3, 0, 0), (43, .iconst 0, 1, 0, 0), (44, .istore_n 2, 1, 0, 0), (45, .iinc 3 (1), 3, 0, 0), (48, .goto (-31), 3, 0, 0), (51, .iload_n 2, 1, 0, 0), (52, .ifCond .ne (5), 3, 0, 0), (55, .iconst 0, 1, 0, 0), (56, .ireturn, 1, 0, 0), (57, .aload_n 0, 1, 0, 0), (58, .getfield 35, 3, 9, 12), (61, .aload_n 0, 1, 0, 0), (62, .getfield 111, 3, 9, 11), (65, .iload_n 1, 1, 0, 0), (66, .iastore, 1, 0, 0), (67, .aload_n 0, 1, 0, 0), (68, .aload_n 0, 1, 0, 0), (69, .getfield 111, 3, 9, 11), (72, .iconst 1, 1, 0, 0), (73, .iadd, 1, 0, 0), (74, .putfield 111, 3, 9, 11), (77, .iconst 1, 1, 0, 0), (78, .ireturn, 1, 0, 0)]
-- 46 PackStoreModel write
def vt46 : List (Nat × vI) := [(0, .aload_n 0, 1, 0, 0), (1, .getfield 7, 3, 9, 0), (4, .aload_n 0, 1, 0, 0), (5, .getfield 67, 3, 9, 1), (8, .iload_n 1, 1, 0, 0), (9, .iastore, 1, 0, 0), (10, .aload_n 0, 1, 0, 0), (11, .aload_n 0, 1, 0, 0), (12, .getfield 67, 3, 9, 1), (15, .iconst 1, 1, 0, 0), (16, .iadd, 1, 0, 0), (17, .putfield 67, 3, 9, 1), (20, .return_, 1, 0, 0)]
-- 47 PackStoreModel times
def vt47 : List (Nat × vI) := [(0, .iload_n 1, 1, 0, 0), (1, .istore_n 2, 1, 0, 0), (2, .iload_n 2, 1, 0, 0), (3, .aload_n 0, 1, 0, 0), (4, .getfield 114, 3, 9, 16), (7, .if_icmp .ge (25), 3, 0, 0), (10, .aload_n 0, 1, 0, 0), (11, .getfield 44, 3, 9, 17), (14, .iload_n 2, 1, 0, 0), (15, .iaload, 1, 0, 0), (16, .aload_n 0, 1, 0, 0), (17, .getfield 44, 3, 9, 17), (20, .iload_n 1, 1, 0, 0), (21, .iaload, 1, 0, 0), (22, .if_icmp .ne (10), 3, 0, 0), (25, .iload_n 2, 1, 0, 0), (26, .iconst 1, 1, 0, 0), (27, .iadd, 1, 0, 0), (28, .istore_n 2, 1, 0, 0), (29, .goto (-27), 3, 0, 0), (32, .iload_n 2, 1, 0, 0), (33, .iload_n 1, 1, 0, 0), (34, .isub, 1, 0, 0), (35, .ireturn, 1, 0, 0)]
-- 48 PackStoreModel writePacked
def vt48 : List (Nat × vI) := [(0, .iconst 0, 1, 0, 0), (1, .istore_n 1, 1, 0, 0), (2, .iload_n 1, 1, 0, 0), (3, .aload_n 0, 1, 0, 0), (4, .getfield 114, 3, 9, 16), (7, .if_icmp .ge (129), 3, 0, 0), (10, .aload_n 0, 1, 0, 0), (11, .iload_n 1, 1, 0, 0), (12, .invokevirtual 117, 3, 47, 2), (15, .istore_n 2, 1, 0, 0), (16, .iload_n 2, 1, 0, 0), (17, .iconst 3, 1, 0, 0), (18, .if_icmp .lt (43), 3, 0, 0), (21, .iload_n 2, 1, 0, 0), (22, .sipush (130), 3, 0, 0), (25, .if_icmp .le (9), 3, 0, 0), (28, .sipush (130), 3, 0, 0), (31, .goto (4), 3, 0, 0), (34, .iload_n 2, 1, 0, 0), (35, .istore_n 2, 1, 0, 0), (36, .aload_n 0, 1, 0, 0), (37, .iload_n 2, 1, 0, 0), (38, .bipush (125), 2, 0, 0), (40, .iadd, 1, 0, 0), (41, .invokevirtual 120, 3, 46, 2), (44, .aload_n 0, 1, 0, 0), (45, .aload_n 0, 1, 0, 0), (46, .getfield 44, 3, 9, 17), (49, .iload_n 1, 1, 0, 0), (50, .iaload, 1, 0, 0), (51, .invokevirtual 120, 3, 46, 2), (54, .iload_n 1, 1, 0, 0), (55, .iload_n 2, 1, 0, 0), (56, .iadd, 1, 0, 0), (57, .istore_n 1, 1, 0, 0), (58, .goto (75), 3, 0, 0), (61, .iload_n 1, 1, 0, 0), (62, .istore_n 3, 1, 0, 0), (63, .iload_n 3, 1, 0, 0), (64, .aload_n 0, 1, 0, 0), (65, .getfield 114, 3, 9, 16), (68, .if_icmp .ge (28), 3, 0, 0), (71, .iload_n 3, 1, 0, 0), (72, .iload_n 1, 1, 0, 0), (73, .isub, 1, 0, 0), (74, .sipush (128), 3, 0, 0), (77, .if_icmp .ge (19), 3, 0, 0), (80, .aload_n 0, 1, 0, 0), (81, .iload_n 3, 1, 0, 0), (82, .invokevirtual 117, 3, 47, 2), (85, .iconst 3, 1, 0, 0), (86, .if_icmp .ge (10), 3, 0, 0), (89, .iload_n 3, 1, 0, 0), (90, .iconst 1, 1, 0, 0), (91, .iadd, 1, 0, 0), (92, .istore_n 3, 1, 0, 0), (93, .goto (-30), 3, 0, 0), (96, .aload_n 0, 1, 0, 0), (97, .iload_n 3, 1, 0, 0), (98, .iload_n 1, 1, 0, 0), (99, .isub, 1, 0, 0), (100, .iconst 1, 1, 0, 0), (101, .isub, 1, 0, 0), (102, .invokevirtual 120, 3, 46, 2), (105, .iload_n 1, 1, 0, 0), (106, .istore 4, 2, 0, 0), (108, .iload 4, 2, 0, 0), (110, .iload_n 3, 1, 0, 0), (111, .if_icmp .ge (20), 3, 0, 0), (114, .aload_n 0, 1, 0, 0), (115, .aload_n 0, 1, 0, 0), (116, .getfield 44, 3, 9, 17), (119, .iload 4, 2, 0, 0), (121, .iaload, 1, 0, 0), (122, .invokevirtual 120, 3, 46, 2), (125, .iinc 4 (1), 3, 0, 0), (128, .goto (-20), 3, 0, 0), (131, .iload_n 3, 1, 0, 0), (132, .istore_n 1, 1, 0, 0), (133, .goto (-131), 3, 0, 0), (136, .return_, 1, 0, 0)]
-- 49 PackStoreModel addRow
def vt49 : List (Nat × vI) := [(0, .aload_n 0, 1, 0, 0), (1, .getfield 44, 3, 9, 17), (4, .aload_n 0, 1, 0, 0), (5, .getfield 114, 3, 9, 16), (8, .iload_n 1, 1, 0, 0), (9, .iastore, 1, 0, 0), (10, .aload_n 0, 1, 0, 0), (11, .aload_n 0, 1, 0, 0), (12, .getfield 114, 3, 9, 16), (15, .iconst 1, 1, 0, 0), (16, .iadd, 1, 0, 0), (17, .putfield 114, 3, 9, 16), (20, .return_, 1, 0, 0)]
-- 50 PackStoreModel difference
def vt50 : List (Nat × vI) := [(0, .aload_n 0, 1, 0, 0), (1, .iconst 0, 1, 0, 0), (2, .putfield 114, 3, 9, 16), (5, .aload_n 0, 1, 0, 0), (6, .aload_n 0, 1, 0, 0), (7, .getfield 19, 3, 9, 4), (10, .iload_n 2, 1, 0, 0), (11, .iaload, 1, 0, 0), (12, .invokevirtual 124, 3, 49, 2), (15, .aload_n 0, 1, 0, 0), (16, .aload_n 0, 1, 0, 0), (17, .getfield 19, 3, 9, 4), (20, .iload_n 1, 1, 0, 0), (21, .iaload, 1, 0, 0), (22, .invokevirtual 124, 3, 49, 2), (25, .iconst (-1), 1, 0, 0), (26, .istore_n 3, 1, 0, 0), (27, .iconst 0, 1, 0, 0), (28, .istore 4, 2, 0, 0), (30, .iload 4, 2, 0, 0), (32, .aload_n 0, 1, 0, 0), (33, .getfield 19, 3, 9, 4), (36, .iload_n 1, 1, 0, 0), (37, .iaload, 1, 0, 0), (38, .if_icmp .ge (221), 3, 0, 0), (41, .iconst 0, 1, 0, 0), (42, .istore 5, 2, 0, 0), (44, .iconst 0, 1, 0, 0), (45, .istore 6, 2, 0, 0), (47, .iconst 0, 1, 0, 0), (48, .istore 7, 2, 0, 0), (50, .iload 7, 2, 0, 0), (52, .aload_n 0, 1, 0, 0), (53, .getfield 19, 3, 9, 4), (56, .iload_n 2, 1, 0, 0), (57, .iaload, 1, 0, 0), (58, .if_icmp .ge (114), 3, 0, 0), (61, .iconst 0, 1, 0, 0), (62, .istore 8, 2, 0, 0), (64, .iload 4, 2, 0, 0), (66, .iload 8, 2, 0, 0), (68, .iadd, 1, 0, 0), (69, .aload_n 0, 1, 0, 0), (70, .getfield 19, 3, 9, 4), (73, .iload_n 1, 1, 0, 0), (74, .iaload, 1, 0, 0), (75, .if_icmp .ge (59), 3, 0, 0), (78, .iload 7, 2, 0, 0), (80, .iload 8, 2, 0, 0), (82, .iadd, 1, 0, 0), (83, .aload_n 0, 1, 0, 0), (84, .getfield 19, 3, 9, 4), (87, .iload_n 2, 1, 0, 0), (88, .iaload, 1, 0, 0), (89, .if_icmp .ge (45), 3, 0, 0), (92, .aload_n 0, 1, 0, 0), (93, .getfield 22, 3, 9, 5), (96, .bipush (24), 2, 0, 0), (98, .iload_n 1, 1, 0, 0), (99, .imul, 1, 0, 0), (100, .iload 4, 2, 0, 0), (102, .iadd, 1, 0, 0), (103, .iload 8, 2, 0, 0), (105, .iadd, 1, 0, 0), (106, .iaload, 1, 0, 0), (107, .aload_n 0, 1, 0, 0), (108, .getfield 22, 3, 9, 5), (111, .bipush (24), 2, 0, 0), (113, .iload_n 2, 1, 0, 0), (114, .imul, 1, 0, 0), (115, .iload 7, 2, 0, 0), (117, .iadd, 1, 0, 0), (118, .iload 8, 2, 0, 0), (120, .iadd, 1, 0, 0), (121, .iaload, 1, 0, 0), (122, .if_icmp .ne (12), 3, 0, 0), (125, .iload 8, 2, 0, 0), (127, .iconst 1, 1, 0, 0), (128, .iadd, 1, 0, 0), (129, .istore 8, 2, 0, 0), (131, .goto (-67), 3, 0, 0), (134, .iload 8, 2, 0, 0), (136, .iload 5, 2, 0, 0), (138, .if_icmp .le (8), 3, 0, 0), (141, .iload 7, 2, 0, 0), (143, .goto (5), 3, 0, 0), (146, .iload 6, 2, 0, 0), (148, .istore 6, 2, 0, 0), (150, .iload 8, 2, 0, 0), (152, .iload 5, 2, 0, 0), (154, .if_icmp .le (8), 3, 0, 0), (157, .iload 8, 2, 0, 0), (159, .goto (5), 3, 0, 0), (162, .iload 5, 2, 0, 0), (164, .istore 5, 2, 0, 0), (166, .iinc 7 (1), 3, 0, 0), (169, .goto (-119), 3, 0, 0), (172, .iload 5, 2, 0, 0), (174, .iconst 3, 1, 0, 0), (175, .if_icmp .lt (31), 3, 0, 0), (178, .aload_n 0, 1, 0, 0), (179, .sipush (128), 3, 0, 0), (182, .iload 5, 2, 0, 0), (184, .iadd, 1, 0, 0), (185, .invokevirtual 124, 3, 49, 2), (188, .aload_n 0, 1, 0, 0), (189, .iload 6, 2, 0, 0), (191, .invokevirtual 124, 3, 49, 2), (194, .iload 4, 2, 0, 0), (196, .iload 5, 2, 0, 0), (198, .iadd, 1, 0, 0), (199, .istore 4, 2, 0, 0), (201, .iconst (-1), 1, 0, 0), (202, .istore_n 3, 1, 0, 0), (203, .goto (53), 3, 0, 0), (206, .iload_n 3, 1, 0, 0), (207, .ifCond .ge (13), 3, 0, 0), (210, .aload_n 0, 1, 0, 0), (211, .getfield 114, 3, 9, 16), (214, .istore_n 3, 1, 0, 0), (215, .aload_n 0, 1, 0, 0), (216, .iconst 0, 1, 0, 0), (217, .invokevirtual 124, 3, 49, 2), (220, .aload_n 0, 1, 0, 0), (221, .getfield 44, 3, 9, 17), (224, .iload_n 3, 1, 0, 0), (225, .aload_n 0, 1, 0, 0), (226, .getfield 44, 3, 9, 17), (229, .iload_n 3, 1, 0, 0), (230, .iaload, 1, 0, 0), (231, .iconst 1, 1, 0, 0), (232, .iadd, 1, 0, 0), (233, .iastore, 1, 0, 0), (234, .aload_n 0, 1, 0, 0), (235, .aload_n 0, 1, 0, 0), (236, .getfield 22, 3, 9, 5), (239, .bipush (24), 2, 0, 0), (241, .iload_n 1, 1, 0, 0), (242, .imul, 1, 0, 0), (243, .iload 4, 2, 0, 0), (245, .iadd, 1, 0, 0), (246, .iaload, 1, 0, 0), (247, .invokevirtual 124, 3, 49, 2), (250, .iload 4, 2, 0, 0), (252, .iconst 1, 1, 0, 0), (253, .iadd, 1, 0, 0), (254, .istore 4, 2, 0, 0), (256, .goto (-226), 3, 0, 0), (259, .return_, 1, 0, 0)]
-- 51 PackStoreModel writeEntry
def vt51 : List (Nat × vI) := [(0, .aload_n 0, 1, 0, 0), (1, .getfield 38, 3, 9, 14), (4, .iload_n 1, 1, 0, 0), (5, .iaload, 1, 0, 0), (6, .istore_n 3, 1, 0, 0), (7, .aload_n 0, 1, 0, 0), (8, .getfield 67, 3, 9, 1), (11, .istore 4, 2, 0, 0), (13, .iload_n 2, 1, 0, 0), (14, .ifCond .lt (17), 3, 0, 0), (17, .aload_n 0, 1, 0, 0), (18, .iload_n 3, 1, 0, 0), (19, .aload_n 0, 1, 0, 0), (20, .getfield 38, 3, 9, 14), (23, .iload_n 2, 1, 0, 0), (24, .iaload, 1, 0, 0), (25, .invokevirtual 127, 3, 50, 3), (28, .goto (44), 3, 0, 0), (31, .aload_n 0, 1, 0, 0), (32, .iconst 0, 1, 0, 0), (33, .putfield 114, 3, 9, 16), (36, .iconst 0, 1, 0, 0), (37, .istore 5, 2, 0, 0), (39, .iload 5, 2, 0, 0), (41, .aload_n 0, 1, 0, 0), (42, .getfield 19, 3, 9, 4), (45, .iload_n 3, 1, 0, 0), (46, .iaload, 1, 0, 0), (47, .if_icmp .ge (25), 3, 0, 0), (50, .aload_n 0, 1, 0, 0), (51, .aload_n 0, 1, 0, 0), (52, .getfield 22, 3, 9, 5), (55, .bipush (24), 2, 0, 0), (57, .iload_n 3, 1, 0, 0), (58, .imul, 1, 0, 0), (59, .iload 5, 2, 0, 0), (61, .iadd, 1, 0, 0), (62, .iaload, 1, 0, 0), (63, .invokevirtual 124, 3, 49, 2), (66, .iinc 5 (1), 3, 0, 0), (69, .goto (-30), 3, 0, 0), (72, .iload_n 2, 1, 0, 0), (73, .ifCond .lt (8), 3, 0, 0), (76, .bipush (6), 2, 0, 0), (78, .goto (9), 3, 0, 0), (81, .aload_n 0, 1, 0, 0), (82, .getfield 16, 3, 9, 3), (85, .iload_n 3, 1, 0, 0), (86, .iaload, 1, 0, 0), (87, .istore 5, 2, 0, 0), (89, .aload_n 0, 1, 0, 0), (90, .bipush (16), 2, 0, 0), (92, .iload 5, 2, 0, 0), (94, .imul, 1, 0, 0), (95, .aload_n 0, 1, 0, 0), (96, .getfield 114, 3, 9, 16), (99, .bipush (16), 2, 0, 0), (101, .irem, 1, 0, 0), (102, .iadd, 1, 0, 0), (103, .aload_n 0, 1, 0, 0), (104, .getfield 114, 3, 9, 16), (107, .bipush (15), 2, 0, 0), (109, .if_icmp .le (9), 3, 0, 0), (112, .sipush (128), 3, 0, 0), (115, .goto (4), 3, 0, 0), (118, .iconst 0, 1, 0, 0), (119, .iadd, 1, 0, 0), (120, .invokevirtual 120, 3, 46, 2), (123, .aload_n 0, 1, 0, 0), (124, .getfield 114, 3, 9, 16), (127, .bipush (15), 2, 0, 0), (129, .if_icmp .le (14), 3, 0, 0), (132, .aload_n 0, 1, 0, 0), (133, .aload_n 0, 1, 0, 0), (134, .getfield 114, 3, 9, 16), (137, .bipush (16), 2, 0, 0), (139, .idiv, 1, 0, 0), (140, .invokevirtual 120, 3, 46, 2), (143, .iload_n 2, 1, 0, 0), (144, .ifCond .lt (37), 3, 0, 0), (147, .aload_n 0, 1, 0, 0), (148, .iload 4, 2, 0, 0), (150, .aload_n 0, 1, 0, 0), (151, .getfield 41, 3, 9, 15), (154, .iload_n 2, 1, 0, 0), (155, .iaload, 1, 0, 0), (156, .isub, 1, 0, 0), (157, .sipush (256), 3, 0, 0), (160, .idiv, 1, 0, 0), (161, .invokevirtual 120, 3, 46, 2), (164, .aload_n 0, 1, 0, 0), (165, .iload 4, 2, 0, 0), (167, .aload_n 0, 1, 0, 0), (168, .getfield 41, 3, 9, 15), (171, .iload_n 2, 1, 0, 0), (172, .iaload, 1, 0, 0), (173, .isub, 1, 0, 0), (174, .sipush (256), 3, 0, 0), (177, .irem, 1, 0, 0), (178, .invokevirtual 120, 3, 46, 2), (181, .aload_n 0, 1, 0, 0), (182, .invokevirtual 130, 3, 48, 1), (185, .return_, 1, 0, 0)]
-- 52 PackStoreModel choose
def vt52 : List (Nat × vI) := [(0, .aload_n 0, 1, 0, 0), (1, .iconst 0, 1, 0, 0), (2, .putfield 133, 3, 9, 13), (5, .iconst 1, 1, 0, 0), (6, .istore_n 1, 1, 0, 0), (7, .iload_n 1, 1, 0, 0), (8, .iconst 3, 1, 0, 0), (9, .if_icmp .gt (66), 3, 0, 0), (12, .iconst 0, 1, 0, 0), (13, .istore_n 2, 1, 0, 0), (14, .iload_n 2, 1, 0, 0), (15, .aload_n 0, 1, 0, 0), (16, .getfield 13, 3, 9, 2), (19, .iconst 0, 1, 0, 0), (20, .iaload, 1, 0, 0), (21, .if_icmp .ge (48), 3, 0, 0), (24, .aload_n 0, 1, 0, 0), (25, .getfield 25, 3, 9, 6), (28, .iload_n 2, 1, 0, 0), (29, .baload, 1, 0, 0), (30, .ifCond .eq (33), 3, 0, 0), (33, .aload_n 0, 1, 0, 0), (34, .getfield 16, 3, 9, 3), (37, .iload_n 2, 1, 0, 0), (38, .iaload, 1, 0, 0), (39, .iload_n 1, 1, 0, 0), (40, .if_icmp .ne (23), 3, 0, 0), (43, .aload_n 0, 1, 0, 0), (44, .getfield 38, 3, 9, 14), (47, .aload_n 0, 1, 0, 0), (48, .getfield 133, 3, 9, 13), (51, .iload_n 2, 1, 0, 0), (52, .iastore, 1, 0, 0), (53, .aload_n 0, 1, 0, 0), (54, .aload_n 0, 1, 0, 0), (55, .getfield 133, 3, 9, 13), (58, .iconst 1, 1, 0, 0), (59, .iadd, 1, 0, 0), (60, .putfield 133, 3, 9, 13), (63, .iinc 2 (1), 3, 0, 0), (66, .goto (-52), 3, 0, 0), (69, .iinc 1 (1), 3, 0, 0), (72, .goto (-65), 3, 0, 0), (75, .return_, 1, 0, 0)]
-- 53 PackStoreModel hashTo
def vt53 : List (Nat × vI) := [(0, .bipush (7), 2, 0, 0), (2, .istore_n 2, 1, 0, 0), (3, .iconst 0, 1, 0, 0), (4, .istore_n 3, 1, 0, 0), (5, .iload_n 3, 1, 0, 0), (6, .iload_n 1, 1, 0, 0), (7, .if_icmp .ge (20), 3, 0, 0), (10, .iload_n 2, 1, 0, 0), (11, .aload_n 0, 1, 0, 0), (12, .getfield 7, 3, 9, 0), (15, .iload_n 3, 1, 0, 0), (16, .iaload, 1, 0, 0), (17, .invokestatic 71, 3, 25, 2), (20, .istore_n 2, 1, 0, 0), (21, .iinc 3 (1), 3, 0, 0), (24, .goto (-19), 3, 0, 0), (27, .iload_n 2, 1, 0, 0), (28, .ireturn, 1, 0, 0)]
-- 54 PackStoreModel select
def vt54 : List (Nat × vI) := [(0, .aload_n 0, 1, 0, 0), (1, .invokevirtual 136, 3, 39, 1), (4, .iconst 0, 1, 0, 0), (5, .istore_n 1, 1, 0, 0), (6, .iload_n 1, 1, 0, 0), (7, .aload_n 0, 1, 0, 0), (8, .getfield 111, 3, 9, 11), (11, .if_icmp .ge (31), 3, 0, 0), (14, .aload_n 0, 1, 0, 0), (15, .iconst 0, 1, 0, 0), (16, .aload_n 0, 1, 0, 0), (17, .getfield 35, 3, 9, 12), (20, .iload_n 1, 1, 0, 0), (21, .iaload, 1, 0, 0), (22, .invokevirtual 82, 3, 33, 3), (25, .istore_n 2, 1, 0, 0), (26, .iload_n 2, 1, 0, 0), (27, .ifCond .lt (9), 3, 0, 0), (30, .aload_n 0, 1, 0, 0), (31, .iconst 0, 1, 0, 0), (32, .iload_n 2, 1, 0, 0), (33, .invokevirtual 139, 3, 38, 3), (36, .iinc 1 (1), 3, 0, 0), (39, .goto (-33), 3, 0, 0), (42, .iconst 0, 1, 0, 0), (43, .istore_n 1, 1, 0, 0), (44, .iload_n 1, 1, 0, 0), (45, .bipush (16), 2, 0, 0), (47, .if_icmp .ge (31), 3, 0, 0), (50, .aload_n 0, 1, 0, 0), (51, .getfield 25, 3, 9, 6), (54, .bipush (16), 2, 0, 0), (56, .iload_n 1, 1, 0, 0), (57, .iadd, 1, 0, 0), (58, .aload_n 0, 1, 0, 0), (59, .getfield 25, 3, 9, 6), (62, .iload_n 1, 1, 0, 0), (63, .baload, 1, 0, 0), (64, .bastore, 1, 0, 0), (65, .aload_n 0, 1, 0, 0), (66, .getfield 25, 3, 9, 6), (69, .iload_n 1, 1, 0, 0), (70, .iconst 0, 1, 0, 0), (71, .bastore, 1, 0, 0), (72, .iinc 1 (1), 3, 0, 0), (75, .goto (-31), 3, 0, 0), (78, .iconst 0, 1, 0, 0), (79, .istore_n 1, 1, 0, 0), (80, .iload_n 1, 1, 0, 0), (81, .aload_n 0, 1, 0, 0), (82, .getfield 13, 3, 9, 2), (85, .iconst 0, 1, 0, 0), (86, .iaload, 1, 0, 0), (87, .if_icmp .ge (24), 3, 0, 0), (90, .aload_n 0, 1, 0, 0), (91, .getfield 32, 3, 9, 9), (94, .iload_n 1, 1, 0, 0), (95, .baload, 1, 0, 0), (96, .ifCond .eq (9), 3, 0, 0), (99, .aload_n 0, 1, 0, 0), (100, .iconst 0, 1, 0, 0), (101, .iload_n 1, 1, 0, 0), (102, .invokevirtual 139, 3, 38, 3), (105, .iinc 1 (1), 3, 0, 0), (108, .goto (-28), 3, 0, 0), (111, .iconst 0, 1, 0, 0), (112, .istore_n 1, 1, 0, 0), (113, .iload_n 1, 1, 0, 0), (114, .bipush (16), 2, 0, 0), (116, .if_icmp .ge (41), 3, 0, 0), (119, .aload_n 0, 1, 0, 0), (120, .getfield 25, 3, 9, 6), (123, .iload_n 1, 1, 0, 0), (124, .aload_n 0, 1, 0, 0), (125, .getfield 25, 3, 9, 6), (128, .iload_n 1, 1, 0, 0), (129, .baload, 1, 0, 0), (130, .ifCond .eq (19), 3, 0, 0), (133, .aload_n 0, 1, 0, 0), (134, .getfield 25, 3, 9, 6), (137, .bipush (16), 2, 0, 0), (139, .iload_n 1, 1, 0, 0), (140, .iadd, 1, 0, 0), (141, .baload, 1, 0, 0), (142, .ifCond .ne (7), 3, 0, 0), (145, .iconst 1, 1, 0, 0), (146, .goto (4), 3, 0, 0), (149, .iconst 0, 1, 0, 0), (150, .bastore, 1, 0, 0), (151, .iinc 1 (1), 3, 0, 0), (154, .goto (-41), 3, 0, 0), (157, .return_, 1, 0, 0)]
-- 55 PackStoreModel serve
def vt55 : List (Nat × vI) := [(0, .aload_n 0, 1, 0, 0), (1, .getfield 108, 3, 9, 10), (4, .ifCond .ne (5), 3, 0, 0), (7, .iconst (-1), 1, 0, 0), (8, .ireturn, 1, 0, 0), (9, .aload_n 0, 1, 0, 0), (10, .invokevirtual 142, 3, 54, 1), (13, .aload_n 0, 1, 0, 0), (14, .invokevirtual 145, 3, 52, 1), (17, .aload_n 0, 1, 0, 0), (18, .iconst 0, 1, 0, 0), (19, .putfield 67, 3, 9, 1), (22, .aload_n 0, 1, 0, 0), (23, .iconst 0, 1, 0, 0), (24, .putfield 111, 3, 9, 11), (27, .aload_n 0, 1, 0, 0), (28, .iconst 0, 1, 0, 0), (29, .putfield 108, 3, 9, 10), (32, .iconst 0, 1, 0, 0), (33, .istore_n 1, 1, 0, 0), (34, .iload_n 1, 1, 0, 0), (35, .bipush (16), 2, 0, 0), (37, .if_icmp .ge (16), 3, 0, 0), (40, .aload_n 0, 1, 0, 0), (41, .getfield 32, 3, 9, 9), (44, .iload_n 1, 1, 0, 0), (45, .iconst 0, 1, 0, 0), (46, .bastore, 1, 0, 0), (47, .iinc 1 (1), 3, 0, 0), (50, .goto (-16), 3, 0, 0), (53, .aload_n 0, 1, 0, 0), (54, .getfield 133, 3, 9, 13), (57, .ifCond .ne (5), 3, 0, 0), (60, .iconst 0, 1, 0, 0), (61, .ireturn, 1, 0, 0), (62, .aload_n 0, 1, 0, 0), (63, .bipush (80), 2, 0, 0), (65, .invokevirtual 120, 3, 46, 2), (68, .aload_n 0, 1, 0, 0), (69, .iconst 1, 1, 0, 0), (70, .invokevirtual 120, 3, 46, 2), (73, .aload_n 0, 1, 0, 0), (74, .aload_n 0, 1, 0, 0), (75, .getfield 133, 3, 9, 13), (78, .invokevirtual 120, 3, 46, 2), (81, .iconst 0, 1, 0, 0), (82, .istore_n 1, 1, 0, 0), (83, .iload_n 1, 1, 0, 0), (84, .aload_n 0, 1, 0, 0), (85, .getfield 133, 3, 9, 13), (88, .if_icmp .ge (139), 3, 0, 0), (91, .aload_n 0, 1, 0, 0), (92, .getfield 41, 3, 9, 15), (95, .iload_n 1, 1, 0, 0), (96, .aload_n 0, 1, 0, 0), (97, .getfield 67, 3, 9, 1), (100, .iastore, 1, 0, 0), (101, .aload_n 0, 1, 0, 0), (102, .iload_n 1, 1, 0, 0), (103, .iconst (-1), 1, 0, 0), (104, .invokevirtual 148, 3, 51, 3), (107, .iconst (-1), 1, 0, 0), (108, .istore_n 2, 1, 0, 0), (109, .aload_n 0, 1, 0, 0), (110, .getfield 67, 3, 9, 1), (113, .istore_n 3, 1, 0, 0), (114, .iload_n 1, 1, 0, 0), (115, .iconst 1, 1, 0, 0), (116, .isub, 1, 0, 0), (117, .istore 4, 2, 0, 0), (119, .iload 4, 2, 0, 0), (121, .ifCond .lt (84), 3, 0, 0), (124, .aload_n 0, 1, 0, 0), (125, .aload_n 0, 1, 0, 0), (126, .getfield 41, 3, 9, 15), (129, .iload_n 1, 1, 0, 0), (130, .iaload, 1, 0, 0), (131, .putfield 67, 3, 9, 1), (134, .aload_n 0, 1, 0, 0), (135, .getfield 16, 3, 9, 3), (138, .aload_n 0, 1, 0, 0), (139, .getfield 38, 3, 9, 14), (142, .iload 4, 2, 0, 0), (144, .iaload, 1, 0, 0), (145, .iaload, 1, 0, 0), (146, .aload_n 0, 1, 0, 0), (147, .getfield 16, 3, 9, 3), (150, .aload_n 0, 1, 0, 0), (151, .getfield 38, 3, 9, 14), (154, .iload_n 1, 1, 0, 0), (155, .iaload, 1, 0, 0), (156, .iaload, 1, 0, 0), (157, .if_icmp .ne (42), 3, 0, 0), (160, .aload_n 0, 1, 0, 0), (161, .iload_n 1, 1, 0, 0), (162, .iload 4, 2, 0, 0), (164, .invokevirtual 148, 3, 51, 3), (167, .aload_n 0, 1, 0, 0), (168, .getfield 67, 3, 9, 1), (171, .iload_n 3, 1, 0, 0), (172, .if_icmp .ge (8), 3, 0, 0), (175, .iload 4, 2, 0, 0), (177, .goto (4), 3, 0, 0), (180, .iload_n 2, 1, 0, 0), (181, .istore_n 2, 1, 0, 0), (182, .aload_n 0, 1, 0, 0), (183, .getfield 67, 3, 9, 1), (186, .iload_n 3, 1, 0, 0), (187, .if_icmp .ge (10), 3, 0, 0), (190, .aload_n 0, 1, 0, 0), (191, .getfield 67, 3, 9, 1), (194, .goto (4), 3, 0, 0), (197, .iload_n 3, 1, 0, 0), (198, .istore_n 3, 1, 0, 0), (199, .iinc 4 (-1), 3, 0, 0), (202, .goto (-83), 3, 0, 0), (205, .aload_n 0, 1, 0, 0), (206, .aload_n 0, 1, 0, 0), (207, .getfield 41, 3, 9, 15), (210, .iload_n 1, 1, 0, 0), (211, .iaload, 1, 0, 0), (212, .putfield 67, 3, 9, 1), (215, .aload_n 0, 1, 0, 0), (216, .iload_n 1, 1, 0, 0), (217, .iload_n 2, 1, 0, 0), (218, .invokevirtual 148, 3, 51, 3), (221, .iinc 1 (1), 3, 0, 0), (224, .goto (-141), 3, 0, 0), (227, .aload_n 0, 1, 0, 0), (228, .aload_n 0, 1, 0, 0), (229, .getfield 67, 3, 9, 1), (232, .invokevirtual 151, 3, 53, 2), (235, .istore_n 1, 1, 0, 0), (236, .aload_n 0, 1, 0, 0), (237, .iload_n 1, 1, 0, 0), (238, .sipush (256), 3, 0, 0), (241, .idiv, 1, 0, 0), (242, .invokevirtual 120, 3, 46, 2), (245, .aload_n 0, 1, 0, 0), (246, .iload_n 1, 1, 0, 0), (247, .sipush (256), 3, 0, 0), (250, .irem, 1, 0, 0), (251, .invokevirtual 120, 3, 46, 2), (254, .aload_n 0, 1, 0, 0), (255, .getfield 133, 3, 9, 13), (258, .ireturn, 1, 0, 0)]
-- 56 PackStoreModel look
def vt56 : List (Nat × vI) := [(0, .aload_n 0, 1, 0, 0), (1, .getfield 154, 3, 9, 18), (4, .aload_n 0, 1, 0, 0), (5, .getfield 67, 3, 9, 1), (8, .if_icmp .ge (15), 3, 0, 0), (11, .aload_n 0, 1, 0, 0), (12, .getfield 7, 3, 9, 0), (15, .aload_n 0, 1, 0, 0), (16, .getfield 154, 3, 9, 18), (19, .iaload, 1, 0, 0), (20, .goto (4), 3, 0, 0), (23, .iconst (-1), 1, 0, 0), (24, .ireturn, 1, 0, 0)]
-- 57 PackStoreModel on
def vt57 : List (Nat × vI) := [(0, .aload_n 0, 1, 0, 0), (1, .iload_n 1, 1, 0, 0), (2, .ifCond .eq (12), 3, 0, 0), (5, .aload_n 0, 1, 0, 0), (6, .getfield 154, 3, 9, 18), (9, .iconst 1, 1, 0, 0), (10, .iadd, 1, 0, 0), (11, .goto (7), 3, 0, 0), (14, .aload_n 0, 1, 0, 0), (15, .getfield 154, 3, 9, 18), (18, .putfield 154, 3, 9, 18), (21, .iload_n 1, 1, 0, 0), (22, .ireturn, 1, 0, 0)]
-- 58 PackStoreModel readHead
def vt58 : List (Nat × vI) := [(0, .aload_n 0, 1, 0, 0), (1, .invokevirtual 157, 3, 56, 1), (4, .istore_n 2, 1, 0, 0), (5, .iload_n 2, 1, 0, 0), (6, .ifCond .ge (7), 3, 0, 0), (9, .iconst 0, 1, 0, 0), (10, .goto (9), 3, 0, 0), (13, .iload_n 2, 1, 0, 0), (14, .iconst 4, 1, 0, 0), (15, .ishr, 1, 0, 0), (16, .bipush (7), 2, 0, 0), (18, .iand, 1, 0, 0), (19, .istore_n 3, 1, 0, 0), (20, .iload_n 2, 1, 0, 0), (21, .sipush (128), 3, 0, 0), (24, .if_icmp .lt (7), 3, 0, 0), (27, .iconst 1, 1, 0, 0), (28, .goto (4), 3, 0, 0), (31, .iconst 0, 1, 0, 0), (32, .istore 4, 2, 0, 0), (34, .iload_n 2, 1, 0, 0), (35, .bipush (15), 2, 0, 0), (37, .iand, 1, 0, 0), (38, .istore 5, 2, 0, 0), (40, .aload_n 0, 1, 0, 0), (41, .getfield 47, 3, 9, 20), (44, .iload_n 1, 1, 0, 0), (45, .iload_n 3, 1, 0, 0), (46, .iastore, 1, 0, 0), (47, .aload_n 0, 1, 0, 0), (48, .getfield 50, 3, 9, 21), (51, .iload_n 1, 1, 0, 0), (52, .iload 5, 2, 0, 0), (54, .iastore, 1, 0, 0), (55, .iload_n 3, 1, 0, 0), (56, .iconst 1, 1, 0, 0), (57, .iconst 3, 1, 0, 0), (58, .invokestatic 63, 3, 24, 3), (61, .ifCond .ne (15), 3, 0, 0), (64, .iload_n 3, 1, 0, 0), (65, .bipush (6), 2, 0, 0), (67, .if_icmp .eq (9), 3, 0, 0), (70, .iload_n 3, 1, 0, 0), (71, .bipush (7), 2, 0, 0), (73, .if_icmp .ne (7), 3, 0, 0), (76, .iconst 1, 1, 0, 0), (77, .goto (4), 3, 0, 0), (80, .iconst 0, 1, 0, 0), (81, .istore 6, 2, 0, 0), (83, .aload_n 0, 1, 0, 0), (84, .getfield 41, 3, 9, 15), (87, .iload_n 1, 1, 0, 0), (88, .aload_n 0, 1, 0, 0), (89, .getfield 154, 3, 9, 18), (92, .iastore, 1, 0, 0), (93, .aload_n 0, 1, 0, 0), (94, .iload_n 2, 1, 0, 0), (95, .ifCond .lt (12), 3, 0, 0), (98, .iload 6, 2, 0, 0), (100, .ifCond .eq (7), 3, 0, 0), (103, .iconst 1, 1, 0, 0), (104, .goto (4), 3, 0, 0), (107, .iconst 0, 1, 0, 0), (108, .invokevirtual 161, 3, 57, 2), (111, .ifCond .ne (5), 3, 0, 0), (114, .iconst 0, 1, 0, 0), (115, .ireturn, 1, 0, 0), (116, .iload 4, 2, 0, 0), (118, .ifCond .eq (10), 3, 0, 0), (121, .aload_n 0, 1, 0, 0), (122, .invokevirtual 157, 3, 56, 1), (125, .goto (4), 3, 0, 0), (128, .iconst 0, 1, 0, 0), (129, .istore 7, 2, 0, 0), (131, .iload 5, 2, 0, 0), (133, .bipush (16), 2, 0, 0), (135, .iload 7, 2, 0, 0), (137, .imul, 1, 0, 0), (138, .iadd, 1, 0, 0), (139, .istore 5, 2, 0, 0), (141, .aload_n 0, 1, 0, 0), (142, .getfield 50, 3, 9, 21), (145, .iload_n 1, 1, 0, 0), (146, .iload 5, 2, 0, 0), (148, .iastore, 1, 0, 0), (149, .iload 5, 2, 0, 0), (151, .bipush (24), 2, 0, 0), (153, .if_icmp .le (8), 3, 0, 0), (156, .iload_n 3, 1, 0, 0), (157, .iconst 3, 1, 0, 0), (158, .if_icmp .le (7), 3, 0, 0), (161, .iconst 1, 1, 0, 0), (162, .goto (4), 3, 0, 0), (165, .iconst 0, 1, 0, 0), (166, .istore 8, 2, 0, 0), (168, .iload 4, 2, 0, 0), (170, .ifCond .ne (28), 3, 0, 0), (173, .aload_n 0, 1, 0, 0), (174, .iload 8, 2, 0, 0), (176, .ifCond .eq (10), 3, 0, 0), (179, .aload_n 0, 1, 0, 0), (180, .getfield 154, 3, 9, 18), (183, .goto (9), 3, 0, 0), (186, .aload_n 0, 1, 0, 0), (187, .getfield 154, 3, 9, 18), (190, .iconst 1, 1, 0, 0), (191, .isub, 1, 0, 0), (192, .putfield 154, 3, 9, 18), (195, .iload 8, 2, 0, 0), (197, .ireturn, 1, 0, 0), (198, .aload_n 0, 1, 0, 0), (199, .iload 7, 2, 0, 0), (201, .iconst 1, 1, 0, 0), (202, .bipush (15), 2, 0, 0), (204, .invokestatic 63, 3, 24, 3), (207, .ifCond .eq (12), 3, 0, 0), (210, .iload 8, 2, 0, 0), (212, .ifCond .eq (7), 3, 0, 0), (215, .iconst 1, 1, 0, 0), (216, .goto (4), 3, 0, 0), (219, .iconst 0, 1, 0, 0), (220, .invokevirtual 161, 3, 57, 2), (223, .ireturn, 1, 0, 0)]
-- 59 PackStoreModel readBase
def vt59 : List (Nat × vI) := [(0, .aload_n 0, 1, 0, 0), (1, .getfield 47, 3, 9, 20), (4, .iload_n 1, 1, 0, 0), (5, .iaload, 1, 0, 0), (6, .iconst 3, 1, 0, 0), (7, .if_icmp .gt (5), 3, 0, 0), (10, .iconst 1, 1, 0, 0), (11, .ireturn, 1, 0, 0), (12, .aload_n 0, 1, 0, 0), (13, .invokevirtual 157, 3, 56, 1), (16, .istore_n 2, 1, 0, 0), (17, .aload_n 0, 1, 0, 0), (18, .iload_n 2, 1, 0, 0), (19, .ifCond .lt (7), 3, 0, 0), (22, .iconst 1, 1, 0, 0), (23, .goto (4), 3, 0, 0), (26, .iconst 0, 1, 0, 0), (27, .invokevirtual 161, 3, 57, 2), (30, .ifCond .ne (5), 3, 0, 0), (33, .iconst 0, 1, 0, 0), (34, .ireturn, 1, 0, 0), (35, .aload_n 0, 1, 0, 0), (36, .invokevirtual 157, 3, 56, 1), (39, .istore_n 3, 1, 0, 0), (40, .sipush (256), 3, 0, 0), (43, .iload_n 2, 1, 0, 0), (44, .imul, 1, 0, 0), (45, .iload_n 3, 1, 0, 0), (46, .iadd, 1, 0, 0), (47, .istore 4, 2, 0, 0), (49, .iconst (-1), 1, 0, 0), (50, .istore 5, 2, 0, 0), (52, .iconst 0, 1, 0, 0), (53, .istore 6, 2, 0, 0), (55, .iload 6, 2, 0, 0), (57, .iload_n 1, 1, 0, 0), (58, .if_icmp .ge (37), 3, 0, 0), (61, .aload_n 0, 1, 0, 0), (62, .getfield 41, 3, 9, 15), (65, .iload_n 1, 1, 0, 0), (66, .iaload, 1, 0, 0), (67, .iload 4, 2, 0, 0), (69, .isub, 1, 0, 0), (70, .aload_n 0, 1, 0, 0), (71, .getfield 41, 3, 9, 15), (74, .iload 6, 2, 0, 0), (76, .iaload, 1, 0, 0), (77, .if_icmp .ne (8), 3, 0, 0), (80, .iload 6, 2, 0, 0), (82, .goto (5), 3, 0, 0), (85, .iload 5, 2, 0, 0), (87, .istore 5, 2, 0, 0), (89, .iinc 6 (1), 3, 0, 0), (92, .goto (-37), 3, 0, 0), (95, .aload_n 0, 1, 0, 0), (96, .getfield 53, 3, 9, 22), (99, .iload_n 1, 1, 0, 0), (100, .aload_n 0, 1, 0, 0), (101, .getfield 47, 3, 9, 20), (104, .iload_n 1, 1, 0, 0), (105, .iaload, 1, 0, 0), (106, .bipush (6), 2, 0, 0), (108, .if_icmp .ne (8), 3, 0, 0), (111, .iload 5, 2, 0, 0), (113, .goto (5), 3, 0, 0), (116, .iload 4, 2, 0, 0), (118, .iastore, 1, 0, 0), (119, .aload_n 0, 1, 0, 0), (120, .iload_n 3, 1, 0, 0), (121, .ifCond .lt (23), 3, 0, 0), (124, .aload_n 0, 1, 0, 0), (125, .getfield 47, 3, 9, 20), (128, .iload_n 1, 1, 0, 0), (129, .iaload, 1, 0, 0), (130, .bipush (7), 2, 0, 0), (132, .if_icmp .eq (8), 3, 0, 0), (135, .iload 5, 2, 0, 0), (137, .ifCond .lt (7), 3, 0, 0), (140, .iconst 1, 1, 0, 0), (141, .goto (4), 3, 0, 0), (144, .iconst 0, 1, 0, 0), (145, .invokevirtual 161, 3, 57, 2), (148, .ireturn, 1, 0, 0)]
-- 60 PackStoreModel readRuns
def vt60 : List (Nat × vI) := [(0, .iconst 0, 1, 0, 0), (1, .istore_n 2, 1, 0, 0), (2, .iload_n 2, 1, 0, 0), (3, .aload_n 0, 1, 0, 0), (4, .getfield 50, 3, 9, 21), (7, .iload_n 1, 1, 0, 0), (8, .iaload, 1, 0, 0), (9, .if_icmp .ge (157), 3, 0, 0), (12, .aload_n 0, 1, 0, 0), (13, .invokevirtual 157, 3, 56, 1), (16, .istore_n 3, 1, 0, 0), (17, .iload_n 3, 1, 0, 0), (18, .sipush (128), 3, 0, 0), (21, .if_icmp .ge (9), 3, 0, 0), (24, .iload_n 3, 1, 0, 0), (25, .iconst 1, 1, 0, 0), (26, .iadd, 1, 0, 0), (27, .goto (7), 3, 0, 0), (30, .iload_n 3, 1, 0, 0), (31, .bipush (125), 2, 0, 0), (33, .isub, 1, 0, 0), (34, .istore 4, 2, 0, 0), (36, .aload_n 0, 1, 0, 0), (37, .iload_n 3, 1, 0, 0), (38, .ifCond .lt (20), 3, 0, 0), (41, .iload_n 2, 1, 0, 0), (42, .iload 4, 2, 0, 0), (44, .iadd, 1, 0, 0), (45, .aload_n 0, 1, 0, 0), (46, .getfield 50, 3, 9, 21), (49, .iload_n 1, 1, 0, 0), (50, .iaload, 1, 0, 0), (51, .if_icmp .gt (7), 3, 0, 0), (54, .iconst 1, 1, 0, 0), (55, .goto (4), 3, 0, 0), (58, .iconst 0, 1, 0, 0), (59, .invokevirtual 161, 3, 57, 2), (62, .ifCond .ne (5), 3, 0, 0), (65, .iconst 0, 1, 0, 0), (66, .ireturn, 1, 0, 0), (67, .iconst 0, 1, 0, 0), (68, .istore 5, 2, 0, 0), (70, .iload 5, 2, 0, 0), (72, .iload 4, 2, 0, 0), (74, .if_icmp .ge (84), 3, 0, 0), (77, .aload_n 0, 1, 0, 0), (78, .invokevirtual 157, 3, 56, 1), (81, .istore 6, 2, 0, 0), (83, .aload_n 0, 1, 0, 0), (84, .getfield 56, 3, 9, 23), (87, .sipush (256), 3, 0, 0), (90, .iload_n 1, 1, 0, 0), (91, .imul, 1, 0, 0), (92, .iload_n 2, 1, 0, 0), (93, .iadd, 1, 0, 0), (94, .iload 5, 2, 0, 0), (96, .iadd, 1, 0, 0), (97, .iload 6, 2, 0, 0), (99, .iastore, 1, 0, 0), (100, .iload_n 3, 1, 0, 0), (101, .sipush (128), 3, 0, 0), (104, .if_icmp .lt (12), 3, 0, 0), (107, .iload 5, 2, 0, 0), (109, .iload 4, 2, 0, 0), (111, .iconst 1, 1, 0, 0), (112, .isub, 1, 0, 0), (113, .if_icmp .ne (7), 3, 0, 0), (116, .iconst 1, 1, 0, 0), (117, .goto (4), 3, 0, 0), (120, .iconst 0, 1, 0, 0), (121, .istore 7, 2, 0, 0), (123, .iload 6, 2, 0, 0), (125, .ifCond .ge (5), 3, 0, 0), (128, .iconst 0, 1, 0, 0), (129, .ireturn, 1, 0, 0), (130, .aload_n 0, 1, 0, 0), (131, .iload 7, 2, 0, 0), (133, .ifCond .eq (12), 3, 0, 0), (136, .aload_n 0, 1, 0, 0), (137, .getfield 154, 3, 9, 18), (140, .iconst 1, 1, 0, 0), (141, .iadd, 1, 0, 0), (142, .goto (7), 3, 0, 0), (145, .aload_n 0, 1, 0, 0), (146, .getfield 154, 3, 9, 18), (149, .putfield 154, 3, 9, 18), (152, .iinc 5 (1), 3, 0, 0), (155, .goto (-85), 3, 0, 0), (158, .iload_n 2, 1, 0, 0), (159, .iload 4, 2, 0, 0), (161, .iadd, 1, 0, 0), (162, .istore_n 2, 1, 0, 0), (163, .goto (-161), 3, 0, 0), (166, .iconst 1, 1, 0, 0), (167, .ireturn, 1, 0, 0)]
-- 61 PackStoreModel readPack
def vt61 : List (Nat × vI) := [(0, .aload_n 0, 1, 0, 0), (1, .iconst 0, 1, 0, 0), (2, .putfield 154, 3, 9, 18), (5, .aload_n 0, 1, 0, 0), (6, .aload_n 0, 1, 0, 0), (7, .invokevirtual 157, 3, 56, 1), (10, .bipush (80), 2, 0, 0), (12, .if_icmp .ne (7), 3, 0, 0), (15, .iconst 1, 1, 0, 0), (16, .goto (4), 3, 0, 0), (19, .iconst 0, 1, 0, 0), (20, .invokevirtual 161, 3, 57, 2), (23, .ifCond .eq (23), 3, 0, 0), (26, .aload_n 0, 1, 0, 0), (27, .aload_n 0, 1, 0, 0), (28, .invokevirtual 157, 3, 56, 1), (31, .iconst 1, 1, 0, 0), (32, .if_icmp .ne (7), 3, 0, 0), (35, .iconst 1, 1, 0, 0), (36, .goto (4), 3, 0, 0), (39, .iconst 0, 1, 0, 0), (40, .invokevirtual 161, 3, 57, 2), (43, .ifCond .ne (5), 3, 0, 0), (46, .iconst 0, 1, 0, 0), (47, .ireturn, 1, 0, 0), (48, .aload_n 0, 1, 0, 0), (49, .aload_n 0, 1, 0, 0), (50, .invokevirtual 157, 3, 56, 1), (53, .putfield 165, 3, 9, 19), (56, .aload_n 0, 1, 0, 0), (57, .aload_n 0, 1, 0, 0), (58, .getfield 165, 3, 9, 19), (61, .iconst 1, 1, 0, 0), (62, .bipush (16), 2, 0, 0), (64, .invokestatic 63, 3, 24, 3), (67, .invokevirtual 161, 3, 57, 2), (70, .ifCond .ne (5), 3, 0, 0), (73, .iconst 0, 1, 0, 0), (74, .ireturn, 1, 0, 0), (75, .iconst 0, 1, 0, 0), (76, .istore_n 1, 1, 0, 0), (77, .iload_n 1, 1, 0, 0), (78, .aload_n 0, 1, 0, 0), (79, .getfield 165, 3, 9, 19), (82, .if_icmp .ge (35), 3, 0, 0), (85, .aload_n 0, 1, 0, 0), (86, .iload_n 1, 1, 0, 0), (87, .invokevirtual 168, 3, 58, 2), (90, .ifCond .eq (19), 3, 0, 0), (93, .aload_n 0, 1, 0, 0), (94, .iload_n 1, 1, 0, 0), (95, .invokevirtual 171, 3, 59, 2), (98, .ifCond .eq (11), 3, 0, 0), (101, .aload_n 0, 1, 0, 0), (102, .iload_n 1, 1, 0, 0), (103, .invokevirtual 174, 3, 60, 2), (106, .ifCond .ne (5), 3, 0, 0), (109, .iconst 0, 1, 0, 0), (110, .ireturn, 1, 0, 0), (111, .iinc 1 (1), 3, 0, 0), (114, .goto (-37), 3, 0, 0), (117, .aload_n 0, 1, 0, 0), (118, .aload_n 0, 1, 0, 0), (119, .getfield 154, 3, 9, 18), (122, .invokevirtual 151, 3, 53, 2), (125, .istore_n 1, 1, 0, 0), (126, .aload_n 0, 1, 0, 0), (127, .aload_n 0, 1, 0, 0), (128, .invokevirtual 157, 3, 56, 1), (131, .iload_n 1, 1, 0, 0), (132, .sipush (256), 3, 0, 0), (135, .idiv, 1, 0, 0), (136, .if_icmp .ne (7), 3, 0, 0), (139, .iconst 1, 1, 0, 0), (140, .goto (4), 3, 0, 0), (143, .iconst 0, 1, 0, 0), (144, .invokevirtual 161, 3, 57, 2), (147, .ifCond .eq (42), 3, 0, 0), (150, .aload_n 0, 1, 0, 0), (151, .aload_n 0, 1, 0, 0), (152, .invokevirtual 157, 3, 56, 1), (155, .iload_n 1, 1, 0, 0), (156, .sipush (256), 3, 0, 0), (159, .irem, 1, 0, 0), (160, .if_icmp .ne (7), 3, 0, 0), (163, .iconst 1, 1, 0, 0), (164, .goto (4), 3, 0, 0), (167, .iconst 0, 1, 0, 0), (168, .invokevirtual 161, 3, 57, 2), (171, .ifCond .eq (18), 3, 0, 0), (174, .aload_n 0, 1, 0, 0), (175, .getfield 154, 3, 9, 18), (178, .aload_n 0, 1, 0, 0), (179, .getfield 67, 3, 9, 1), (182, .if_icmp .ne (7), 3, 0, 0), (185, .iconst 1, 1, 0, 0), (186, .goto (4), 3, 0, 0), (189, .iconst 0, 1, 0, 0), (190, .ireturn, 1, 0, 0)]
-- 62 PackStoreModel apply
def vt62 : List (Nat × vI) := [(0, .sipush (256), 3, 0, 0), (3, .iload_n 1, 1, 0, 0), (4, .imul, 1, 0, 0), (5, .istore_n 3, 1, 0, 0), (6, .iload_n 3, 1, 0, 0), (7, .aload_n 0, 1, 0, 0), (8, .getfield 50, 3, 9, 21), (11, .iload_n 1, 1, 0, 0), (12, .iaload, 1, 0, 0), (13, .iadd, 1, 0, 0), (14, .istore 4, 2, 0, 0), (16, .iconst 0, 1, 0, 0), (17, .istore 5, 2, 0, 0), (19, .aload_n 0, 1, 0, 0), (20, .getfield 50, 3, 9, 21), (23, .iload_n 1, 1, 0, 0), (24, .iaload, 1, 0, 0), (25, .iconst 2, 1, 0, 0), (26, .if_icmp .lt (35), 3, 0, 0), (29, .aload_n 0, 1, 0, 0), (30, .getfield 56, 3, 9, 23), (33, .iload_n 3, 1, 0, 0), (34, .iaload, 1, 0, 0), (35, .aload_n 0, 1, 0, 0), (36, .getfield 19, 3, 9, 4), (39, .iload_n 2, 1, 0, 0), (40, .iaload, 1, 0, 0), (41, .if_icmp .ne (20), 3, 0, 0), (44, .aload_n 0, 1, 0, 0), (45, .getfield 56, 3, 9, 23), (48, .iload_n 3, 1, 0, 0), (49, .iconst 1, 1, 0, 0), (50, .iadd, 1, 0, 0), (51, .iaload, 1, 0, 0), (52, .bipush (24), 2, 0, 0), (54, .if_icmp .gt (7), 3, 0, 0), (57, .iconst 1, 1, 0, 0), (58, .goto (4), 3, 0, 0), (61, .iconst 0, 1, 0, 0), (62, .istore 6, 2, 0, 0), (64, .aload_n 0, 1, 0, 0), (65, .getfield 56, 3, 9, 23), (68, .iload_n 3, 1, 0, 0), (69, .iconst 1, 1, 0, 0), (70, .iadd, 1, 0, 0), (71, .iaload, 1, 0, 0), (72, .istore 7, 2, 0, 0), (74, .iload_n 3, 1, 0, 0), (75, .iconst 2, 1, 0, 0), (76, .iadd, 1, 0, 0), (77, .istore_n 3, 1, 0, 0), (78, .iload 6, 2, 0, 0), (80, .ifCond .eq (243), 3, 0, 0), (83, .iload_n 3, 1, 0, 0), (84, .iload 4, 2, 0, 0), (86, .if_icmp .ge (237), 3, 0, 0), (89, .aload_n 0, 1, 0, 0), (90, .getfield 56, 3, 9, 23), (93, .iload_n 3, 1, 0, 0), (94, .iaload, 1, 0, 0), (95, .istore 8, 2, 0, 0), (97, .iload 8, 2, 0, 0), (99, .sipush (128), 3, 0, 0), (102, .if_icmp .ge (7), 3, 0, 0), (105, .iconst 1, 1, 0, 0), (106, .goto (4), 3, 0, 0), (109, .iconst 0, 1, 0, 0), (110, .istore 9, 2, 0, 0), (112, .iload 9, 2, 0, 0), (114, .ifCond .eq (8), 3, 0, 0), (117, .iload 8, 2, 0, 0), (119, .goto (9), 3, 0, 0), (122, .iload 8, 2, 0, 0), (124, .sipush (128), 3, 0, 0), (127, .isub, 1, 0, 0), (128, .istore 10, 2, 0, 0), (130, .iload 9, 2, 0, 0), (132, .ifCond .eq (7), 3, 0, 0), (135, .iconst 0, 1, 0, 0), (136, .goto (23), 3, 0, 0), (139, .iload_n 3, 1, 0, 0), (140, .iconst 1, 1, 0, 0), (141, .iadd, 1, 0, 0), (142, .iload 4, 2, 0, 0), (144, .if_icmp .ge (14), 3, 0, 0), (147, .aload_n 0, 1, 0, 0), (148, .getfield 56, 3, 9, 23), (151, .iload_n 3, 1, 0, 0), (152, .iconst 1, 1, 0, 0), (153, .iadd, 1, 0, 0), (154, .iaload, 1, 0, 0), (155, .goto (4), 3, 0, 0), (158, .iconst 0, 1, 0, 0), (159, .istore 11, 2, 0, 0), (161, .iload 10, 2, 0, 0), (163, .ifCond .le (56), 3, 0, 0), (166, .iload 5, 2, 0, 0), (168, .iload 10, 2, 0, 0), (170, .iadd, 1, 0, 0), (171, .iload 7, 2, 0, 0), (173, .if_icmp .gt (46), 3, 0, 0), (176, .iload 9, 2, 0, 0), (178, .ifCond .eq (15), 3, 0, 0), (181, .iload_n 3, 1, 0, 0), (182, .iload 10, 2, 0, 0), (184, .iadd, 1, 0, 0), (185, .iload 4, 2, 0, 0), (187, .if_icmp .ge (32), 3, 0, 0), (190, .goto (25), 3, 0, 0), (193, .iload_n 3, 1, 0, 0), (194, .iconst 1, 1, 0, 0), (195, .iadd, 1, 0, 0), (196, .iload 4, 2, 0, 0), (198, .if_icmp .ge (21), 3, 0, 0), (201, .iload 11, 2, 0, 0), (203, .iload 10, 2, 0, 0), (205, .iadd, 1, 0, 0), (206, .aload_n 0, 1, 0, 0), (207, .getfield 19, 3, 9, 4), (210, .iload_n 2, 1, 0, 0), (211, .iaload, 1, 0, 0), (212, .if_icmp .gt (7), 3, 0, 0), (215, .iconst 1, 1, 0, 0), (216, .goto (4), 3, 0, 0), (219, .iconst 0, 1, 0, 0), (220, .istore 6, 2, 0, 0), (222, .iconst 0, 1, 0, 0), (223, .istore 12, 2, 0, 0), (225, .iload 12, 2, 0, 0), (227, .iload 10, 2, 0, 0), (229, .if_icmp .ge (66), 3, 0, 0), (232, .iload 6, 2, 0, 0), (234, .ifCond .eq (61), 3, 0, 0), (237, .aload_n 0, 1, 0, 0), (238, .getfield 22, 3, 9, 5), (241, .bipush (24), 2, 0, 0), (243, .bipush (40), 2, 0, 0), (245, .iload_n 1, 1, 0, 0), (246, .iadd, 1, 0, 0), (247, .imul, 1, 0, 0), (248, .iload 5, 2, 0, 0), (250, .iadd, 1, 0, 0), (251, .iload 12, 2, 0, 0), (253, .iadd, 1, 0, 0), (254, .iload 9, 2, 0, 0), (256, .ifCond .eq (17), 3, 0, 0), (259, .aload_n 0, 1, 0, 0), (260, .getfield 56, 3, 9, 23), (263, .iload_n 3, 1, 0, 0), (264, .iconst 1, 1, 0, 0), (265, .iadd, 1, 0, 0), (266, .iload 12, 2, 0, 0), (268, .iadd, 1, 0, 0), (269, .iaload, 1, 0, 0), (270, .goto (18), 3, 0, 0), (273, .aload_n 0, 1, 0, 0), (274, .getfield 22, 3, 9, 5), (277, .bipush (24), 2, 0, 0), (279, .iload_n 2, 1, 0, 0), (280, .imul, 1, 0, 0), (281, .iload 11, 2, 0, 0), (283, .iadd, 1, 0, 0), (284, .iload 12, 2, 0, 0), (286, .iadd, 1, 0, 0), (287, .iaload, 1, 0, 0), (288, .iastore, 1, 0, 0), (289, .iinc 12 (1), 3, 0, 0), (292, .goto (-67), 3, 0, 0), (295, .iload 5, 2, 0, 0), (297, .iload 10, 2, 0, 0), (299, .iadd, 1, 0, 0), (300, .istore 5, 2, 0, 0), (302, .iload 9, 2, 0, 0), (304, .ifCond .eq (12), 3, 0, 0), (307, .iload_n 3, 1, 0, 0), (308, .iconst 1, 1, 0, 0), (309, .iadd, 1, 0, 0), (310, .iload 10, 2, 0, 0), (312, .iadd, 1, 0, 0), (313, .goto (6), 3, 0, 0), (316, .iload_n 3, 1, 0, 0), (317, .iconst 2, 1, 0, 0), (318, .iadd, 1, 0, 0), (319, .istore_n 3, 1, 0, 0), (320, .goto (-242), 3, 0, 0), (323, .aload_n 0, 1, 0, 0), (324, .getfield 16, 3, 9, 3), (327, .bipush (40), 2, 0, 0), (329, .iload_n 1, 1, 0, 0), (330, .iadd, 1, 0, 0), (331, .aload_n 0, 1, 0, 0), (332, .getfield 16, 3, 9, 3), (335, .iload_n 2, 1, 0, 0), (336, .iaload, 1, 0, 0), (337, .iastore, 1, 0, 0), (338, .aload_n 0, 1, 0, 0), (339, .getfield 19, 3, 9, 4), (342, .bipush (40), 2, 0, 0), (344, .iload_n 1, 1, 0, 0), (345, .iadd, 1, 0, 0), (346, .iload 5, 2, 0, 0), (348, .iastore, 1, 0, 0), (349, .iload 6, 2, 0, 0), (351, .ifCond .eq (14), 3, 0, 0), (354, .iload 5, 2, 0, 0), (356, .iload 7, 2, 0, 0), (358, .if_icmp .ne (7), 3, 0, 0), (361, .iconst 1, 1, 0, 0), (362, .goto (4), 3, 0, 0), (365, .iconst 0, 1, 0, 0), (366, .ireturn, 1, 0, 0)]
-- 63 PackStoreModel baseOf
def vt63 : List (Nat × vI) := [(0, .aload_n 0, 1, 0, 0), (1, .getfield 47, 3, 9, 20), (4, .iload_n 1, 1, 0, 0), (5, .iaload, 1, 0, 0), (6, .bipush (6), 2, 0, 0), (8, .if_icmp .ne (31), 3, 0, 0), (11, .aload_n 0, 1, 0, 0), (12, .getfield 59, 3, 9, 24), (15, .aload_n 0, 1, 0, 0), (16, .getfield 53, 3, 9, 22), (19, .iload_n 1, 1, 0, 0), (20, .iaload, 1, 0, 0), (21, .baload, 1, 0, 0), (22, .ifCond .eq (15), 3, 0, 0), (25, .bipush (40), 2, 0, 0), (27, .aload_n 0, 1, 0, 0), (28, .getfield 53, 3, 9, 22), (31, .iload_n 1, 1, 0, 0), (32, .iaload, 1, 0, 0), (33, .iadd, 1, 0, 0), (34, .goto (4), 3, 0, 0), (37, .iconst (-1), 1, 0, 0), (38, .ireturn, 1, 0, 0), (39, .aload_n 0, 1, 0, 0), (40, .iconst 1, 1, 0, 0), (41, .aload_n 0, 1, 0, 0), (42, .getfield 53, 3, 9, 22), (45, .iload_n 1, 1, 0, 0), (46, .iaload, 1, 0, 0), (47, .invokevirtual 82, 3, 33, 3), (50, .istore_n 2, 1, 0, 0), (51, .aload_n 0, 1, 0, 0), (52, .getfield 165, 3, 9, 19), (55, .iconst 1, 1, 0, 0), (56, .isub, 1, 0, 0), (57, .istore_n 3, 1, 0, 0), (58, .iload_n 3, 1, 0, 0), (59, .ifCond .lt (44), 3, 0, 0), (62, .aload_n 0, 1, 0, 0), (63, .getfield 59, 3, 9, 24), (66, .iload_n 3, 1, 0, 0), (67, .baload, 1, 0, 0), (68, .ifCond .eq (27), 3, 0, 0), (71, .aload_n 0, 1, 0, 0), (72, .bipush (40), 2, 0, 0), (74, .iload_n 3, 1, 0, 0), (75, .iadd, 1, 0, 0), (76, .invokevirtual 79, 3, 31, 2), (79, .aload_n 0, 1, 0, 0), (80, .getfield 53, 3, 9, 22), (83, .iload_n 1, 1, 0, 0), (84, .iaload, 1, 0, 0), (85, .if_icmp .ne (10), 3, 0, 0), (88, .bipush (40), 2, 0, 0), (90, .iload_n 3, 1, 0, 0), (91, .iadd, 1, 0, 0), (92, .goto (4), 3, 0, 0), (95, .iload_n 2, 1, 0, 0), (96, .istore_n 2, 1, 0, 0), (97, .iinc 3 (-1), 3, 0, 0), (100, .goto (-42), 3, 0, 0), (103, .iload_n 2, 1, 0, 0), (104, .ireturn, 1, 0, 0)]
-- 64 PackStoreModel takeWhole
def vt64 : List (Nat × vI) := [(0, .aload_n 0, 1, 0, 0), (1, .getfield 16, 3, 9, 3), (4, .bipush (40), 2, 0, 0), (6, .iload_n 1, 1, 0, 0), (7, .iadd, 1, 0, 0), (8, .aload_n 0, 1, 0, 0), (9, .getfield 47, 3, 9, 20), (12, .iload_n 1, 1, 0, 0), (13, .iaload, 1, 0, 0), (14, .iastore, 1, 0, 0), (15, .aload_n 0, 1, 0, 0), (16, .getfield 19, 3, 9, 4), (19, .bipush (40), 2, 0, 0), (21, .iload_n 1, 1, 0, 0), (22, .iadd, 1, 0, 0), (23, .aload_n 0, 1, 0, 0), (24, .getfield 50, 3, 9, 21), (27, .iload_n 1, 1, 0, 0), (28, .iaload, 1, 0, 0), (29, .iastore, 1, 0, 0), (30, .iconst 0, 1, 0, 0), (31, .istore_n 2, 1, 0, 0), (32, .iload_n 2, 1, 0, 0), (33, .aload_n 0, 1, 0, 0), (34, .getfield 50, 3, 9, 21), (37, .iload_n 1, 1, 0, 0), (38, .iaload, 1, 0, 0), (39, .if_icmp .ge (35), 3, 0, 0), (42, .aload_n 0, 1, 0, 0), (43, .getfield 22, 3, 9, 5), (46, .bipush (24), 2, 0, 0), (48, .bipush (40), 2, 0, 0), (50, .iload_n 1, 1, 0, 0), (51, .iadd, 1, 0, 0), (52, .imul, 1, 0, 0), (53, .iload_n 2, 1, 0, 0), (54, .iadd, 1, 0, 0), (55, .aload_n 0, 1, 0, 0), (56, .getfield 56, 3, 9, 23), (59, .sipush (256), 3, 0, 0), (62, .iload_n 1, 1, 0, 0), (63, .imul, 1, 0, 0), (64, .iload_n 2, 1, 0, 0), (65, .iadd, 1, 0, 0), (66, .iaload, 1, 0, 0), (67, .iastore, 1, 0, 0), (68, .iinc 2 (1), 3, 0, 0), (71, .goto (-39), 3, 0, 0), (74, .return_, 1, 0, 0)]
-- 65 PackStoreModel workOut
def vt65 : List (Nat × vI) := [(0, .iconst 0, 1, 0, 0), (1, .istore_n 1, 1, 0, 0), (2, .iload_n 1, 1, 0, 0), (3, .aload_n 0, 1, 0, 0), (4, .getfield 165, 3, 9, 19), (7, .if_icmp .ge (44), 3, 0, 0), (10, .aload_n 0, 1, 0, 0), (11, .getfield 59, 3, 9, 24), (14, .iload_n 1, 1, 0, 0), (15, .aload_n 0, 1, 0, 0), (16, .getfield 47, 3, 9, 20), (19, .iload_n 1, 1, 0, 0), (20, .iaload, 1, 0, 0), (21, .iconst 3, 1, 0, 0), (22, .if_icmp .gt (7), 3, 0, 0), (25, .iconst 1, 1, 0, 0), (26, .goto (4), 3, 0, 0), (29, .iconst 0, 1, 0, 0), (30, .bastore, 1, 0, 0), (31, .aload_n 0, 1, 0, 0), (32, .getfield 59, 3, 9, 24), (35, .iload_n 1, 1, 0, 0), (36, .baload, 1, 0, 0), (37, .ifCond .eq (8), 3, 0, 0), (40, .aload_n 0, 1, 0, 0), (41, .iload_n 1, 1, 0, 0), (42, .invokevirtual 177, 3, 64, 2), (45, .iinc 1 (1), 3, 0, 0), (48, .goto (-46), 3, 0, 0), (51, .iconst 1, 1, 0, 0), (52, .istore_n 1, 1, 0, 0), (53, .iconst 0, 1, 0, 0), (54, .istore_n 2, 1, 0, 0), (55, .iload_n 2, 1, 0, 0), (56, .bipush (16), 2, 0, 0), (58, .if_icmp .gt (113), 3, 0, 0), (61, .iload_n 1, 1, 0, 0), (62, .ifCond .eq (109), 3, 0, 0), (65, .iconst 0, 1, 0, 0), (66, .istore_n 1, 1, 0, 0), (67, .iconst 0, 1, 0, 0), (68, .istore_n 3, 1, 0, 0), (69, .iload_n 3, 1, 0, 0), (70, .aload_n 0, 1, 0, 0), (71, .getfield 165, 3, 9, 19), (74, .if_icmp .ge (91), 3, 0, 0), (77, .aload_n 0, 1, 0, 0), (78, .getfield 59, 3, 9, 24), (81, .iload_n 3, 1, 0, 0), (82, .baload, 1, 0, 0), (83, .ifCond .eq (7), 3, 0, 0), (86, .iconst (-1), 1, 0, 0), (87, .goto (8), 3, 0, 0), (90, .aload_n 0, 1, 0, 0), (91, .iload_n 3, 1, 0, 0), (92, .invokevirtual 180, 3, 63, 2), (95, .istore 4, 2, 0, 0), (97, .iload 4, 2, 0, 0), (99, .ifCond .lt (17), 3, 0, 0), (102, .aload_n 0, 1, 0, 0), (103, .iload_n 3, 1, 0, 0), (104, .iload 4, 2, 0, 0), (106, .invokevirtual 183, 3, 62, 3), (109, .ifCond .eq (7), 3, 0, 0), (112, .iconst 1, 1, 0, 0), (113, .goto (4), 3, 0, 0), (116, .iconst 0, 1, 0, 0), (117, .istore 5, 2, 0, 0), (119, .aload_n 0, 1, 0, 0), (120, .getfield 59, 3, 9, 24), (123, .iload_n 3, 1, 0, 0), (124, .aload_n 0, 1, 0, 0), (125, .getfield 59, 3, 9, 24), (128, .iload_n 3, 1, 0, 0), (129, .baload, 1, 0, 0), (130, .ifCond .ne (8), 3, 0, 0), (133, .iload 5, 2, 0, 0), (135, .ifCond .eq (7), 3, 0, 0), (138, .iconst 1, 1, 0, 0), (139, .goto (4), 3, 0, 0), (142, .iconst 0, 1, 0, 0), (143, .bastore, 1, 0, 0), (144, .iload_n 1, 1, 0, 0), (145, .ifCond .ne (8), 3, 0, 0), (148, .iload 5, 2, 0, 0), (150, .ifCond .eq (7), 3, 0, 0), (153, .iconst 1, 1, 0, 0), (154, .goto (4), 3, 0, 0), (157, .iconst 0, 1, 0, 0), (158, .istore_n 1, 1, 0, 0), (159, .iinc 3 (1), 3, 0, 0), (162, .goto (-93), 3, 0, 0), (165, .iinc 2 (1), 3, 0, 0), (168, .goto (-113), 3, 0, 0), (171, .iconst 1, 1, 0, 0), (172, .istore_n 2, 1, 0, 0), (173, .iconst 0, 1, 0, 0), (174, .istore_n 3, 1, 0, 0), (175, .iload_n 3, 1, 0, 0), (176, .aload_n 0, 1, 0, 0), (177, .getfield 165, 3, 9, 19), (180, .if_icmp .ge (28), 3, 0, 0), (183, .iload_n 2, 1, 0, 0), (184, .ifCond .eq (16), 3, 0, 0), (187, .aload_n 0, 1, 0, 0), (188, .getfield 59, 3, 9, 24), (191, .iload_n 3, 1, 0, 0), (192, .baload, 1, 0, 0), (193, .ifCond .eq (7), 3, 0, 0), (196, .iconst 1, 1, 0, 0), (197, .goto (4), 3, 0, 0), (200, .iconst 0, 1, 0, 0), (201, .istore_n 2, 1, 0, 0), (202, .iinc 3 (1), 3, 0, 0), (205, .goto (-30), 3, 0, 0), (208, .iload_n 2, 1, 0, 0), (209, .ireturn, 1, 0, 0)]
-- 66 PackStoreModel sound
def vt66 : List (Nat × vI) := [(0, .iconst 1, 1, 0, 0), (1, .istore_n 1, 1, 0, 0), (2, .iconst 0, 1, 0, 0), (3, .istore_n 2, 1, 0, 0), (4, .iload_n 2, 1, 0, 0), (5, .aload_n 0, 1, 0, 0), (6, .getfield 165, 3, 9, 19), (9, .if_icmp .ge (119), 3, 0, 0), (12, .aload_n 0, 1, 0, 0), (13, .bipush (40), 2, 0, 0), (15, .iload_n 2, 1, 0, 0), (16, .iadd, 1, 0, 0), (17, .invokevirtual 79, 3, 31, 2), (20, .istore_n 3, 1, 0, 0), (21, .aload_n 0, 1, 0, 0), (22, .iconst 1, 1, 0, 0), (23, .iload_n 3, 1, 0, 0), (24, .invokevirtual 82, 3, 33, 3), (27, .istore 4, 2, 0, 0), (29, .iload_n 1, 1, 0, 0), (30, .ifCond .eq (36), 3, 0, 0), (33, .aload_n 0, 1, 0, 0), (34, .bipush (40), 2, 0, 0), (36, .iload_n 2, 1, 0, 0), (37, .iadd, 1, 0, 0), (38, .invokevirtual 96, 3, 35, 2), (41, .ifCond .eq (25), 3, 0, 0), (44, .iload 4, 2, 0, 0), (46, .ifCond .lt (16), 3, 0, 0), (49, .aload_n 0, 1, 0, 0), (50, .iload 4, 2, 0, 0), (52, .bipush (40), 2, 0, 0), (54, .iload_n 2, 1, 0, 0), (55, .iadd, 1, 0, 0), (56, .invokevirtual 100, 3, 34, 3), (59, .ifCond .eq (7), 3, 0, 0), (62, .iconst 1, 1, 0, 0), (63, .goto (4), 3, 0, 0), (66, .iconst 0, 1, 0, 0), (67, .istore_n 1, 1, 0, 0), (68, .iconst 0, 1, 0, 0), (69, .istore 5, 2, 0, 0), (71, .iload 5, 2, 0, 0), (73, .iload_n 2, 1, 0, 0), (74, .if_icmp .ge (48), 3, 0, 0), (77, .iload_n 1, 1, 0, 0), (78, .ifCond .eq (36), 3, 0, 0), (81, .aload_n 0, 1, 0, 0), (82, .bipush (40), 2, 0, 0), (84, .iload 5, 2, 0, 0), (86, .iadd, 1, 0, 0), (87, .invokevirtual 79, 3, 31, 2), (90, .iload_n 3, 1, 0, 0), (91, .if_icmp .ne (19), 3, 0, 0), (94, .aload_n 0, 1, 0, 0), (95, .bipush (40), 2, 0, 0), (97, .iload 5, 2, 0, 0), (99, .iadd, 1, 0, 0), (100, .bipush (40), 2, 0, 0), (102, .iload_n 2, 1, 0, 0), (103, .iadd, 1, 0, 0), (104, .invokevirtual 100, 3, 34, 3), (107, .ifCond .eq (7), 3, 0, 0), (110, .iconst 1, 1, 0, 0), (111, .goto (4), 3, 0, 0), (114, .iconst 0, 1, 0, 0), (115, .istore_n 1, 1, 0, 0), (116, .iinc 5 (1), 3, 0, 0), (119, .goto (-48), 3, 0, 0), (122, .iinc 2 (1), 3, 0, 0), (125, .goto (-121), 3, 0, 0), (128, .iload_n 1, 1, 0, 0), (129, .ireturn, 1, 0, 0)]
-- 67 PackStoreModel receive
def vt67 : List (Nat × vI) := [(0, .aload_n 0, 1, 0, 0), (1, .invokevirtual 186, 3, 61, 1), (4, .ifCond .ne (10), 3, 0, 0), (7, .iconst (-1), 1, 0, 0), (8, .aload_n 0, 1, 0, 0), (9, .getfield 154, 3, 9, 18), (12, .isub, 1, 0, 0), (13, .ireturn, 1, 0, 0), (14, .aload_n 0, 1, 0, 0), (15, .invokevirtual 190, 3, 65, 1), (18, .ifCond .ne (7), 3, 0, 0), (21, .sipush (-1000), 3, 0, 0), (24, .ireturn, 1, 0, 0), (25, .aload_n 0, 1, 0, 0), (26, .invokevirtual 193, 3, 66, 1), (29, .ifCond .ne (7), 3, 0, 0), (32, .sipush (-1001), 3, 0, 0), (35, .ireturn, 1, 0, 0), (36, .iconst 0, 1, 0, 0), (37, .istore_n 1, 1, 0, 0), (38, .iconst 0, 1, 0, 0), (39, .istore_n 2, 1, 0, 0), (40, .iload_n 2, 1, 0, 0), (41, .aload_n 0, 1, 0, 0), (42, .getfield 165, 3, 9, 19), (45, .if_icmp .ge (87), 3, 0, 0), (48, .aload_n 0, 1, 0, 0), (49, .bipush (40), 2, 0, 0), (51, .iload_n 2, 1, 0, 0), (52, .iadd, 1, 0, 0), (53, .invokevirtual 79, 3, 31, 2), (56, .istore_n 3, 1, 0, 0), (57, .aload_n 0, 1, 0, 0), (58, .iconst 1, 1, 0, 0), (59, .iload_n 3, 1, 0, 0), (60, .invokevirtual 82, 3, 33, 3), (63, .ifCond .ge (7), 3, 0, 0), (66, .iconst 1, 1, 0, 0), (67, .goto (4), 3, 0, 0), (70, .iconst 0, 1, 0, 0), (71, .istore 4, 2, 0, 0), (73, .iconst 0, 1, 0, 0), (74, .istore 5, 2, 0, 0), (76, .iload 5, 2, 0, 0), (78, .iload_n 2, 1, 0, 0), (79, .if_icmp .ge (34), 3, 0, 0), (82, .iload 4, 2, 0, 0), (84, .ifCond .eq (20), 3, 0, 0), (87, .aload_n 0, 1, 0, 0), (88, .bipush (40), 2, 0, 0), (90, .iload 5, 2, 0, 0), (92, .iadd, 1, 0, 0), (93, .invokevirtual 79, 3, 31, 2), (96, .iload_n 3, 1, 0, 0), (97, .if_icmp .eq (7), 3, 0, 0), (100, .iconst 1, 1, 0, 0), (101, .goto (4), 3, 0, 0), (104, .iconst 0, 1, 0, 0), (105, .istore 4, 2, 0, 0), (107, .iinc 5 (1), 3, 0, 0), (110, .goto (-34), 3, 0, 0), (113, .iload 4, 2, 0, 0), (115, .ifCond .eq (9), 3, 0, 0), (118, .iload_n 1, 1, 0, 0), (119, .iconst 1, 1, 0, 0), (120, .iadd, 1, 0, 0), (121, .goto (4), 3, 0, 0), (124, .iload_n 1, 1, 0, 0), (125, .istore_n 1, 1, 0, 0), (126, .iinc 2 (1), 3, 0, 0), (129, .goto (-89), 3, 0, 0), (132, .aload_n 0, 1, 0, 0), (133, .getfield 13, 3, 9, 2), (136, .iconst 1, 1, 0, 0), (137, .iaload, 1, 0, 0), (138, .iload_n 1, 1, 0, 0), (139, .iadd, 1, 0, 0), (140, .bipush (24), 2, 0, 0), (142, .if_icmp .le (7), 3, 0, 0), (145, .sipush (-1002), 3, 0, 0), (148, .ireturn, 1, 0, 0), (149, .iconst 0, 1, 0, 0), (150, .istore_n 2, 1, 0, 0), (151, .iload_n 2, 1, 0, 0), (152, .aload_n 0, 1, 0, 0), (153, .getfield 165, 3, 9, 19), (156, .if_icmp .ge (58), 3, 0, 0), (159, .aload_n 0, 1, 0, 0), (160, .bipush (40), 2, 0, 0), (162, .iload_n 2, 1, 0, 0), (163, .iadd, 1, 0, 0), (164, .invokevirtual 79, 3, 31, 2), (167, .istore_n 3, 1, 0, 0), (168, .aload_n 0, 1, 0, 0), (169, .iconst 1, 1, 0, 0), (170, .iload_n 3, 1, 0, 0), (171, .invokevirtual 82, 3, 33, 3), (174, .ifCond .ge (34), 3, 0, 0), (177, .aload_n 0, 1, 0, 0), (178, .bipush (40), 2, 0, 0), (180, .iload_n 2, 1, 0, 0), (181, .iadd, 1, 0, 0), (182, .bipush (16), 2, 0, 0), (184, .aload_n 0, 1, 0, 0), (185, .getfield 13, 3, 9, 2), (188, .iconst 1, 1, 0, 0), (189, .iaload, 1, 0, 0), (190, .iadd, 1, 0, 0), (191, .invokevirtual 104, 3, 41, 3), (194, .aload_n 0, 1, 0, 0), (195, .getfield 13, 3, 9, 2), (198, .iconst 1, 1, 0, 0), (199, .aload_n 0, 1, 0, 0), (200, .getfield 13, 3, 9, 2), (203, .iconst 1, 1, 0, 0), (204, .iaload, 1, 0, 0), (205, .iconst 1, 1, 0, 0), (206, .iadd, 1, 0, 0), (207, .iastore, 1, 0, 0), (208, .iinc 2 (1), 3, 0, 0), (211, .goto (-60), 3, 0, 0), (214, .iload_n 1, 1, 0, 0), (215, .ireturn, 1, 0, 0)]
-- 68 PackStoreModel forget
def vt68 : List (Nat × vI) := [(0, .aload_n 0, 1, 0, 0), (1, .getfield 13, 3, 9, 2), (4, .iconst 1, 1, 0, 0), (5, .iaload, 1, 0, 0), (6, .istore_n 1, 1, 0, 0), (7, .aload_n 0, 1, 0, 0), (8, .getfield 13, 3, 9, 2), (11, .iconst 1, 1, 0, 0), (12, .iconst 0, 1, 0, 0), (13, .iastore, 1, 0, 0), (14, .iload_n 1, 1, 0, 0), (15, .ireturn, 1, 0, 0)]
-- 69 PackStoreModel seek
def vt69 : List (Nat × vI) := [(0, .iload_n 1, 1, 0, 0), (1, .iconst 0, 1, 0, 0), (2, .iconst 1, 1, 0, 0), (3, .invokestatic 63, 3, 24, 3), (6, .ifCond .eq (12), 3, 0, 0), (9, .aload_n 0, 1, 0, 0), (10, .iload_n 1, 1, 0, 0), (11, .iload_n 2, 1, 0, 0), (12, .invokevirtual 82, 3, 33, 3), (15, .goto (4), 3, 0, 0), (18, .iconst (-1), 1, 0, 0), (19, .ireturn, 1, 0, 0)]
-- 70 PackStoreModel kind
def vt70 : List (Nat × vI) := [(0, .aload_n 0, 1, 0, 0), (1, .iload_n 1, 1, 0, 0), (2, .iload_n 2, 1, 0, 0), (3, .invokevirtual 196, 3, 69, 3), (6, .istore_n 3, 1, 0, 0), (7, .iload_n 3, 1, 0, 0), (8, .ifCond .ge (7), 3, 0, 0), (11, .iconst 0, 1, 0, 0), (12, .goto (9), 3, 0, 0), (15, .aload_n 0, 1, 0, 0), (16, .getfield 16, 3, 9, 3), (19, .iload_n 3, 1, 0, 0), (20, .iaload, 1, 0, 0), (21, .ireturn, 1, 0, 0)]
-- 71 PackStoreModel length
def vt71 : List (Nat × vI) := [(0, .aload_n 0, 1, 0, 0), (1, .iload_n 1, 1, 0, 0), (2, .iload_n 2, 1, 0, 0), (3, .invokevirtual 196, 3, 69, 3), (6, .istore_n 3, 1, 0, 0), (7, .iload_n 3, 1, 0, 0), (8, .ifCond .ge (7), 3, 0, 0), (11, .iconst (-1), 1, 0, 0), (12, .goto (9), 3, 0, 0), (15, .aload_n 0, 1, 0, 0), (16, .getfield 19, 3, 9, 4), (19, .iload_n 3, 1, 0, 0), (20, .iaload, 1, 0, 0), (21, .ireturn, 1, 0, 0)]
-- 72 PackStoreModel content
def vt72 : List (Nat × vI) := [(0, .aload_n 0, 1, 0, 0), (1, .iload_n 1, 1, 0, 0), (2, .iload_n 2, 1, 0, 0), (3, .invokevirtual 196, 3, 69, 3), (6, .istore 4, 2, 0, 0), (8, .iload 4, 2, 0, 0), (10, .ifCond .lt (20), 3, 0, 0), (13, .iload_n 3, 1, 0, 0), (14, .iconst 0, 1, 0, 0), (15, .aload_n 0, 1, 0, 0), (16, .getfield 19, 3, 9, 4), (19, .iload 4, 2, 0, 0), (21, .iaload, 1, 0, 0), (22, .iconst 1, 1, 0, 0), (23, .isub, 1, 0, 0), (24, .invokestatic 63, 3, 24, 3), (27, .ifCond .ne (7), 3, 0, 0), (30, .iconst (-1), 1, 0, 0), (31, .goto (15), 3, 0, 0), (34, .aload_n 0, 1, 0, 0), (35, .getfield 22, 3, 9, 5), (38, .bipush (24), 2, 0, 0), (40, .iload 4, 2, 0, 0), (42, .imul, 1, 0, 0), (43, .iload_n 3, 1, 0, 0), (44, .iadd, 1, 0, 0), (45, .iaload, 1, 0, 0), (46, .ireturn, 1, 0, 0)]
-- 73 PackStoreModel closure
def vt73 : List (Nat × vI) := [(0, .aload_n 0, 1, 0, 0), (1, .iload_n 1, 1, 0, 0), (2, .iload_n 2, 1, 0, 0), (3, .invokevirtual 196, 3, 69, 3), (6, .istore_n 3, 1, 0, 0), (7, .iload_n 3, 1, 0, 0), (8, .ifCond .ge (5), 3, 0, 0), (11, .iconst (-1), 1, 0, 0), (12, .ireturn, 1, 0, 0), (13, .aload_n 0, 1, 0, 0), (14, .invokevirtual 136, 3, 39, 1), (17, .aload_n 0, 1, 0, 0), (18, .iload_n 1, 1, 0, 0), (19, .iload_n 3, 1, 0, 0), (20, .invokevirtual 139, 3, 38, 3), (23, .iconst 0, 1, 0, 0), (24, .istore 4, 2, 0, 0), (26, .iconst 0, 1, 0, 0), (27, .istore 5, 2, 0, 0), (29, .iload 5, 2, 0, 0), (31, .bipush (40), 2, 0, 0), (33, .if_icmp .ge (30), 3, 0, 0), (36, .aload_n 0, 1, 0, 0), (37, .getfield 25, 3, 9, 6), (40, .iload 5, 2, 0, 0), (42, .baload, 1, 0, 0), (43, .ifCond .eq (10), 3, 0, 0), (46, .iload 4, 2, 0, 0), (48, .iconst 1, 1, 0, 0), (49, .iadd, 1, 0, 0), (50, .goto (5), 3, 0, 0), (53, .iload 4, 2, 0, 0), (55, .istore 4, 2, 0, 0), (57, .iinc 5 (1), 3, 0, 0), (60, .goto (-31), 3, 0, 0), (63, .aload_n 0, 1, 0, 0), (64, .getfield 85, 3, 9, 7), (67, .ifCond .eq (8), 3, 0, 0), (70, .iload 4, 2, 0, 0), (72, .goto (4), 3, 0, 0), (75, .iconst (-1), 1, 0, 0), (76, .ireturn, 1, 0, 0)]
-- 74 PackStoreModel count
def vt74 : List (Nat × vI) := [(0, .iload_n 1, 1, 0, 0), (1, .iconst 0, 1, 0, 0), (2, .iconst 1, 1, 0, 0), (3, .invokestatic 63, 3, 24, 3), (6, .ifCond .eq (12), 3, 0, 0), (9, .aload_n 0, 1, 0, 0), (10, .getfield 13, 3, 9, 2), (13, .iload_n 1, 1, 0, 0), (14, .iaload, 1, 0, 0), (15, .goto (4), 3, 0, 0), (18, .iconst (-1), 1, 0, 0), (19, .ireturn, 1, 0, 0)]
-- 75 Closure init
def vt75 : List (Nat × vI) := [(0, .aload_n 0, 1, 0, 0), (1, .invokespecial 1, 3, 1000, 0), (4, .aload_n 0, 1, 0, 0), (5, .iload_n 1, 1, 0, 0), (6, .newarray .boolean, 2, 0, 0), (8, .putfield 7, 3, 5, 0), (11, .aload_n 0, 1, 0, 0), (12, .iload_n 1, 1, 0, 0), (13, .newarray .int, 2, 0, 0), (15, .putfield 13, 3, 5, 1), (18, .aload_n 0, 1, 0, 0), (19, .iconst 0, 1, 0, 0), (20, .putfield 17, 3, 5, 2), (23, .return_, 1, 0, 0)]
-- 76 Closure found
def vt76 : List (Nat × vI) := [(0, .aload_n 0, 1, 0, 0), (1, .getfield 17, 3, 5, 2), (4, .ireturn, 1, 0, 0)]
-- 77 Closure has
def vt77 : List (Nat × vI) := [(0, .iload_n 1, 1, 0, 0), (1, .ifCond .lt (25), 3, 0, 0), (4, .iload_n 1, 1, 0, 0), (5, .aload_n 0, 1, 0, 0), (6, .getfield 7, 3, 5, 0), (9, .arraylength, 1, 0, 0), (10, .if_icmp .ge (16), 3, 0, 0), (13, .aload_n 0, 1, 0, 0), (14, .getfield 7, 3, 5, 0), (17, .iload_n 1, 1, 0, 0), (18, .baload, 1, 0, 0), (19, .ifCond .eq (7), 3, 0, 0), (22, .iconst 1, 1, 0, 0), (23, .goto (4), 3, 0, 0), (26, .iconst 0, 1, 0, 0), (27, .ireturn, 1, 0, 0)]
-- 78 Closure clear
def vt78 : List (Nat × vI) := [(0, .iconst 0, 1, 0, 0), (1, .istore_n 1, 1, 0, 0), (2, .iload_n 1, 1, 0, 0), (3, .aload_n 0, 1, 0, 0), (4, .getfield 7, 3, 5, 0), (7, .arraylength, 1, 0, 0), (8, .if_icmp .ge (16), 3, 0, 0), (11, .aload_n 0, 1, 0, 0), (12, .getfield 7, 3, 5, 0), (15, .iload_n 1, 1, 0, 0), (16, .iconst 0, 1, 0, 0), (17, .bastore, 1, 0, 0), (18, .iinc 1 (1), 3, 0, 0), (21, .goto (-19), 3, 0, 0), (24, .aload_n 0, 1, 0, 0), (25, .iconst 0, 1, 0, 0), (26, .putfield 17, 3, 5, 2), (29, .return_, 1, 0, 0)]
-- 79 Closure include
def vt79 : List (Nat × vI) := [(0, .aload_n 0, 1, 0, 0), (1, .getfield 17, 3, 5, 2), (4, .istore_n 3, 1, 0, 0), (5, .aload_n 1, 1, 0, 0), (6, .iload_n 2, 1, 0, 0), (7, .invokevirtual 21, 3, 162, 2), (10, .istore 4, 2, 0, 0), (12, .iload 4, 2, 0, 0), (14, .ifCond .ge (5), 3, 0, 0), (17, .iconst 0, 1, 0, 0), (18, .ireturn, 1, 0, 0), (19, .aload_n 0, 1, 0, 0), (20, .iload 4, 2, 0, 0), (22, .invokevirtual 27, 3, 81, 2), (25, .iload_n 3, 1, 0, 0), (26, .istore 5, 2, 0, 0), (28, .iload 5, 2, 0, 0), (30, .aload_n 0, 1, 0, 0), (31, .getfield 17, 3, 5, 2), (34, .if_icmp .ge (40), 3, 0, 0), (37, .iload 5, 2, 0, 0), (39, .aload_n 0, 1, 0, 0), (40, .getfield 13, 3, 5, 1), (43, .arraylength, 1, 0, 0), (44, .if_icmp .ge (30), 3, 0, 0), (47, .aload_n 0, 1, 0, 0), (48, .aload_n 1, 1, 0, 0), (49, .aload_n 1, 1, 0, 0), (50, .aload_n 0, 1, 0, 0), (51, .getfield 13, 3, 5, 1), (54, .iload 5, 2, 0, 0), (56, .iaload, 1, 0, 0), (57, .invokevirtual 31, 3, 160, 2), (60, .invokevirtual 35, 3, 80, 3), (63, .ifCond .ne (5), 3, 0, 0), (66, .iconst 0, 1, 0, 0), (67, .ireturn, 1, 0, 0), (68, .iinc 5 (1), 3, 0, 0), (71, .goto (-43), 3, 0, 0), (74, .iconst 1, 1, 0, 0), (75, .ireturn, 1, 0, 0)]
-- 80 Closure markNamed
def vt80 : List (Nat × vI) := [(0, .iconst 0, 1, 0, 0), (1, .istore_n 3, 1, 0, 0), (2, .iload_n 3, 1, 0, 0), (3, .aload_n 2, 1, 0, 0), (4, .invokevirtual 39, 3, 106, 1), (7, .if_icmp .ge (30), 3, 0, 0), (10, .aload_n 1, 1, 0, 0), (11, .aload_n 2, 1, 0, 0), (12, .iload_n 3, 1, 0, 0), (13, .invokevirtual 45, 3, 164, 3), (16, .istore 4, 2, 0, 0), (18, .iload 4, 2, 0, 0), (20, .ifCond .ge (5), 3, 0, 0), (23, .iconst 0, 1, 0, 0), (24, .ireturn, 1, 0, 0), (25, .aload_n 0, 1, 0, 0), (26, .iload 4, 2, 0, 0), (28, .invokevirtual 27, 3, 81, 2), (31, .iinc 3 (1), 3, 0, 0), (34, .goto (-32), 3, 0, 0), (37, .iconst 1, 1, 0, 0), (38, .ireturn, 1, 0, 0)]
-- 81 Closure mark
def vt81 : List (Nat × vI) := [(0, .iload_n 1, 1, 0, 0), (1, .aload_n 0, 1, 0, 0), (2, .getfield 7, 3, 5, 0), (5, .arraylength, 1, 0, 0), (6, .if_icmp .ge (39), 3, 0, 0), (9, .aload_n 0, 1, 0, 0), (10, .getfield 7, 3, 5, 0), (13, .iload_n 1, 1, 0, 0), (14, .baload, 1, 0, 0), (15, .ifCond .ne (30), 3, 0, 0), (18, .aload_n 0, 1, 0, 0), (19, .getfield 7, 3, 5, 0), (22, .iload_n 1, 1, 0, 0), (23, .iconst 1, 1, 0, 0), (24, .bastore, 1, 0, 0), (25, .aload_n 0, 1, 0, 0), (26, .getfield 13, 3, 5, 1), (29, .aload_n 0, 1, 0, 0), (30, .getfield 17, 3, 5, 2), (33, .iload_n 1, 1, 0, 0), (34, .iastore, 1, 0, 0), (35, .aload_n 0, 1, 0, 0), (36, .dup, 1, 0, 0), (37, .getfield 17, 3, 5, 2), (40, .iconst 1, 1, 0, 0), (41, .iadd, 1, 0, 0), (42, .putfield 17, 3, 5, 2), (45, .return_, 1, 0, 0)]
-- 82 Difference write
def vt82 : List (Nat × vI) := [(0, .aload_n 2, 1, 0, 0), (1, .invokevirtual 7, 3, 146, 1), (4, .aload_n 2, 1, 0, 0), (5, .aload_n 0, 1, 0, 0), (6, .invokevirtual 12, 3, 142, 1), (9, .invokevirtual 16, 3, 147, 2), (12, .aload_n 2, 1, 0, 0), (13, .aload_n 1, 1, 0, 0), (14, .invokevirtual 12, 3, 142, 1), (17, .invokevirtual 16, 3, 147, 2), (20, .iconst 0, 1, 0, 0), (21, .istore_n 3, 1, 0, 0), (22, .iconst 0, 1, 0, 0), (23, .istore 5, 2, 0, 0), (25, .iload 5, 2, 0, 0), (27, .aload_n 1, 1, 0, 0), (28, .invokevirtual 12, 3, 142, 1), (31, .if_icmp .ge (80), 3, 0, 0), (34, .aload_n 0, 1, 0, 0), (35, .aload_n 1, 1, 0, 0), (36, .iload 5, 2, 0, 0), (38, .invokestatic 20, 3, 84, 3), (41, .istore 6, 2, 0, 0), (43, .aload_n 1, 1, 0, 0), (44, .iload 5, 2, 0, 0), (46, .aload_n 0, 1, 0, 0), (47, .iload 6, 2, 0, 0), (49, .invokevirtual 26, 3, 156, 4), (52, .istore 7, 2, 0, 0), (54, .iload 7, 2, 0, 0), (56, .iconst 3, 1, 0, 0), (57, .if_icmp .lt (38), 3, 0, 0), (60, .aload_n 1, 1, 0, 0), (61, .iload 5, 2, 0, 0), (63, .iload_n 3, 1, 0, 0), (64, .isub, 1, 0, 0), (65, .iload_n 3, 1, 0, 0), (66, .aload_n 2, 1, 0, 0), (67, .invokestatic 30, 3, 83, 4), (70, .iconst 0, 1, 0, 0), (71, .istore_n 3, 1, 0, 0), (72, .aload_n 2, 1, 0, 0), (73, .sipush (128), 3, 0, 0), (76, .iload 7, 2, 0, 0), (78, .iadd, 1, 0, 0), (79, .invokevirtual 16, 3, 147, 2), (82, .aload_n 2, 1, 0, 0), (83, .iload 6, 2, 0, 0), (85, .invokevirtual 16, 3, 147, 2), (88, .iload 7, 2, 0, 0), (90, .istore 4, 2, 0, 0), (92, .goto (9), 3, 0, 0), (95, .iinc 3 (1), 3, 0, 0), (98, .iconst 1, 1, 0, 0), (99, .istore 4, 2, 0, 0), (101, .iload 5, 2, 0, 0), (103, .iload 4, 2, 0, 0), (105, .iadd, 1, 0, 0), (106, .istore 5, 2, 0, 0), (108, .goto (-83), 3, 0, 0), (111, .aload_n 1, 1, 0, 0), (112, .aload_n 1, 1, 0, 0), (113, .invokevirtual 12, 3, 142, 1), (116, .iload_n 3, 1, 0, 0), (117, .isub, 1, 0, 0), (118, .iload_n 3, 1, 0, 0), (119, .aload_n 2, 1, 0, 0), (120, .invokestatic 30, 3, 83, 4), (123, .return_, 1, 0, 0)]
-- 83 Difference writePut
def vt83 : List (Nat × vI) := [(0, .iload_n 2, 1, 0, 0), (1, .ifCond .le (16), 3, 0, 0), (4, .aload_n 3, 1, 0, 0), (5, .iload_n 2, 1, 0, 0), (6, .invokevirtual 16, 3, 147, 2), (9, .aload_n 3, 1, 0, 0), (10, .aload_n 0, 1, 0, 0), (11, .iload_n 1, 1, 0, 0), (12, .iload_n 2, 1, 0, 0), (13, .invokevirtual 34, 3, 149, 4), (16, .pop, 1, 0, 0), (17, .return_, 1, 0, 0)]
-- 84 Difference longestPlace
def vt84 : List (Nat × vI) := [(0, .iconst 0, 1, 0, 0), (1, .istore_n 3, 1, 0, 0), (2, .iconst 0, 1, 0, 0), (3, .istore 4, 2, 0, 0), (5, .iconst 0, 1, 0, 0), (6, .istore 5, 2, 0, 0), (8, .iload 5, 2, 0, 0), (10, .aload_n 0, 1, 0, 0), (11, .invokevirtual 12, 3, 142, 1), (14, .if_icmp .ge (33), 3, 0, 0), (17, .aload_n 1, 1, 0, 0), (18, .iload_n 2, 1, 0, 0), (19, .aload_n 0, 1, 0, 0), (20, .iload 5, 2, 0, 0), (22, .invokevirtual 26, 3, 156, 4), (25, .istore 6, 2, 0, 0), (27, .iload 6, 2, 0, 0), (29, .iload 4, 2, 0, 0), (31, .if_icmp .le (10), 3, 0, 0), (34, .iload 6, 2, 0, 0), (36, .istore 4, 2, 0, 0), (38, .iload 5, 2, 0, 0), (40, .istore_n 3, 1, 0, 0), (41, .iinc 5 (1), 3, 0, 0), (44, .goto (-36), 3, 0, 0), (47, .iload_n 3, 1, 0, 0), (48, .ireturn, 1, 0, 0)]
-- 85 Difference apply
def vt85 : List (Nat × vI) := [(0, .aload_n 2, 1, 0, 0), (1, .invokevirtual 7, 3, 146, 1), (4, .aload_n 1, 1, 0, 0), (5, .invokevirtual 12, 3, 142, 1), (8, .iconst 2, 1, 0, 0), (9, .if_icmp .lt (15), 3, 0, 0), (12, .aload_n 1, 1, 0, 0), (13, .iconst 0, 1, 0, 0), (14, .invokevirtual 38, 3, 144, 2), (17, .aload_n 0, 1, 0, 0), (18, .invokevirtual 12, 3, 142, 1), (21, .if_icmp .eq (5), 3, 0, 0), (24, .iconst 0, 1, 0, 0), (25, .ireturn, 1, 0, 0), (26, .iconst 2, 1, 0, 0), (27, .istore 4, 2, 0, 0), (29, .iload 4, 2, 0, 0), (31, .aload_n 1, 1, 0, 0), (32, .invokevirtual 12, 3, 142, 1), (35, .if_icmp .ge (50), 3, 0, 0), (38, .aload_n 1, 1, 0, 0), (39, .iload 4, 2, 0, 0), (41, .invokevirtual 38, 3, 144, 2), (44, .istore 5, 2, 0, 0), (46, .iload 5, 2, 0, 0), (48, .sipush (128), 3, 0, 0), (51, .if_icmp .ge (10), 3, 0, 0), (54, .iconst 1, 1, 0, 0), (55, .iload 5, 2, 0, 0), (57, .iadd, 1, 0, 0), (58, .goto (4), 3, 0, 0), (61, .iconst 2, 1, 0, 0), (62, .istore_n 3, 1, 0, 0), (63, .aload_n 0, 1, 0, 0), (64, .aload_n 1, 1, 0, 0), (65, .iload 4, 2, 0, 0), (67, .aload_n 2, 1, 0, 0), (68, .invokestatic 42, 3, 86, 4), (71, .ifCond .ne (5), 3, 0, 0), (74, .iconst 0, 1, 0, 0), (75, .ireturn, 1, 0, 0), (76, .iload 4, 2, 0, 0), (78, .iload_n 3, 1, 0, 0), (79, .iadd, 1, 0, 0), (80, .istore 4, 2, 0, 0), (82, .goto (-53), 3, 0, 0), (85, .aload_n 2, 1, 0, 0), (86, .invokevirtual 12, 3, 142, 1), (89, .aload_n 1, 1, 0, 0), (90, .iconst 1, 1, 0, 0), (91, .invokevirtual 38, 3, 144, 2), (94, .if_icmp .ne (7), 3, 0, 0), (97, .iconst 1, 1, 0, 0), (98, .goto (4), 3, 0, 0), (101, .iconst 0, 1, 0, 0), (102, .ireturn, 1, 0, 0)]
-- 86 Difference applyStep
def vt86 : List (Nat × vI) := [(0, .aload_n 1, 1, 0, 0), (1, .iload_n 2, 1, 0, 0), (2, .invokevirtual 38, 3, 144, 2), (5, .istore 4, 2, 0, 0), (7, .iload 4, 2, 0, 0), (9, .sipush (128), 3, 0, 0), (12, .irem, 1, 0, 0), (13, .ifCond .ne (5), 3, 0, 0), (16, .iconst 0, 1, 0, 0), (17, .ireturn, 1, 0, 0), (18, .iload 4, 2, 0, 0), (20, .sipush (128), 3, 0, 0), (23, .if_icmp .ge (14), 3, 0, 0), (26, .aload_n 3, 1, 0, 0), (27, .aload_n 1, 1, 0, 0), (28, .iload_n 2, 1, 0, 0), (29, .iconst 1, 1, 0, 0), (30, .iadd, 1, 0, 0), (31, .iload 4, 2, 0, 0), (33, .invokevirtual 34, 3, 149, 4), (36, .ireturn, 1, 0, 0), (37, .aload_n 3, 1, 0, 0), (38, .aload_n 0, 1, 0, 0), (39, .aload_n 1, 1, 0, 0), (40, .iload_n 2, 1, 0, 0), (41, .iconst 1, 1, 0, 0), (42, .iadd, 1, 0, 0), (43, .invokevirtual 38, 3, 144, 2), (46, .iload 4, 2, 0, 0), (48, .sipush (128), 3, 0, 0), (51, .isub, 1, 0, 0), (52, .invokevirtual 34, 3, 149, 4), (55, .ireturn, 1, 0, 0)]
-- 87 Entry init
def vt87 : List (Nat × vI) := [(0, .aload_n 0, 1, 0, 0), (1, .invokespecial 3, 3, 1000, 0), (4, .aload_n 0, 1, 0, 0), (5, .new 9, 3, 1, 0), (8, .dup, 1, 0, 0), (9, .sipush (255), 3, 0, 0), (12, .invokespecial 11, 3, 141, 2), (15, .putfield 14, 3, 7, 0), (18, .aload_n 0, 1, 0, 0), (19, .new 20, 3, 3, 0), (22, .dup, 1, 0, 0), (23, .invokespecial 22, 3, 96, 1), (26, .putfield 23, 3, 7, 1), (29, .return_, 1, 0, 0)]
-- 88 Entry isWhole
def vt88 : List (Nat × vI) := [(0, .aload_n 0, 1, 0, 0), (1, .getfield 27, 3, 7, 3), (4, .iconst 3, 1, 0, 0), (5, .if_icmp .gt (7), 3, 0, 0), (8, .iconst 1, 1, 0, 0), (9, .goto (4), 3, 0, 0), (12, .iconst 0, 1, 0, 0), (13, .ireturn, 1, 0, 0)]
-- 89 Entry hasKnownSort
def vt89 : List (Nat × vI) := [(0, .aload_n 0, 1, 0, 0), (1, .getfield 27, 3, 7, 3), (4, .iconst 1, 1, 0, 0), (5, .if_icmp .lt (11), 3, 0, 0), (8, .aload_n 0, 1, 0, 0), (9, .getfield 27, 3, 7, 3), (12, .iconst 3, 1, 0, 0), (13, .if_icmp .le (21), 3, 0, 0), (16, .aload_n 0, 1, 0, 0), (17, .getfield 27, 3, 7, 3), (20, .bipush (6), 2, 0, 0), (22, .if_icmp .eq (12), 3, 0, 0), (25, .aload_n 0, 1, 0, 0), (26, .getfield 27, 3, 7, 3), (29, .bipush (7), 2, 0, 0), (31, .if_icmp .ne (7), 3, 0, 0), (34, .iconst 1, 1, 0, 0), (35, .goto (4), 3, 0, 0), (38, .iconst 0, 1, 0, 0), (39, .ireturn, 1, 0, 0)]
-- 90 Entry takeWhole
def vt90 : List (Nat × vI) := [(0, .aload_n 0, 1, 0, 0), (1, .aload_n 0, 1, 0, 0), (2, .invokevirtual 31, 3, 88, 1), (5, .putfield 35, 3, 7, 6), (8, .aload_n 0, 1, 0, 0), (9, .getfield 35, 3, 7, 6), (12, .ifCond .eq (18), 3, 0, 0), (15, .aload_n 0, 1, 0, 0), (16, .getfield 23, 3, 7, 1), (19, .aload_n 0, 1, 0, 0), (20, .getfield 27, 3, 7, 3), (23, .aload_n 0, 1, 0, 0), (24, .getfield 14, 3, 7, 0), (27, .invokevirtual 39, 3, 100, 3), (30, .return_, 1, 0, 0)]
-- 91 IdList init
def vt91 : List (Nat × vI) := [(0, .aload_n 0, 1, 0, 0), (1, .invokespecial 1, 3, 1000, 0), (4, .aload_n 0, 1, 0, 0), (5, .iload_n 1, 1, 0, 0), (6, .newarray .int, 2, 0, 0), (8, .putfield 7, 3, 2, 0), (11, .aload_n 0, 1, 0, 0), (12, .iconst 0, 1, 0, 0), (13, .putfield 13, 3, 2, 1), (16, .return_, 1, 0, 0)]
-- 92 IdList used
def vt92 : List (Nat × vI) := [(0, .aload_n 0, 1, 0, 0), (1, .getfield 13, 3, 2, 1), (4, .ireturn, 1, 0, 0)]
-- 93 IdList get
def vt93 : List (Nat × vI) := [(0, .iload_n 1, 1, 0, 0), (1, .ifCond .lt (11), 3, 0, 0), (4, .iload_n 1, 1, 0, 0), (5, .aload_n 0, 1, 0, 0), (6, .getfield 13, 3, 2, 1), (9, .if_icmp .lt (7), 3, 0, 0), (12, .iconst (-1), 1, 0, 0), (13, .goto (9), 3, 0, 0), (16, .aload_n 0, 1, 0, 0), (17, .getfield 7, 3, 2, 0), (20, .iload_n 1, 1, 0, 0), (21, .iaload, 1, 0, 0), (22, .ireturn, 1, 0, 0)]
-- 94 IdList clear
def vt94 : List (Nat × vI) := [(0, .aload_n 0, 1, 0, 0), (1, .iconst 0, 1, 0, 0), (2, .putfield 13, 3, 2, 1), (5, .return_, 1, 0, 0)]
-- 95 IdList add
def vt95 : List (Nat × vI) := [(0, .aload_n 0, 1, 0, 0), (1, .getfield 13, 3, 2, 1), (4, .aload_n 0, 1, 0, 0), (5, .getfield 7, 3, 2, 0), (8, .arraylength, 1, 0, 0), (9, .if_icmp .lt (5), 3, 0, 0), (12, .iconst 0, 1, 0, 0), (13, .ireturn, 1, 0, 0), (14, .iconst 0, 1, 0, 0), (15, .istore_n 2, 1, 0, 0), (16, .iload_n 2, 1, 0, 0), (17, .aload_n 0, 1, 0, 0), (18, .getfield 13, 3, 2, 1), (21, .if_icmp .ge (21), 3, 0, 0), (24, .aload_n 0, 1, 0, 0), (25, .getfield 7, 3, 2, 0), (28, .iload_n 2, 1, 0, 0), (29, .iaload, 1, 0, 0), (30, .iload_n 1, 1, 0, 0), (31, .if_icmp .ne (5), 3, 0, 0), (34, .iconst 0, 1, 0, 0), (35, .ireturn, 1, 0, 0), (36, .iinc 2 (1), 3, 0, 0), (39, .goto (-23), 3, 0, 0), (42, .aload_n 0, 1, 0, 0), (43, .getfield 7, 3, 2, 0), (46, .aload_n 0, 1, 0, 0), (47, .getfield 13, 3, 2, 1), (50, .iload_n 1, 1, 0, 0), (51, .iastore, 1, 0, 0), (52, .aload_n 0, 1, 0, 0), (53, .dup, 1, 0, 0), (54, .getfield 13, 3, 2, 1), (57, .iconst 1, 1, 0, 0), (58, .iadd, 1, 0, 0), (59, .putfield 13, 3, 2, 1), (62, .iconst 1, 1, 0, 0), (63, .ireturn, 1, 0, 0)]
-- 96 Item init
def vt96 : List (Nat × vI) := [(0, .aload_n 0, 1, 0, 0), (1, .invokespecial 3, 3, 1000, 0), (4, .aload_n 0, 1, 0, 0), (5, .new 9, 3, 1, 0), (8, .dup, 1, 0, 0), (9, .bipush (24), 2, 0, 0), (11, .invokespecial 11, 3, 141, 2), (14, .putfield 14, 3, 3, 0), (17, .return_, 1, 0, 0)]
-- 97 Item sort
def vt97 : List (Nat × vI) := [(0, .aload_n 0, 1, 0, 0), (1, .getfield 20, 3, 3, 1), (4, .ireturn, 1, 0, 0)]
-- 98 Item id
def vt98 : List (Nat × vI) := [(0, .aload_n 0, 1, 0, 0), (1, .getfield 24, 3, 3, 2), (4, .ireturn, 1, 0, 0)]
-- 99 Item bytes
def vt99 : List (Nat × vI) := [(0, .aload_n 0, 1, 0, 0), (1, .getfield 14, 3, 3, 0), (4, .areturn, 1, 0, 0)]
-- 100 Item fill
def vt100 : List (Nat × vI) := [(0, .aload_n 0, 1, 0, 0), (1, .getfield 14, 3, 3, 0), (4, .invokevirtual 27, 3, 146, 1), (7, .aload_n 0, 1, 0, 0), (8, .getfield 14, 3, 3, 0), (11, .aload_n 2, 1, 0, 0), (12, .invokevirtual 30, 3, 150, 2), (15, .aload_n 0, 1, 0, 0), (16, .iload_n 1, 1, 0, 0), (17, .invokevirtual 34, 3, 101, 2), (20, .return_, 1, 0, 0)]
-- 101 Item finish
def vt101 : List (Nat × vI) := [(0, .aload_n 0, 1, 0, 0), (1, .iload_n 1, 1, 0, 0), (2, .putfield 20, 3, 3, 1), (5, .bipush (7), 2, 0, 0), (7, .aload_n 0, 1, 0, 0), (8, .getfield 20, 3, 3, 1), (11, .invokestatic 37, 3, 22, 2), (14, .aload_n 0, 1, 0, 0), (15, .getfield 14, 3, 3, 0), (18, .invokevirtual 41, 3, 142, 1), (21, .invokestatic 37, 3, 22, 2), (24, .istore_n 2, 1, 0, 0), (25, .aload_n 0, 1, 0, 0), (26, .aload_n 0, 1, 0, 0), (27, .getfield 14, 3, 3, 0), (30, .iload_n 2, 1, 0, 0), (31, .aload_n 0, 1, 0, 0), (32, .getfield 14, 3, 3, 0), (35, .invokevirtual 41, 3, 142, 1), (38, .invokevirtual 45, 3, 154, 3), (41, .putfield 24, 3, 3, 2), (44, .return_, 1, 0, 0)]
-- 102 Item isSame
def vt102 : List (Nat × vI) := [(0, .aload_n 0, 1, 0, 0), (1, .getfield 20, 3, 3, 1), (4, .aload_n 1, 1, 0, 0), (5, .getfield 20, 3, 3, 1), (8, .if_icmp .ne (21), 3, 0, 0), (11, .aload_n 0, 1, 0, 0), (12, .getfield 14, 3, 3, 0), (15, .aload_n 1, 1, 0, 0), (16, .getfield 14, 3, 3, 0), (19, .invokevirtual 48, 3, 153, 2), (22, .ifCond .eq (7), 3, 0, 0), (25, .iconst 1, 1, 0, 0), (26, .goto (4), 3, 0, 0), (29, .iconst 0, 1, 0, 0), (30, .ireturn, 1, 0, 0)]
-- 103 Item clashesWith
def vt103 : List (Nat × vI) := [(0, .aload_n 0, 1, 0, 0), (1, .getfield 24, 3, 3, 2), (4, .aload_n 1, 1, 0, 0), (5, .getfield 24, 3, 3, 2), (8, .if_icmp .ne (15), 3, 0, 0), (11, .aload_n 0, 1, 0, 0), (12, .aload_n 1, 1, 0, 0), (13, .invokevirtual 52, 3, 102, 2), (16, .ifCond .ne (7), 3, 0, 0), (19, .iconst 1, 1, 0, 0), (20, .goto (4), 3, 0, 0), (23, .iconst 0, 1, 0, 0), (24, .ireturn, 1, 0, 0)]
-- 104 Item isWellFormed
def vt104 : List (Nat × vI) := [(0, .aload_n 0, 1, 0, 0), (1, .getfield 14, 3, 3, 0), (4, .invokevirtual 41, 3, 142, 1), (7, .istore_n 1, 1, 0, 0), (8, .aload_n 0, 1, 0, 0), (9, .getfield 20, 3, 3, 1), (12, .lookupswitch (69) #[(1, 28), (2, 50)], 28, 0, 0), (40, .iload_n 1, 1, 0, 0), (41, .iconst 3, 1, 0, 0), (42, .if_icmp .eq (14), 3, 0, 0), (45, .iload_n 1, 1, 0, 0), (46, .iconst 5, 1, 0, 0), (47, .if_icmp .eq (9), 3, 0, 0), (50, .iload_n 1, 1, 0, 0), (51, .bipush (7), 2, 0, 0), (53, .if_icmp .ne (7), 3, 0, 0), (56, .iconst 1, 1, 0, 0), (57, .goto (4), 3, 0, 0), (60, .iconst 0, 1, 0, 0), (61, .ireturn, 1, 0, 0), (62, .iload_n 1, 1, 0, 0), (63, .iconst 3, 1, 0, 0), (64, .irem, 1, 0, 0), (65, .ifCond .ne (14), 3, 0, 0), (68, .aload_n 0, 1, 0, 0), (69, .invokevirtual 55, 3, 105, 1), (72, .ifCond .eq (7), 3, 0, 0), (75, .iconst 1, 1, 0, 0), (76, .goto (4), 3, 0, 0), (79, .iconst 0, 1, 0, 0), (80, .ireturn, 1, 0, 0), (81, .iconst 1, 1, 0, 0), (82, .ireturn, 1, 0, 0)]
-- 105 Item hasRisingNames
def vt105 : List (Nat × vI) := [(0, .iconst 3, 1, 0, 0), (1, .istore_n 1, 1, 0, 0), (2, .iload_n 1, 1, 0, 0), (3, .aload_n 0, 1, 0, 0), (4, .getfield 14, 3, 3, 0), (7, .invokevirtual 41, 3, 142, 1), (10, .if_icmp .ge (32), 3, 0, 0), (13, .aload_n 0, 1, 0, 0), (14, .getfield 14, 3, 3, 0), (17, .iload_n 1, 1, 0, 0), (18, .invokevirtual 59, 3, 144, 2), (21, .aload_n 0, 1, 0, 0), (22, .getfield 14, 3, 3, 0), (25, .iload_n 1, 1, 0, 0), (26, .iconst 3, 1, 0, 0), (27, .isub, 1, 0, 0), (28, .invokevirtual 59, 3, 144, 2), (31, .if_icmp .gt (5), 3, 0, 0), (34, .iconst 0, 1, 0, 0), (35, .ireturn, 1, 0, 0), (36, .iinc 1 (3), 3, 0, 0), (39, .goto (-37), 3, 0, 0), (42, .iconst 1, 1, 0, 0), (43, .ireturn, 1, 0, 0)]
-- 106 Item namedItems
def vt106 : List (Nat × vI) := [(0, .aload_n 0, 1, 0, 0), (1, .getfield 20, 3, 3, 1), (4, .lookupswitch (50) #[(1, 28), (2, 40)], 28, 0, 0), (32, .aload_n 0, 1, 0, 0), (33, .getfield 14, 3, 3, 0), (36, .invokevirtual 41, 3, 142, 1), (39, .iconst 1, 1, 0, 0), (40, .isub, 1, 0, 0), (41, .iconst 2, 1, 0, 0), (42, .idiv, 1, 0, 0), (43, .ireturn, 1, 0, 0), (44, .aload_n 0, 1, 0, 0), (45, .getfield 14, 3, 3, 0), (48, .invokevirtual 41, 3, 142, 1), (51, .iconst 3, 1, 0, 0), (52, .idiv, 1, 0, 0), (53, .ireturn, 1, 0, 0), (54, .iconst 0, 1, 0, 0), (55, .ireturn, 1, 0, 0)]
-- 107 Item namedId
def vt107 : List (Nat × vI) := [(0, .aload_n 0, 1, 0, 0), (1, .getfield 14, 3, 3, 0), (4, .aload_n 0, 1, 0, 0), (5, .getfield 20, 3, 3, 1), (8, .iconst 1, 1, 0, 0), (9, .if_icmp .ne (9), 3, 0, 0), (12, .iconst 2, 1, 0, 0), (13, .iload_n 1, 1, 0, 0), (14, .imul, 1, 0, 0), (15, .goto (8), 3, 0, 0), (18, .iconst 3, 1, 0, 0), (19, .iload_n 1, 1, 0, 0), (20, .imul, 1, 0, 0), (21, .iconst 1, 1, 0, 0), (22, .iadd, 1, 0, 0), (23, .invokevirtual 63, 3, 145, 2), (26, .ireturn, 1, 0, 0)]
-- 108 Item mayName
def vt108 : List (Nat × vI) := [(0, .aload_n 0, 1, 0, 0), (1, .getfield 20, 3, 3, 1), (4, .iconst 1, 1, 0, 0), (5, .if_icmp .ne (22), 3, 0, 0), (8, .iload_n 2, 1, 0, 0), (9, .iload_n 1, 1, 0, 0), (10, .ifCond .ne (7), 3, 0, 0), (13, .iconst 2, 1, 0, 0), (14, .goto (4), 3, 0, 0), (17, .iconst 1, 1, 0, 0), (18, .if_icmp .ne (7), 3, 0, 0), (21, .iconst 1, 1, 0, 0), (22, .goto (4), 3, 0, 0), (25, .iconst 0, 1, 0, 0), (26, .ireturn, 1, 0, 0), (27, .iload_n 2, 1, 0, 0), (28, .iconst 2, 1, 0, 0), (29, .if_icmp .eq (8), 3, 0, 0), (32, .iload_n 2, 1, 0, 0), (33, .iconst 3, 1, 0, 0), (34, .if_icmp .ne (7), 3, 0, 0), (37, .iconst 1, 1, 0, 0), (38, .goto (4), 3, 0, 0), (41, .iconst 0, 1, 0, 0), (42, .ireturn, 1, 0, 0)]
-- 109 PackReader init
def vt109 : List (Nat × vI) := [(0, .aload_n 0, 1, 0, 0), (1, .invokespecial 3, 3, 1000, 0), (4, .aload_n 0, 1, 0, 0), (5, .aload_n 1, 1, 0, 0), (6, .putfield 9, 3, 8, 0), (9, .aload_n 0, 1, 0, 0), (10, .aload_n 2, 1, 0, 0), (11, .putfield 15, 3, 8, 1), (14, .aload_n 0, 1, 0, 0), (15, .bipush (16), 2, 0, 0), (17, .anewarray 19, 3, 103, 0), (20, .putfield 21, 3, 8, 2), (23, .iconst 0, 1, 0, 0), (24, .istore_n 3, 1, 0, 0), (25, .iload_n 3, 1, 0, 0), (26, .bipush (16), 2, 0, 0), (28, .if_icmp .ge (22), 3, 0, 0), (31, .aload_n 0, 1, 0, 0), (32, .getfield 21, 3, 8, 2), (35, .iload_n 3, 1, 0, 0), (36, .new 19, 3, 7, 0), (39, .dup, 1, 0, 0), (40, .invokespecial 25, 3, 87, 1), (43, .aastore, 1, 0, 0), (44, .iinc 3 (1), 3, 0, 0), (47, .goto (-22), 3, 0, 0), (50, .aload_n 0, 1, 0, 0), (51, .iconst 0, 1, 0, 0), (52, .putfield 26, 3, 8, 3), (55, .aload_n 0, 1, 0, 0), (56, .iconst 0, 1, 0, 0), (57, .putfield 30, 3, 8, 4), (60, .aload_n 0, 1, 0, 0), (61, .iconst 0, 1, 0, 0), (62, .putfield 33, 3, 8, 5), (65, .return_, 1, 0, 0)]
-- 110 PackReader fault
def vt110 : List (Nat × vI) := [(0, .aload_n 0, 1, 0, 0), (1, .getfield 33, 3, 8, 5), (4, .ireturn, 1, 0, 0)]
-- 111 PackReader readPack
def vt111 : List (Nat × vI) := [(0, .aload_n 0, 1, 0, 0), (1, .iconst 0, 1, 0, 0), (2, .putfield 30, 3, 8, 4), (5, .aload_n 0, 1, 0, 0), (6, .iconst 0, 1, 0, 0), (7, .putfield 26, 3, 8, 3), (10, .aload_n 0, 1, 0, 0), (11, .bipush (80), 2, 0, 0), (13, .invokevirtual 36, 3, 113, 2), (16, .ifCond .eq (36), 3, 0, 0), (19, .aload_n 0, 1, 0, 0), (20, .iconst 1, 1, 0, 0), (21, .invokevirtual 36, 3, 113, 2), (24, .ifCond .eq (28), 3, 0, 0), (27, .aload_n 0, 1, 0, 0), (28, .invokevirtual 40, 3, 115, 1), (31, .ifCond .eq (21), 3, 0, 0), (34, .aload_n 0, 1, 0, 0), (35, .invokevirtual 44, 3, 121, 1), (38, .ifCond .eq (14), 3, 0, 0), (41, .aload_n 0, 1, 0, 0), (42, .invokevirtual 47, 3, 122, 1), (45, .ifCond .eq (7), 3, 0, 0), (48, .iconst 1, 1, 0, 0), (49, .goto (4), 3, 0, 0), (52, .iconst 0, 1, 0, 0), (53, .ireturn, 1, 0, 0)]
-- 112 PackReader next
def vt112 : List (Nat × vI) := [(0, .aload_n 0, 1, 0, 0), (1, .getfield 9, 3, 8, 0), (4, .aload_n 0, 1, 0, 0), (5, .getfield 30, 3, 8, 4), (8, .invokevirtual 50, 3, 144, 2), (11, .istore_n 3, 1, 0, 0), (12, .iload_n 3, 1, 0, 0), (13, .iload_n 1, 1, 0, 0), (14, .if_icmp .lt (8), 3, 0, 0), (17, .iload_n 3, 1, 0, 0), (18, .iload_n 2, 1, 0, 0), (19, .if_icmp .le (13), 3, 0, 0), (22, .aload_n 0, 1, 0, 0), (23, .aload_n 0, 1, 0, 0), (24, .getfield 30, 3, 8, 4), (27, .putfield 33, 3, 8, 5), (30, .iconst (-1), 1, 0, 0), (31, .ireturn, 1, 0, 0), (32, .aload_n 0, 1, 0, 0), (33, .dup, 1, 0, 0), (34, .getfield 30, 3, 8, 4), (37, .iconst 1, 1, 0, 0), (38, .iadd, 1, 0, 0), (39, .putfield 30, 3, 8, 4), (42, .iload_n 3, 1, 0, 0), (43, .ireturn, 1, 0, 0)]
-- 113 PackReader isNext
def vt113 : List (Nat × vI) := [(0, .aload_n 0, 1, 0, 0), (1, .iload_n 1, 1, 0, 0), (2, .iload_n 1, 1, 0, 0), (3, .invokevirtual 56, 3, 112, 3), (6, .iload_n 1, 1, 0, 0), (7, .if_icmp .ne (7), 3, 0, 0), (10, .iconst 1, 1, 0, 0), (11, .goto (4), 3, 0, 0), (14, .iconst 0, 1, 0, 0), (15, .ireturn, 1, 0, 0)]
-- 114 PackReader failAtLast
def vt114 : List (Nat × vI) := [(0, .aload_n 0, 1, 0, 0), (1, .aload_n 0, 1, 0, 0), (2, .getfield 30, 3, 8, 4), (5, .iconst 1, 1, 0, 0), (6, .isub, 1, 0, 0), (7, .putfield 33, 3, 8, 5), (10, .iconst 0, 1, 0, 0), (11, .ireturn, 1, 0, 0)]
-- 115 PackReader readEntries
def vt115 : List (Nat × vI) := [(0, .aload_n 0, 1, 0, 0), (1, .iconst 1, 1, 0, 0), (2, .bipush (16), 2, 0, 0), (4, .invokevirtual 56, 3, 112, 3), (7, .istore_n 1, 1, 0, 0), (8, .iconst 0, 1, 0, 0), (9, .istore_n 2, 1, 0, 0), (10, .iload_n 2, 1, 0, 0), (11, .iload_n 1, 1, 0, 0), (12, .if_icmp .ge (52), 3, 0, 0), (15, .aload_n 0, 1, 0, 0), (16, .getfield 21, 3, 8, 2), (19, .iload_n 2, 1, 0, 0), (20, .aaload, 1, 0, 0), (21, .astore_n 3, 1, 0, 0), (22, .aload_n 0, 1, 0, 0), (23, .aload_n 3, 1, 0, 0), (24, .invokevirtual 60, 3, 116, 2), (27, .ifCond .eq (19), 3, 0, 0), (30, .aload_n 0, 1, 0, 0), (31, .aload_n 3, 1, 0, 0), (32, .invokevirtual 64, 3, 117, 2), (35, .ifCond .eq (11), 3, 0, 0), (38, .aload_n 0, 1, 0, 0), (39, .aload_n 3, 1, 0, 0), (40, .invokevirtual 67, 3, 119, 2), (43, .ifCond .ne (5), 3, 0, 0), (46, .iconst 0, 1, 0, 0), (47, .ireturn, 1, 0, 0), (48, .aload_n 0, 1, 0, 0), (49, .dup, 1, 0, 0), (50, .getfield 26, 3, 8, 3), (53, .iconst 1, 1, 0, 0), (54, .iadd, 1, 0, 0), (55, .putfield 26, 3, 8, 3), (58, .iinc 2 (1), 3, 0, 0), (61, .goto (-51), 3, 0, 0), (64, .iload_n 1, 1, 0, 0), (65, .ifCond .le (7), 3, 0, 0), (68, .iconst 1, 1, 0, 0), (69, .goto (4), 3, 0, 0), (72, .iconst 0, 1, 0, 0), (73, .ireturn, 1, 0, 0)]
-- 116 PackReader readHead
def vt116 : List (Nat × vI) := [(0, .aload_n 1, 1, 0, 0), (1, .aload_n 0, 1, 0, 0), (2, .getfield 30, 3, 8, 4), (5, .putfield 70, 3, 7, 2), (8, .aload_n 0, 1, 0, 0), (9, .iconst 0, 1, 0, 0), (10, .sipush (255), 3, 0, 0), (13, .invokevirtual 56, 3, 112, 3), (16, .istore_n 2, 1, 0, 0), (17, .iload_n 2, 1, 0, 0), (18, .ifCond .ge (5), 3, 0, 0), (21, .iconst 0, 1, 0, 0), (22, .ireturn, 1, 0, 0), (23, .aload_n 1, 1, 0, 0), (24, .iload_n 2, 1, 0, 0), (25, .bipush (16), 2, 0, 0), (27, .idiv, 1, 0, 0), (28, .bipush (8), 2, 0, 0), (30, .irem, 1, 0, 0), (31, .putfield 73, 3, 7, 3), (34, .aload_n 1, 1, 0, 0), (35, .iload_n 2, 1, 0, 0), (36, .bipush (16), 2, 0, 0), (38, .irem, 1, 0, 0), (39, .putfield 76, 3, 7, 4), (42, .aload_n 1, 1, 0, 0), (43, .invokevirtual 79, 3, 89, 1), (46, .ifCond .ne (8), 3, 0, 0), (49, .aload_n 0, 1, 0, 0), (50, .invokevirtual 82, 3, 114, 1), (53, .ireturn, 1, 0, 0), (54, .iload_n 2, 1, 0, 0), (55, .sipush (128), 3, 0, 0), (58, .if_icmp .lt (30), 3, 0, 0), (61, .aload_n 0, 1, 0, 0), (62, .iconst 1, 1, 0, 0), (63, .bipush (15), 2, 0, 0), (65, .invokevirtual 56, 3, 112, 3), (68, .istore_n 3, 1, 0, 0), (69, .iload_n 3, 1, 0, 0), (70, .ifCond .ge (5), 3, 0, 0), (73, .iconst 0, 1, 0, 0), (74, .ireturn, 1, 0, 0), (75, .aload_n 1, 1, 0, 0), (76, .dup, 1, 0, 0), (77, .getfield 76, 3, 7, 4), (80, .bipush (16), 2, 0, 0), (82, .iload_n 3, 1, 0, 0), (83, .imul, 1, 0, 0), (84, .iadd, 1, 0, 0), (85, .putfield 76, 3, 7, 4), (88, .aload_n 1, 1, 0, 0), (89, .invokevirtual 85, 3, 88, 1), (92, .ifCond .eq (19), 3, 0, 0), (95, .aload_n 1, 1, 0, 0), (96, .getfield 76, 3, 7, 4), (99, .bipush (24), 2, 0, 0), (101, .if_icmp .le (10), 3, 0, 0), (104, .aload_n 0, 1, 0, 0), (105, .invokevirtual 82, 3, 114, 1), (108, .goto (4), 3, 0, 0), (111, .iconst 1, 1, 0, 0), (112, .ireturn, 1, 0, 0)]
-- 117 PackReader readBase
def vt117 : List (Nat × vI) := [(0, .aload_n 1, 1, 0, 0), (1, .invokevirtual 85, 3, 88, 1), (4, .ifCond .eq (5), 3, 0, 0), (7, .iconst 1, 1, 0, 0), (8, .ireturn, 1, 0, 0), (9, .aload_n 0, 1, 0, 0), (10, .iconst 0, 1, 0, 0), (11, .sipush (255), 3, 0, 0), (14, .invokevirtual 56, 3, 112, 3), (17, .istore_n 2, 1, 0, 0), (18, .iload_n 2, 1, 0, 0), (19, .ifCond .ge (7), 3, 0, 0), (22, .iconst (-1), 1, 0, 0), (23, .goto (11), 3, 0, 0), (26, .aload_n 0, 1, 0, 0), (27, .iconst 0, 1, 0, 0), (28, .sipush (255), 3, 0, 0), (31, .invokevirtual 56, 3, 112, 3), (34, .istore_n 3, 1, 0, 0), (35, .iload_n 3, 1, 0, 0), (36, .ifCond .ge (5), 3, 0, 0), (39, .iconst 0, 1, 0, 0), (40, .ireturn, 1, 0, 0), (41, .iload_n 2, 1, 0, 0), (42, .sipush (256), 3, 0, 0), (45, .imul, 1, 0, 0), (46, .iload_n 3, 1, 0, 0), (47, .iadd, 1, 0, 0), (48, .istore 4, 2, 0, 0), (50, .aload_n 1, 1, 0, 0), (51, .getfield 73, 3, 7, 3), (54, .bipush (7), 2, 0, 0), (56, .if_icmp .ne (11), 3, 0, 0), (59, .aload_n 1, 1, 0, 0), (60, .iload 4, 2, 0, 0), (62, .putfield 88, 3, 7, 5), (65, .iconst 1, 1, 0, 0), (66, .ireturn, 1, 0, 0), (67, .aload_n 1, 1, 0, 0), (68, .aload_n 0, 1, 0, 0), (69, .aload_n 1, 1, 0, 0), (70, .getfield 70, 3, 7, 2), (73, .iload 4, 2, 0, 0), (75, .isub, 1, 0, 0), (76, .invokevirtual 91, 3, 118, 2), (79, .putfield 88, 3, 7, 5), (82, .aload_n 1, 1, 0, 0), (83, .getfield 88, 3, 7, 5), (86, .ifCond .ge (10), 3, 0, 0), (89, .aload_n 0, 1, 0, 0), (90, .invokevirtual 82, 3, 114, 1), (93, .goto (4), 3, 0, 0), (96, .iconst 1, 1, 0, 0), (97, .ireturn, 1, 0, 0)]
-- 118 PackReader entryAt
def vt118 : List (Nat × vI) := [(0, .iconst 0, 1, 0, 0), (1, .istore_n 2, 1, 0, 0), (2, .iload_n 2, 1, 0, 0), (3, .aload_n 0, 1, 0, 0), (4, .getfield 26, 3, 8, 3), (7, .if_icmp .ge (24), 3, 0, 0), (10, .aload_n 0, 1, 0, 0), (11, .getfield 21, 3, 8, 2), (14, .iload_n 2, 1, 0, 0), (15, .aaload, 1, 0, 0), (16, .getfield 70, 3, 7, 2), (19, .iload_n 1, 1, 0, 0), (20, .if_icmp .ne (5), 3, 0, 0), (23, .iload_n 2, 1, 0, 0), (24, .ireturn, 1, 0, 0), (25, .iinc 2 (1), 3, 0, 0), (28, .goto (-26), 3, 0, 0), (31, .iconst (-1), 1, 0, 0), (32, .ireturn, 1, 0, 0)]
-- 119 PackReader readRuns
def vt119 : List (Nat × vI) := [(0, .aload_n 1, 1, 0, 0), (1, .getfield 94, 3, 7, 0), (4, .invokevirtual 97, 3, 146, 1), (7, .aload_n 1, 1, 0, 0), (8, .getfield 76, 3, 7, 4), (11, .istore_n 3, 1, 0, 0), (12, .iload_n 3, 1, 0, 0), (13, .ifCond .le (70), 3, 0, 0), (16, .aload_n 0, 1, 0, 0), (17, .iconst 0, 1, 0, 0), (18, .sipush (255), 3, 0, 0), (21, .invokevirtual 56, 3, 112, 3), (24, .istore 4, 2, 0, 0), (26, .iload 4, 2, 0, 0), (28, .ifCond .ge (5), 3, 0, 0), (31, .iconst 0, 1, 0, 0), (32, .ireturn, 1, 0, 0), (33, .iload 4, 2, 0, 0), (35, .invokestatic 100, 3, 138, 1), (38, .istore_n 2, 1, 0, 0), (39, .iload_n 2, 1, 0, 0), (40, .iload_n 3, 1, 0, 0), (41, .if_icmp .le (8), 3, 0, 0), (44, .aload_n 0, 1, 0, 0), (45, .invokevirtual 82, 3, 114, 1), (48, .ireturn, 1, 0, 0), (49, .aload_n 0, 1, 0, 0), (50, .aload_n 1, 1, 0, 0), (51, .getfield 94, 3, 7, 0), (54, .iload_n 2, 1, 0, 0), (55, .iload 4, 2, 0, 0), (57, .sipush (128), 3, 0, 0), (60, .if_icmp .lt (7), 3, 0, 0), (63, .iconst 1, 1, 0, 0), (64, .goto (4), 3, 0, 0), (67, .iconst 0, 1, 0, 0), (68, .invokevirtual 105, 3, 120, 4), (71, .ifCond .ne (5), 3, 0, 0), (74, .iconst 0, 1, 0, 0), (75, .ireturn, 1, 0, 0), (76, .iload_n 3, 1, 0, 0), (77, .iload_n 2, 1, 0, 0), (78, .isub, 1, 0, 0), (79, .istore_n 3, 1, 0, 0), (80, .goto (-68), 3, 0, 0), (83, .iconst 1, 1, 0, 0), (84, .ireturn, 1, 0, 0)]
-- 120 PackReader readRun
def vt120 : List (Nat × vI) := [(0, .iconst (-1), 1, 0, 0), (1, .istore 4, 2, 0, 0), (3, .iconst 0, 1, 0, 0), (4, .istore 5, 2, 0, 0), (6, .iload 5, 2, 0, 0), (8, .iload_n 2, 1, 0, 0), (9, .if_icmp .ge (41), 3, 0, 0), (12, .iload 5, 2, 0, 0), (14, .ifCond .eq (7), 3, 0, 0), (17, .iload_n 3, 1, 0, 0), (18, .ifCond .ne (13), 3, 0, 0), (21, .aload_n 0, 1, 0, 0), (22, .iconst 0, 1, 0, 0), (23, .sipush (255), 3, 0, 0), (26, .invokevirtual 56, 3, 112, 3), (29, .istore 4, 2, 0, 0), (31, .iload 4, 2, 0, 0), (33, .ifCond .ge (5), 3, 0, 0), (36, .iconst 0, 1, 0, 0), (37, .ireturn, 1, 0, 0), (38, .aload_n 1, 1, 0, 0), (39, .iload 4, 2, 0, 0), (41, .invokevirtual 109, 3, 147, 2), (44, .iinc 5 (1), 3, 0, 0), (47, .goto (-41), 3, 0, 0), (50, .iconst 1, 1, 0, 0), (51, .ireturn, 1, 0, 0)]
-- 121 PackReader readHash
def vt121 : List (Nat × vI) := [(0, .aload_n 0, 1, 0, 0), (1, .getfield 9, 3, 8, 0), (4, .bipush (7), 2, 0, 0), (6, .aload_n 0, 1, 0, 0), (7, .getfield 30, 3, 8, 4), (10, .invokevirtual 113, 3, 154, 3), (13, .istore_n 1, 1, 0, 0), (14, .aload_n 0, 1, 0, 0), (15, .iload_n 1, 1, 0, 0), (16, .sipush (256), 3, 0, 0), (19, .idiv, 1, 0, 0), (20, .invokevirtual 36, 3, 113, 2), (23, .ifCond .eq (19), 3, 0, 0), (26, .aload_n 0, 1, 0, 0), (27, .iload_n 1, 1, 0, 0), (28, .sipush (256), 3, 0, 0), (31, .irem, 1, 0, 0), (32, .invokevirtual 36, 3, 113, 2), (35, .ifCond .eq (7), 3, 0, 0), (38, .iconst 1, 1, 0, 0), (39, .goto (4), 3, 0, 0), (42, .iconst 0, 1, 0, 0), (43, .ireturn, 1, 0, 0)]
-- 122 PackReader readEnd
def vt122 : List (Nat × vI) := [(0, .aload_n 0, 1, 0, 0), (1, .aload_n 0, 1, 0, 0), (2, .getfield 30, 3, 8, 4), (5, .putfield 33, 3, 8, 5), (8, .aload_n 0, 1, 0, 0), (9, .getfield 30, 3, 8, 4), (12, .aload_n 0, 1, 0, 0), (13, .getfield 9, 3, 8, 0), (16, .invokevirtual 116, 3, 142, 1), (19, .if_icmp .ne (7), 3, 0, 0), (22, .iconst 1, 1, 0, 0), (23, .goto (4), 3, 0, 0), (26, .iconst 0, 1, 0, 0), (27, .ireturn, 1, 0, 0)]
-- 123 PackReader workOut
def vt123 : List (Nat × vI) := [(0, .iconst 0, 1, 0, 0), (1, .istore_n 1, 1, 0, 0), (2, .iconst 0, 1, 0, 0), (3, .istore_n 2, 1, 0, 0), (4, .iload_n 2, 1, 0, 0), (5, .aload_n 0, 1, 0, 0), (6, .getfield 26, 3, 8, 3), (9, .if_icmp .ge (38), 3, 0, 0), (12, .aload_n 0, 1, 0, 0), (13, .getfield 21, 3, 8, 2), (16, .iload_n 2, 1, 0, 0), (17, .aaload, 1, 0, 0), (18, .invokevirtual 120, 3, 90, 1), (21, .iload_n 1, 1, 0, 0), (22, .aload_n 0, 1, 0, 0), (23, .getfield 21, 3, 8, 2), (26, .iload_n 2, 1, 0, 0), (27, .aaload, 1, 0, 0), (28, .getfield 123, 3, 7, 6), (31, .ifCond .eq (7), 3, 0, 0), (34, .iconst 1, 1, 0, 0), (35, .goto (4), 3, 0, 0), (38, .iconst 0, 1, 0, 0), (39, .iadd, 1, 0, 0), (40, .istore_n 1, 1, 0, 0), (41, .iinc 2 (1), 3, 0, 0), (44, .goto (-40), 3, 0, 0), (47, .iconst 1, 1, 0, 0), (48, .istore_n 2, 1, 0, 0), (49, .iconst 0, 1, 0, 0), (50, .istore_n 3, 1, 0, 0), (51, .iload_n 3, 1, 0, 0), (52, .aload_n 0, 1, 0, 0), (53, .getfield 26, 3, 8, 3), (56, .if_icmp .ge (22), 3, 0, 0), (59, .iload_n 2, 1, 0, 0), (60, .ifCond .le (18), 3, 0, 0), (63, .aload_n 0, 1, 0, 0), (64, .invokevirtual 127, 3, 124, 1), (67, .istore_n 2, 1, 0, 0), (68, .iload_n 1, 1, 0, 0), (69, .iload_n 2, 1, 0, 0), (70, .iadd, 1, 0, 0), (71, .istore_n 1, 1, 0, 0), (72, .iinc 3 (1), 3, 0, 0), (75, .goto (-24), 3, 0, 0), (78, .iload_n 1, 1, 0, 0), (79, .aload_n 0, 1, 0, 0), (80, .getfield 26, 3, 8, 3), (83, .if_icmp .ne (7), 3, 0, 0), (86, .iconst 1, 1, 0, 0), (87, .goto (4), 3, 0, 0), (90, .iconst 0, 1, 0, 0), (91, .ireturn, 1, 0, 0)]
-- 124 PackReader workRound
def vt124 : List (Nat × vI) := [(0, .iconst 0, 1, 0, 0), (1, .istore_n 1, 1, 0, 0), (2, .iconst 0, 1, 0, 0), (3, .istore_n 2, 1, 0, 0), (4, .iload_n 2, 1, 0, 0), (5, .aload_n 0, 1, 0, 0), (6, .getfield 26, 3, 8, 3), (9, .if_icmp .ge (81), 3, 0, 0), (12, .aload_n 0, 1, 0, 0), (13, .getfield 21, 3, 8, 2), (16, .iload_n 2, 1, 0, 0), (17, .aaload, 1, 0, 0), (18, .astore_n 3, 1, 0, 0), (19, .aload_n 3, 1, 0, 0), (20, .getfield 123, 3, 7, 6), (23, .ifCond .eq (7), 3, 0, 0), (26, .aconst_null, 1, 0, 0), (27, .goto (8), 3, 0, 0), (30, .aload_n 0, 1, 0, 0), (31, .aload_n 3, 1, 0, 0), (32, .invokevirtual 130, 3, 125, 2), (35, .astore 4, 2, 0, 0), (37, .aload 4, 2, 0, 0), (39, .ifnull (45), 3, 0, 0), (42, .aload 4, 2, 0, 0), (44, .invokevirtual 134, 3, 99, 1), (47, .aload_n 3, 1, 0, 0), (48, .getfield 94, 3, 7, 0), (51, .aload_n 3, 1, 0, 0), (52, .getfield 140, 3, 7, 1), (55, .invokevirtual 134, 3, 99, 1), (58, .invokestatic 144, 3, 85, 3), (61, .ifCond .eq (23), 3, 0, 0), (64, .aload_n 3, 1, 0, 0), (65, .getfield 140, 3, 7, 1), (68, .aload 4, 2, 0, 0), (70, .invokevirtual 150, 3, 97, 1), (73, .invokevirtual 152, 3, 101, 2), (76, .aload_n 3, 1, 0, 0), (77, .iconst 1, 1, 0, 0), (78, .putfield 123, 3, 7, 6), (81, .iinc 1 (1), 3, 0, 0), (84, .iinc 2 (1), 3, 0, 0), (87, .goto (-83), 3, 0, 0), (90, .iload_n 1, 1, 0, 0), (91, .ireturn, 1, 0, 0)]
-- 125 PackReader baseOf
def vt125 : List (Nat × vI) := [(0, .aload_n 1, 1, 0, 0), (1, .getfield 73, 3, 7, 3), (4, .bipush (6), 2, 0, 0), (6, .if_icmp .ne (29), 3, 0, 0), (9, .aload_n 0, 1, 0, 0), (10, .getfield 21, 3, 8, 2), (13, .aload_n 1, 1, 0, 0), (14, .getfield 88, 3, 7, 5), (17, .aaload, 1, 0, 0), (18, .astore_n 2, 1, 0, 0), (19, .aload_n 2, 1, 0, 0), (20, .getfield 123, 3, 7, 6), (23, .ifCond .eq (10), 3, 0, 0), (26, .aload_n 2, 1, 0, 0), (27, .getfield 140, 3, 7, 1), (30, .goto (4), 3, 0, 0), (33, .aconst_null, 1, 0, 0), (34, .areturn, 1, 0, 0), (35, .iconst 0, 1, 0, 0), (36, .istore_n 2, 1, 0, 0), (37, .iload_n 2, 1, 0, 0), (38, .aload_n 0, 1, 0, 0), (39, .getfield 26, 3, 8, 3), (42, .if_icmp .ge (50), 3, 0, 0), (45, .aload_n 0, 1, 0, 0), (46, .getfield 21, 3, 8, 2), (49, .iload_n 2, 1, 0, 0), (50, .aaload, 1, 0, 0), (51, .getfield 123, 3, 7, 6), (54, .ifCond .eq (32), 3, 0, 0), (57, .aload_n 0, 1, 0, 0), (58, .getfield 21, 3, 8, 2), (61, .iload_n 2, 1, 0, 0), (62, .aaload, 1, 0, 0), (63, .getfield 140, 3, 7, 1), (66, .invokevirtual 155, 3, 98, 1), (69, .aload_n 1, 1, 0, 0), (70, .getfield 88, 3, 7, 5), (73, .if_icmp .ne (13), 3, 0, 0), (76, .aload_n 0, 1, 0, 0), (77, .getfield 21, 3, 8, 2), (80, .iload_n 2, 1, 0, 0), (81, .aaload, 1, 0, 0), (82, .getfield 140, 3, 7, 1), (85, .areturn, 1, 0, 0), (86, .iinc 2 (1), 3, 0, 0), (89, .goto (-52), 3, 0, 0), (92, .aload_n 0, 1, 0, 0), (93, .getfield 15, 3, 8, 1), (96, .aload_n 1, 1, 0, 0), (97, .getfield 88, 3, 7, 5), (100, .invokevirtual 158, 3, 162, 2), (103, .istore_n 2, 1, 0, 0), (104, .iload_n 2, 1, 0, 0), (105, .ifCond .ge (7), 3, 0, 0), (108, .aconst_null, 1, 0, 0), (109, .goto (11), 3, 0, 0), (112, .aload_n 0, 1, 0, 0), (113, .getfield 15, 3, 8, 1), (116, .iload_n 2, 1, 0, 0), (117, .invokevirtual 163, 3, 160, 2), (120, .areturn, 1, 0, 0)]
-- 126 PackReader isSound
def vt126 : List (Nat × vI) := [(0, .iconst 0, 1, 0, 0), (1, .istore_n 1, 1, 0, 0), (2, .iload_n 1, 1, 0, 0), (3, .aload_n 0, 1, 0, 0), (4, .getfield 26, 3, 8, 3), (7, .if_icmp .ge (34), 3, 0, 0), (10, .aload_n 0, 1, 0, 0), (11, .getfield 21, 3, 8, 2), (14, .iload_n 1, 1, 0, 0), (15, .aaload, 1, 0, 0), (16, .getfield 140, 3, 7, 1), (19, .invokevirtual 166, 3, 104, 1), (22, .ifCond .eq (11), 3, 0, 0), (25, .aload_n 0, 1, 0, 0), (26, .iload_n 1, 1, 0, 0), (27, .invokevirtual 169, 3, 127, 2), (30, .ifCond .eq (5), 3, 0, 0), (33, .iconst 0, 1, 0, 0), (34, .ireturn, 1, 0, 0), (35, .iinc 1 (1), 3, 0, 0), (38, .goto (-36), 3, 0, 0), (41, .iconst 1, 1, 0, 0), (42, .ireturn, 1, 0, 0)]
-- 127 PackReader isClashing
def vt127 : List (Nat × vI) := [(0, .aload_n 0, 1, 0, 0), (1, .getfield 21, 3, 8, 2), (4, .iload_n 1, 1, 0, 0), (5, .aaload, 1, 0, 0), (6, .getfield 140, 3, 7, 1), (9, .astore_n 2, 1, 0, 0), (10, .iconst 0, 1, 0, 0), (11, .istore_n 3, 1, 0, 0), (12, .iload_n 3, 1, 0, 0), (13, .iload_n 1, 1, 0, 0), (14, .if_icmp .ge (27), 3, 0, 0), (17, .aload_n 2, 1, 0, 0), (18, .aload_n 0, 1, 0, 0), (19, .getfield 21, 3, 8, 2), (22, .iload_n 3, 1, 0, 0), (23, .aaload, 1, 0, 0), (24, .getfield 140, 3, 7, 1), (27, .invokevirtual 172, 3, 103, 2), (30, .ifCond .eq (5), 3, 0, 0), (33, .iconst 1, 1, 0, 0), (34, .ireturn, 1, 0, 0), (35, .iinc 3 (1), 3, 0, 0), (38, .goto (-26), 3, 0, 0), (41, .aload_n 0, 1, 0, 0), (42, .getfield 15, 3, 8, 1), (45, .aload_n 2, 1, 0, 0), (46, .invokevirtual 155, 3, 98, 1), (49, .invokevirtual 158, 3, 162, 2), (52, .istore_n 3, 1, 0, 0), (53, .iload_n 3, 1, 0, 0), (54, .ifCond .lt (22), 3, 0, 0), (57, .aload_n 2, 1, 0, 0), (58, .aload_n 0, 1, 0, 0), (59, .getfield 15, 3, 8, 1), (62, .iload_n 3, 1, 0, 0), (63, .invokevirtual 163, 3, 160, 2), (66, .invokevirtual 172, 3, 103, 2), (69, .ifCond .eq (7), 3, 0, 0), (72, .iconst 1, 1, 0, 0), (73, .goto (4), 3, 0, 0), (76, .iconst 0, 1, 0, 0), (77, .ireturn, 1, 0, 0)]
-- 128 PackReader newItems
def vt128 : List (Nat × vI) := [(0, .iconst 0, 1, 0, 0), (1, .istore_n 1, 1, 0, 0), (2, .iconst 0, 1, 0, 0), (3, .istore_n 2, 1, 0, 0), (4, .iload_n 2, 1, 0, 0), (5, .aload_n 0, 1, 0, 0), (6, .getfield 26, 3, 8, 3), (9, .if_icmp .ge (25), 3, 0, 0), (12, .iload_n 1, 1, 0, 0), (13, .aload_n 0, 1, 0, 0), (14, .iload_n 2, 1, 0, 0), (15, .invokevirtual 176, 3, 129, 2), (18, .ifCond .eq (7), 3, 0, 0), (21, .iconst 1, 1, 0, 0), (22, .goto (4), 3, 0, 0), (25, .iconst 0, 1, 0, 0), (26, .iadd, 1, 0, 0), (27, .istore_n 1, 1, 0, 0), (28, .iinc 2 (1), 3, 0, 0), (31, .goto (-27), 3, 0, 0), (34, .iload_n 1, 1, 0, 0), (35, .ireturn, 1, 0, 0)]
-- 129 PackReader isNew
def vt129 : List (Nat × vI) := [(0, .aload_n 0, 1, 0, 0), (1, .getfield 21, 3, 8, 2), (4, .iload_n 1, 1, 0, 0), (5, .aaload, 1, 0, 0), (6, .getfield 140, 3, 7, 1), (9, .invokevirtual 155, 3, 98, 1), (12, .istore_n 2, 1, 0, 0), (13, .iconst 0, 1, 0, 0), (14, .istore_n 3, 1, 0, 0), (15, .iload_n 3, 1, 0, 0), (16, .iload_n 1, 1, 0, 0), (17, .if_icmp .ge (27), 3, 0, 0), (20, .aload_n 0, 1, 0, 0), (21, .getfield 21, 3, 8, 2), (24, .iload_n 3, 1, 0, 0), (25, .aaload, 1, 0, 0), (26, .getfield 140, 3, 7, 1), (29, .invokevirtual 155, 3, 98, 1), (32, .iload_n 2, 1, 0, 0), (33, .if_icmp .ne (5), 3, 0, 0), (36, .iconst 0, 1, 0, 0), (37, .ireturn, 1, 0, 0), (38, .iinc 3 (1), 3, 0, 0), (41, .goto (-26), 3, 0, 0), (44, .aload_n 0, 1, 0, 0), (45, .getfield 15, 3, 8, 1), (48, .iload_n 2, 1, 0, 0), (49, .invokevirtual 158, 3, 162, 2), (52, .ifCond .ge (7), 3, 0, 0), (55, .iconst 1, 1, 0, 0), (56, .goto (4), 3, 0, 0), (59, .iconst 0, 1, 0, 0), (60, .ireturn, 1, 0, 0)]
-- 130 PackReader keepNew
def vt130 : List (Nat × vI) := [(0, .aload_n 0, 1, 0, 0), (1, .getfield 15, 3, 8, 1), (4, .invokevirtual 179, 3, 158, 1), (7, .istore_n 1, 1, 0, 0), (8, .iconst 0, 1, 0, 0), (9, .istore_n 2, 1, 0, 0), (10, .iload_n 2, 1, 0, 0), (11, .aload_n 0, 1, 0, 0), (12, .getfield 26, 3, 8, 3), (15, .if_icmp .ge (41), 3, 0, 0), (18, .aload_n 0, 1, 0, 0), (19, .getfield 21, 3, 8, 2), (22, .iload_n 2, 1, 0, 0), (23, .aaload, 1, 0, 0), (24, .getfield 140, 3, 7, 1), (27, .astore_n 3, 1, 0, 0), (28, .aload_n 0, 1, 0, 0), (29, .getfield 15, 3, 8, 1), (32, .aload_n 3, 1, 0, 0), (33, .invokevirtual 155, 3, 98, 1), (36, .invokevirtual 158, 3, 162, 2), (39, .ifCond .ge (11), 3, 0, 0), (42, .aload_n 0, 1, 0, 0), (43, .getfield 15, 3, 8, 1), (46, .aload_n 3, 1, 0, 0), (47, .invokevirtual 182, 3, 163, 2), (50, .iinc 2 (1), 3, 0, 0), (53, .goto (-43), 3, 0, 0), (56, .aload_n 0, 1, 0, 0), (57, .getfield 15, 3, 8, 1), (60, .invokevirtual 179, 3, 158, 1), (63, .iload_n 1, 1, 0, 0), (64, .isub, 1, 0, 0), (65, .ireturn, 1, 0, 0)]
-- 131 PackWriter init
def vt131 : List (Nat × vI) := [(0, .aload_n 0, 1, 0, 0), (1, .invokespecial 3, 3, 1000, 0), (4, .aload_n 0, 1, 0, 0), (5, .aload_n 1, 1, 0, 0), (6, .putfield 9, 3, 6, 0), (9, .aload_n 0, 1, 0, 0), (10, .aload_n 2, 1, 0, 0), (11, .putfield 15, 3, 6, 1), (14, .aload_n 0, 1, 0, 0), (15, .bipush (16), 2, 0, 0), (17, .newarray .int, 2, 0, 0), (19, .putfield 19, 3, 6, 2), (22, .aload_n 0, 1, 0, 0), (23, .bipush (16), 2, 0, 0), (25, .newarray .int, 2, 0, 0), (27, .putfield 23, 3, 6, 3), (30, .aload_n 0, 1, 0, 0), (31, .iconst 0, 1, 0, 0), (32, .putfield 26, 3, 6, 4), (35, .aload_n 0, 1, 0, 0), (36, .new 30, 3, 1, 0), (39, .dup, 1, 0, 0), (40, .bipush (64), 2, 0, 0), (42, .invokespecial 32, 3, 141, 2), (45, .putfield 35, 3, 6, 5), (48, .aload_n 0, 1, 0, 0), (49, .new 30, 3, 1, 0), (52, .dup, 1, 0, 0), (53, .bipush (64), 2, 0, 0), (55, .invokespecial 32, 3, 141, 2), (58, .putfield 38, 3, 6, 6), (61, .aload_n 0, 1, 0, 0), (62, .new 30, 3, 1, 0), (65, .dup, 1, 0, 0), (66, .bipush (64), 2, 0, 0), (68, .invokespecial 32, 3, 141, 2), (71, .putfield 41, 3, 6, 7), (74, .return_, 1, 0, 0)]
-- 132 PackWriter write
def vt132 : List (Nat × vI) := [(0, .aload_n 0, 1, 0, 0), (1, .iconst 0, 1, 0, 0), (2, .putfield 26, 3, 6, 4), (5, .iconst 1, 1, 0, 0), (6, .istore_n 3, 1, 0, 0), (7, .iload_n 3, 1, 0, 0), (8, .iconst 3, 1, 0, 0), (9, .if_icmp .gt (16), 3, 0, 0), (12, .aload_n 0, 1, 0, 0), (13, .iload_n 3, 1, 0, 0), (14, .aload_n 1, 1, 0, 0), (15, .aload_n 2, 1, 0, 0), (16, .invokevirtual 44, 3, 133, 4), (19, .iinc 3 (1), 3, 0, 0), (22, .goto (-15), 3, 0, 0), (25, .aload_n 0, 1, 0, 0), (26, .getfield 15, 3, 6, 1), (29, .invokevirtual 48, 3, 146, 1), (32, .aload_n 0, 1, 0, 0), (33, .getfield 26, 3, 6, 4), (36, .ifCond .ne (5), 3, 0, 0), (39, .iconst 0, 1, 0, 0), (40, .ireturn, 1, 0, 0), (41, .aload_n 0, 1, 0, 0), (42, .getfield 15, 3, 6, 1), (45, .bipush (80), 2, 0, 0), (47, .invokevirtual 51, 3, 147, 2), (50, .aload_n 0, 1, 0, 0), (51, .getfield 15, 3, 6, 1), (54, .iconst 1, 1, 0, 0), (55, .invokevirtual 51, 3, 147, 2), (58, .aload_n 0, 1, 0, 0), (59, .getfield 15, 3, 6, 1), (62, .aload_n 0, 1, 0, 0), (63, .getfield 26, 3, 6, 4), (66, .invokevirtual 51, 3, 147, 2), (69, .iconst 0, 1, 0, 0), (70, .istore_n 3, 1, 0, 0), (71, .iload_n 3, 1, 0, 0), (72, .aload_n 0, 1, 0, 0), (73, .getfield 26, 3, 6, 4), (76, .if_icmp .ge (14), 3, 0, 0), (79, .aload_n 0, 1, 0, 0), (80, .iload_n 3, 1, 0, 0), (81, .invokevirtual 54, 3, 134, 2), (84, .iinc 3 (1), 3, 0, 0), (87, .goto (-16), 3, 0, 0), (90, .aload_n 0, 1, 0, 0), (91, .getfield 15, 3, 6, 1), (94, .aload_n 0, 1, 0, 0), (95, .getfield 15, 3, 6, 1), (98, .bipush (7), 2, 0, 0), (100, .aload_n 0, 1, 0, 0), (101, .getfield 15, 3, 6, 1), (104, .invokevirtual 57, 3, 142, 1), (107, .invokevirtual 61, 3, 154, 3), (110, .invokevirtual 65, 3, 148, 2), (113, .aload_n 0, 1, 0, 0), (114, .getfield 26, 3, 6, 4), (117, .ireturn, 1, 0, 0)]
-- 133 PackWriter pick
def vt133 : List (Nat × vI) := [(0, .iconst 0, 1, 0, 0), (1, .istore 4, 2, 0, 0), (3, .iload 4, 2, 0, 0), (5, .aload_n 0, 1, 0, 0), (6, .getfield 9, 3, 6, 0), (9, .invokevirtual 68, 3, 158, 1), (12, .if_icmp .ge (85), 3, 0, 0), (15, .aload_n 2, 1, 0, 0), (16, .iload 4, 2, 0, 0), (18, .invokevirtual 73, 3, 77, 2), (21, .ifCond .eq (16), 3, 0, 0), (24, .aload_n 3, 1, 0, 0), (25, .iload 4, 2, 0, 0), (27, .invokevirtual 73, 3, 77, 2), (30, .ifCond .ne (7), 3, 0, 0), (33, .iconst 1, 1, 0, 0), (34, .goto (4), 3, 0, 0), (37, .iconst 0, 1, 0, 0), (38, .istore 5, 2, 0, 0), (40, .iload 5, 2, 0, 0), (42, .ifCond .eq (49), 3, 0, 0), (45, .aload_n 0, 1, 0, 0), (46, .getfield 9, 3, 6, 0), (49, .iload 4, 2, 0, 0), (51, .invokevirtual 79, 3, 160, 2), (54, .invokevirtual 83, 3, 97, 1), (57, .iload_n 1, 1, 0, 0), (58, .if_icmp .ne (33), 3, 0, 0), (61, .aload_n 0, 1, 0, 0), (62, .getfield 26, 3, 6, 4), (65, .bipush (16), 2, 0, 0), (67, .if_icmp .ge (24), 3, 0, 0), (70, .aload_n 0, 1, 0, 0), (71, .getfield 19, 3, 6, 2), (74, .aload_n 0, 1, 0, 0), (75, .getfield 26, 3, 6, 4), (78, .iload 4, 2, 0, 0), (80, .iastore, 1, 0, 0), (81, .aload_n 0, 1, 0, 0), (82, .dup, 1, 0, 0), (83, .getfield 26, 3, 6, 4), (86, .iconst 1, 1, 0, 0), (87, .iadd, 1, 0, 0), (88, .putfield 26, 3, 6, 4), (91, .iinc 4 (1), 3, 0, 0), (94, .goto (-91), 3, 0, 0), (97, .return_, 1, 0, 0)]
-- 134 PackWriter writeEntry
def vt134 : List (Nat × vI) := [(0, .aload_n 0, 1, 0, 0), (1, .getfield 9, 3, 6, 0), (4, .aload_n 0, 1, 0, 0), (5, .getfield 19, 3, 6, 2), (8, .iload_n 1, 1, 0, 0), (9, .iaload, 1, 0, 0), (10, .invokevirtual 79, 3, 160, 2), (13, .astore_n 2, 1, 0, 0), (14, .aload_n 0, 1, 0, 0), (15, .getfield 23, 3, 6, 3), (18, .iload_n 1, 1, 0, 0), (19, .aload_n 0, 1, 0, 0), (20, .getfield 15, 3, 6, 1), (23, .invokevirtual 57, 3, 142, 1), (26, .iastore, 1, 0, 0), (27, .aload_n 0, 1, 0, 0), (28, .getfield 41, 3, 6, 7), (31, .invokevirtual 48, 3, 146, 1), (34, .aload_n 2, 1, 0, 0), (35, .invokevirtual 83, 3, 97, 1), (38, .aload_n 2, 1, 0, 0), (39, .invokevirtual 88, 3, 99, 1), (42, .invokevirtual 57, 3, 142, 1), (45, .aload_n 0, 1, 0, 0), (46, .getfield 41, 3, 6, 7), (49, .invokestatic 92, 3, 137, 3), (52, .aload_n 2, 1, 0, 0), (53, .invokevirtual 88, 3, 99, 1), (56, .aload_n 0, 1, 0, 0), (57, .getfield 41, 3, 6, 7), (60, .invokestatic 96, 3, 139, 2), (63, .iload_n 1, 1, 0, 0), (64, .iconst 1, 1, 0, 0), (65, .isub, 1, 0, 0), (66, .istore_n 3, 1, 0, 0), (67, .iload_n 3, 1, 0, 0), (68, .ifCond .lt (60), 3, 0, 0), (71, .aload_n 0, 1, 0, 0), (72, .getfield 9, 3, 6, 0), (75, .aload_n 0, 1, 0, 0), (76, .getfield 19, 3, 6, 2), (79, .iload_n 3, 1, 0, 0), (80, .iaload, 1, 0, 0), (81, .invokevirtual 79, 3, 160, 2), (84, .astore 4, 2, 0, 0), (86, .aload 4, 2, 0, 0), (88, .invokevirtual 83, 3, 97, 1), (91, .aload_n 2, 1, 0, 0), (92, .invokevirtual 83, 3, 97, 1), (95, .if_icmp .ne (27), 3, 0, 0), (98, .aload_n 0, 1, 0, 0), (99, .aload 4, 2, 0, 0), (101, .aload_n 2, 1, 0, 0), (102, .aload_n 0, 1, 0, 0), (103, .getfield 23, 3, 6, 3), (106, .iload_n 1, 1, 0, 0), (107, .iaload, 1, 0, 0), (108, .aload_n 0, 1, 0, 0), (109, .getfield 23, 3, 6, 3), (112, .iload_n 3, 1, 0, 0), (113, .iaload, 1, 0, 0), (114, .isub, 1, 0, 0), (115, .invokevirtual 102, 3, 135, 4), (118, .aload_n 0, 1, 0, 0), (119, .invokevirtual 106, 3, 136, 1), (122, .iinc 3 (-1), 3, 0, 0), (125, .goto (-58), 3, 0, 0), (128, .aload_n 0, 1, 0, 0), (129, .getfield 15, 3, 6, 1), (132, .aload_n 0, 1, 0, 0), (133, .getfield 41, 3, 6, 7), (136, .invokevirtual 109, 3, 150, 2), (139, .return_, 1, 0, 0)]
-- 135 PackWriter writeByBack
def vt135 : List (Nat × vI) := [(0, .aload_n 1, 1, 0, 0), (1, .invokevirtual 88, 3, 99, 1), (4, .aload_n 2, 1, 0, 0), (5, .invokevirtual 88, 3, 99, 1), (8, .aload_n 0, 1, 0, 0), (9, .getfield 35, 3, 6, 5), (12, .invokestatic 113, 3, 82, 3), (15, .aload_n 0, 1, 0, 0), (16, .getfield 38, 3, 6, 6), (19, .invokevirtual 48, 3, 146, 1), (22, .bipush (6), 2, 0, 0), (24, .aload_n 0, 1, 0, 0), (25, .getfield 35, 3, 6, 5), (28, .invokevirtual 57, 3, 142, 1), (31, .aload_n 0, 1, 0, 0), (32, .getfield 38, 3, 6, 6), (35, .invokestatic 92, 3, 137, 3), (38, .aload_n 0, 1, 0, 0), (39, .getfield 38, 3, 6, 6), (42, .iload_n 3, 1, 0, 0), (43, .invokevirtual 65, 3, 148, 2), (46, .aload_n 0, 1, 0, 0), (47, .getfield 35, 3, 6, 5), (50, .aload_n 0, 1, 0, 0), (51, .getfield 38, 3, 6, 6), (54, .invokestatic 96, 3, 139, 2), (57, .return_, 1, 0, 0)]
-- 136 PackWriter keepIfShorter
def vt136 : List (Nat × vI) := [(0, .aload_n 0, 1, 0, 0), (1, .getfield 38, 3, 6, 6), (4, .invokevirtual 57, 3, 142, 1), (7, .aload_n 0, 1, 0, 0), (8, .getfield 41, 3, 6, 7), (11, .invokevirtual 57, 3, 142, 1), (14, .if_icmp .ge (21), 3, 0, 0), (17, .aload_n 0, 1, 0, 0), (18, .getfield 41, 3, 6, 7), (21, .invokevirtual 48, 3, 146, 1), (24, .aload_n 0, 1, 0, 0), (25, .getfield 41, 3, 6, 7), (28, .aload_n 0, 1, 0, 0), (29, .getfield 38, 3, 6, 6), (32, .invokevirtual 109, 3, 150, 2), (35, .return_, 1, 0, 0)]
-- 137 PackWriter writeHead
def vt137 : List (Nat × vI) := [(0, .iload_n 1, 1, 0, 0), (1, .bipush (16), 2, 0, 0), (3, .idiv, 1, 0, 0), (4, .istore_n 3, 1, 0, 0), (5, .bipush (16), 2, 0, 0), (7, .iload_n 0, 1, 0, 0), (8, .imul, 1, 0, 0), (9, .iload_n 1, 1, 0, 0), (10, .bipush (16), 2, 0, 0), (12, .irem, 1, 0, 0), (13, .iadd, 1, 0, 0), (14, .istore 4, 2, 0, 0), (16, .iload_n 3, 1, 0, 0), (17, .ifCond .ne (12), 3, 0, 0), (20, .aload_n 2, 1, 0, 0), (21, .iload 4, 2, 0, 0), (23, .invokevirtual 51, 3, 147, 2), (26, .goto (18), 3, 0, 0), (29, .aload_n 2, 1, 0, 0), (30, .iload 4, 2, 0, 0), (32, .sipush (128), 3, 0, 0), (35, .iadd, 1, 0, 0), (36, .invokevirtual 51, 3, 147, 2), (39, .aload_n 2, 1, 0, 0), (40, .iload_n 3, 1, 0, 0), (41, .invokevirtual 51, 3, 147, 2), (44, .return_, 1, 0, 0)]
-- 138 Packing runLength
def vt138 : List (Nat × vI) := [(0, .iload_n 0, 1, 0, 0), (1, .sipush (128), 3, 0, 0), (4, .if_icmp .ge (9), 3, 0, 0), (7, .iload_n 0, 1, 0, 0), (8, .iconst 1, 1, 0, 0), (9, .iadd, 1, 0, 0), (10, .goto (7), 3, 0, 0), (13, .iload_n 0, 1, 0, 0), (14, .bipush (125), 2, 0, 0), (16, .isub, 1, 0, 0), (17, .ireturn, 1, 0, 0)]
-- 139 Packing pack
def vt139 : List (Nat × vI) := [(0, .iconst 0, 1, 0, 0), (1, .istore_n 3, 1, 0, 0), (2, .iload_n 3, 1, 0, 0), (3, .aload_n 0, 1, 0, 0), (4, .invokevirtual 9, 3, 142, 1), (7, .if_icmp .ge (73), 3, 0, 0), (10, .aload_n 0, 1, 0, 0), (11, .iload_n 3, 1, 0, 0), (12, .invokevirtual 15, 3, 155, 2), (15, .istore 4, 2, 0, 0), (17, .iload 4, 2, 0, 0), (19, .iconst 3, 1, 0, 0), (20, .if_icmp .lt (32), 3, 0, 0), (23, .iload 4, 2, 0, 0), (25, .sipush (130), 3, 0, 0), (28, .invokestatic 19, 3, 1002, 0), (31, .istore_n 2, 1, 0, 0), (32, .aload_n 1, 1, 0, 0), (33, .iload_n 2, 1, 0, 0), (34, .bipush (125), 2, 0, 0), (36, .iadd, 1, 0, 0), (37, .invokevirtual 25, 3, 147, 2), (40, .aload_n 1, 1, 0, 0), (41, .aload_n 0, 1, 0, 0), (42, .iload_n 3, 1, 0, 0), (43, .invokevirtual 29, 3, 144, 2), (46, .invokevirtual 25, 3, 147, 2), (49, .goto (24), 3, 0, 0), (52, .aload_n 0, 1, 0, 0), (53, .iload_n 3, 1, 0, 0), (54, .invokestatic 32, 3, 140, 2), (57, .istore_n 2, 1, 0, 0), (58, .aload_n 1, 1, 0, 0), (59, .iload_n 2, 1, 0, 0), (60, .iconst 1, 1, 0, 0), (61, .isub, 1, 0, 0), (62, .invokevirtual 25, 3, 147, 2), (65, .aload_n 1, 1, 0, 0), (66, .aload_n 0, 1, 0, 0), (67, .iload_n 3, 1, 0, 0), (68, .iload_n 2, 1, 0, 0), (69, .invokevirtual 36, 3, 149, 4), (72, .pop, 1, 0, 0), (73, .iload_n 3, 1, 0, 0), (74, .iload_n 2, 1, 0, 0), (75, .iadd, 1, 0, 0), (76, .istore_n 3, 1, 0, 0), (77, .goto (-75), 3, 0, 0), (80, .return_, 1, 0, 0)]
-- 140 Packing plainLength
def vt140 : List (Nat × vI) := [(0, .iload_n 1, 1, 0, 0), (1, .iconst 1, 1, 0, 0), (2, .iadd, 1, 0, 0), (3, .istore_n 2, 1, 0, 0), (4, .iload_n 2, 1, 0, 0), (5, .aload_n 0, 1, 0, 0), (6, .invokevirtual 9, 3, 142, 1), (9, .if_icmp .ge (27), 3, 0, 0), (12, .iload_n 2, 1, 0, 0), (13, .iload_n 1, 1, 0, 0), (14, .isub, 1, 0, 0), (15, .sipush (128), 3, 0, 0), (18, .if_icmp .ge (18), 3, 0, 0), (21, .aload_n 0, 1, 0, 0), (22, .iload_n 2, 1, 0, 0), (23, .invokevirtual 15, 3, 155, 2), (26, .iconst 3, 1, 0, 0), (27, .if_icmp .ge (9), 3, 0, 0), (30, .iinc 2 (1), 3, 0, 0), (33, .goto (-29), 3, 0, 0), (36, .iload_n 2, 1, 0, 0), (37, .iload_n 1, 1, 0, 0), (38, .isub, 1, 0, 0), (39, .ireturn, 1, 0, 0)]
-- 141 Row init
def vt141 : List (Nat × vI) := [(0, .aload_n 0, 1, 0, 0), (1, .invokespecial 1, 3, 1000, 0), (4, .aload_n 0, 1, 0, 0), (5, .iload_n 1, 1, 0, 0), (6, .newarray .int, 2, 0, 0), (8, .putfield 7, 3, 1, 0), (11, .aload_n 0, 1, 0, 0), (12, .iconst 0, 1, 0, 0), (13, .putfield 13, 3, 1, 1), (16, .return_, 1, 0, 0)]
-- 142 Row used
def vt142 : List (Nat × vI) := [(0, .aload_n 0, 1, 0, 0), (1, .getfield 13, 3, 1, 1), (4, .ireturn, 1, 0, 0)]
-- 143 Row left
def vt143 : List (Nat × vI) := [(0, .aload_n 0, 1, 0, 0), (1, .getfield 7, 3, 1, 0), (4, .arraylength, 1, 0, 0), (5, .aload_n 0, 1, 0, 0), (6, .getfield 13, 3, 1, 1), (9, .isub, 1, 0, 0), (10, .ireturn, 1, 0, 0)]
-- 144 Row get
def vt144 : List (Nat × vI) := [(0, .iload_n 1, 1, 0, 0), (1, .ifCond .lt (11), 3, 0, 0), (4, .iload_n 1, 1, 0, 0), (5, .aload_n 0, 1, 0, 0), (6, .getfield 13, 3, 1, 1), (9, .if_icmp .lt (7), 3, 0, 0), (12, .iconst (-1), 1, 0, 0), (13, .goto (9), 3, 0, 0), (16, .aload_n 0, 1, 0, 0), (17, .getfield 7, 3, 1, 0), (20, .iload_n 1, 1, 0, 0), (21, .iaload, 1, 0, 0), (22, .ireturn, 1, 0, 0)]
-- 145 Row getTwo
def vt145 : List (Nat × vI) := [(0, .aload_n 0, 1, 0, 0), (1, .iload_n 1, 1, 0, 0), (2, .invokevirtual 17, 3, 144, 2), (5, .sipush (256), 3, 0, 0), (8, .imul, 1, 0, 0), (9, .aload_n 0, 1, 0, 0), (10, .iload_n 1, 1, 0, 0), (11, .iconst 1, 1, 0, 0), (12, .iadd, 1, 0, 0), (13, .invokevirtual 17, 3, 144, 2), (16, .iadd, 1, 0, 0), (17, .ireturn, 1, 0, 0)]
-- 146 Row clear
def vt146 : List (Nat × vI) := [(0, .aload_n 0, 1, 0, 0), (1, .iconst 0, 1, 0, 0), (2, .putfield 13, 3, 1, 1), (5, .return_, 1, 0, 0)]
-- 147 Row add
def vt147 : List (Nat × vI) := [(0, .aload_n 0, 1, 0, 0), (1, .getfield 13, 3, 1, 1), (4, .aload_n 0, 1, 0, 0), (5, .getfield 7, 3, 1, 0), (8, .arraylength, 1, 0, 0), (9, .if_icmp .ge (23), 3, 0, 0), (12, .aload_n 0, 1, 0, 0), (13, .getfield 7, 3, 1, 0), (16, .aload_n 0, 1, 0, 0), (17, .getfield 13, 3, 1, 1), (20, .iload_n 1, 1, 0, 0), (21, .iastore, 1, 0, 0), (22, .aload_n 0, 1, 0, 0), (23, .dup, 1, 0, 0), (24, .getfield 13, 3, 1, 1), (27, .iconst 1, 1, 0, 0), (28, .iadd, 1, 0, 0), (29, .putfield 13, 3, 1, 1), (32, .return_, 1, 0, 0)]
-- 148 Row addTwo
def vt148 : List (Nat × vI) := [(0, .aload_n 0, 1, 0, 0), (1, .iload_n 1, 1, 0, 0), (2, .sipush (256), 3, 0, 0), (5, .idiv, 1, 0, 0), (6, .invokevirtual 21, 3, 147, 2), (9, .aload_n 0, 1, 0, 0), (10, .iload_n 1, 1, 0, 0), (11, .sipush (256), 3, 0, 0), (14, .irem, 1, 0, 0), (15, .invokevirtual 21, 3, 147, 2), (18, .return_, 1, 0, 0)]
-- 149 Row addPart
def vt149 : List (Nat × vI) := [(0, .iload_n 2, 1, 0, 0), (1, .ifCond .lt (31), 3, 0, 0), (4, .iload_n 3, 1, 0, 0), (5, .ifCond .lt (27), 3, 0, 0), (8, .iload_n 2, 1, 0, 0), (9, .aload_n 1, 1, 0, 0), (10, .getfield 13, 3, 1, 1), (13, .iload_n 3, 1, 0, 0), (14, .isub, 1, 0, 0), (15, .if_icmp .gt (17), 3, 0, 0), (18, .iload_n 3, 1, 0, 0), (19, .aload_n 0, 1, 0, 0), (20, .getfield 7, 3, 1, 0), (23, .arraylength, 1, 0, 0), (24, .aload_n 0, 1, 0, 0), (25, .getfield 13, 3, 1, 1), (28, .isub, 1, 0, 0), (29, .if_icmp .le (5), 3, 0, 0), (32, .iconst 0, 1, 0, 0), (33, .ireturn, 1, 0, 0), (34, .aload_n 1, 1, 0, 0), (35, .getfield 7, 3, 1, 0), (38, .iload_n 2, 1, 0, 0), (39, .aload_n 0, 1, 0, 0), (40, .getfield 7, 3, 1, 0), (43, .aload_n 0, 1, 0, 0), (44, .getfield 13, 3, 1, 1), (47, .iload_n 3, 1, 0, 0), (48, .invokestatic 25, 3, 1001, 0), (51, .aload_n 0, 1, 0, 0), (52, .dup, 1, 0, 0), (53, .getfield 13, 3, 1, 1), (56, .iload_n 3, 1, 0, 0), (57, .iadd, 1, 0, 0), (58, .putfield 13, 3, 1, 1), (61, .iconst 1, 1, 0, 0), (62, .ireturn, 1, 0, 0)]
-- 150 Row addAll
def vt150 : List (Nat × vI) := [(0, .aload_n 0, 1, 0, 0), (1, .aload_n 1, 1, 0, 0), (2, .iconst 0, 1, 0, 0), (3, .aload_n 1, 1, 0, 0), (4, .getfield 13, 3, 1, 1), (7, .invokevirtual 31, 3, 149, 4), (10, .pop, 1, 0, 0), (11, .return_, 1, 0, 0)]
-- 151 Row replace
def vt151 : List (Nat × vI) := [(0, .iload_n 1, 1, 0, 0), (1, .ifCond .lt (11), 3, 0, 0), (4, .iload_n 1, 1, 0, 0), (5, .aload_n 0, 1, 0, 0), (6, .getfield 13, 3, 1, 1), (9, .if_icmp .lt (5), 3, 0, 0), (12, .iconst 0, 1, 0, 0), (13, .ireturn, 1, 0, 0), (14, .aload_n 0, 1, 0, 0), (15, .getfield 7, 3, 1, 0), (18, .iload_n 1, 1, 0, 0), (19, .iload_n 2, 1, 0, 0), (20, .iastore, 1, 0, 0), (21, .iconst 1, 1, 0, 0), (22, .ireturn, 1, 0, 0)]
-- 152 Row shorten
def vt152 : List (Nat × vI) := [(0, .iload_n 1, 1, 0, 0), (1, .ifCond .lt (11), 3, 0, 0), (4, .iload_n 1, 1, 0, 0), (5, .aload_n 0, 1, 0, 0), (6, .getfield 13, 3, 1, 1), (9, .if_icmp .le (5), 3, 0, 0), (12, .iconst 0, 1, 0, 0), (13, .ireturn, 1, 0, 0), (14, .aload_n 0, 1, 0, 0), (15, .iload_n 1, 1, 0, 0), (16, .putfield 13, 3, 1, 1), (19, .iconst 1, 1, 0, 0), (20, .ireturn, 1, 0, 0)]
-- 153 Row isSame
def vt153 : List (Nat × vI) := [(0, .aload_n 0, 1, 0, 0), (1, .getfield 13, 3, 1, 1), (4, .aload_n 1, 1, 0, 0), (5, .getfield 13, 3, 1, 1), (8, .if_icmp .eq (5), 3, 0, 0), (11, .iconst 0, 1, 0, 0), (12, .ireturn, 1, 0, 0), (13, .iconst 0, 1, 0, 0), (14, .istore_n 2, 1, 0, 0), (15, .iload_n 2, 1, 0, 0), (16, .aload_n 0, 1, 0, 0), (17, .getfield 13, 3, 1, 1), (20, .if_icmp .ge (26), 3, 0, 0), (23, .aload_n 0, 1, 0, 0), (24, .getfield 7, 3, 1, 0), (27, .iload_n 2, 1, 0, 0), (28, .iaload, 1, 0, 0), (29, .aload_n 1, 1, 0, 0), (30, .getfield 7, 3, 1, 0), (33, .iload_n 2, 1, 0, 0), (34, .iaload, 1, 0, 0), (35, .if_icmp .eq (5), 3, 0, 0), (38, .iconst 0, 1, 0, 0), (39, .ireturn, 1, 0, 0), (40, .iinc 2 (1), 3, 0, 0), (43, .goto (-28), 3, 0, 0), (46, .iconst 1, 1, 0, 0), (47, .ireturn, 1, 0, 0)]
-- 154 Row hashOn
def vt154 : List (Nat × vI) := [(0, .iload_n 1, 1, 0, 0), (1, .istore_n 3, 1, 0, 0), (2, .iconst 0, 1, 0, 0), (3, .istore 4, 2, 0, 0), (5, .iload 4, 2, 0, 0), (7, .iload_n 2, 1, 0, 0), (8, .if_icmp .ge (30), 3, 0, 0), (11, .iload 4, 2, 0, 0), (13, .aload_n 0, 1, 0, 0), (14, .getfield 13, 3, 1, 1), (17, .if_icmp .ge (21), 3, 0, 0), (20, .iload_n 3, 1, 0, 0), (21, .aload_n 0, 1, 0, 0), (22, .getfield 7, 3, 1, 0), (25, .iload 4, 2, 0, 0), (27, .iaload, 1, 0, 0), (28, .invokestatic 35, 3, 22, 2), (31, .istore_n 3, 1, 0, 0), (32, .iinc 4 (1), 3, 0, 0), (35, .goto (-30), 3, 0, 0), (38, .iload_n 3, 1, 0, 0), (39, .ireturn, 1, 0, 0)]
-- 155 Row sameFrom
def vt155 : List (Nat × vI) := [(0, .iload_n 1, 1, 0, 0), (1, .istore_n 2, 1, 0, 0), (2, .iload_n 2, 1, 0, 0), (3, .aload_n 0, 1, 0, 0), (4, .getfield 13, 3, 1, 1), (7, .if_icmp .ge (24), 3, 0, 0), (10, .aload_n 0, 1, 0, 0), (11, .getfield 7, 3, 1, 0), (14, .iload_n 2, 1, 0, 0), (15, .iaload, 1, 0, 0), (16, .aload_n 0, 1, 0, 0), (17, .getfield 7, 3, 1, 0), (20, .iload_n 1, 1, 0, 0), (21, .iaload, 1, 0, 0), (22, .if_icmp .ne (9), 3, 0, 0), (25, .iinc 2 (1), 3, 0, 0), (28, .goto (-26), 3, 0, 0), (31, .iload_n 2, 1, 0, 0), (32, .iload_n 1, 1, 0, 0), (33, .isub, 1, 0, 0), (34, .ireturn, 1, 0, 0)]
-- 156 Row commonFrom
def vt156 : List (Nat × vI) := [(0, .aload_n 0, 1, 0, 0), (1, .getfield 13, 3, 1, 1), (4, .iload_n 1, 1, 0, 0), (5, .isub, 1, 0, 0), (6, .aload_n 2, 1, 0, 0), (7, .getfield 13, 3, 1, 1), (10, .iload_n 3, 1, 0, 0), (11, .isub, 1, 0, 0), (12, .invokestatic 41, 3, 1002, 0), (15, .istore 4, 2, 0, 0), (17, .iconst 0, 1, 0, 0), (18, .istore 5, 2, 0, 0), (20, .iload 5, 2, 0, 0), (22, .iload 4, 2, 0, 0), (24, .if_icmp .ge (30), 3, 0, 0), (27, .aload_n 0, 1, 0, 0), (28, .getfield 7, 3, 1, 0), (31, .iload_n 1, 1, 0, 0), (32, .iload 5, 2, 0, 0), (34, .iadd, 1, 0, 0), (35, .iaload, 1, 0, 0), (36, .aload_n 2, 1, 0, 0), (37, .getfield 7, 3, 1, 0), (40, .iload_n 3, 1, 0, 0), (41, .iload 5, 2, 0, 0), (43, .iadd, 1, 0, 0), (44, .iaload, 1, 0, 0), (45, .if_icmp .ne (9), 3, 0, 0), (48, .iinc 5 (1), 3, 0, 0), (51, .goto (-31), 3, 0, 0), (54, .iload 5, 2, 0, 0), (56, .ireturn, 1, 0, 0)]
-- 157 Shelf init
def vt157 : List (Nat × vI) := [(0, .aload_n 0, 1, 0, 0), (1, .invokespecial 1, 3, 1000, 0), (4, .aload_n 0, 1, 0, 0), (5, .iload_n 1, 1, 0, 0), (6, .anewarray 7, 3, 102, 0), (9, .putfield 9, 3, 4, 0), (12, .iconst 0, 1, 0, 0), (13, .istore_n 2, 1, 0, 0), (14, .iload_n 2, 1, 0, 0), (15, .iload_n 1, 1, 0, 0), (16, .if_icmp .ge (22), 3, 0, 0), (19, .aload_n 0, 1, 0, 0), (20, .getfield 9, 3, 4, 0), (23, .iload_n 2, 1, 0, 0), (24, .new 7, 3, 3, 0), (27, .dup, 1, 0, 0), (28, .invokespecial 15, 3, 96, 1), (31, .aastore, 1, 0, 0), (32, .iinc 2 (1), 3, 0, 0), (35, .goto (-21), 3, 0, 0), (38, .aload_n 0, 1, 0, 0), (39, .iconst 0, 1, 0, 0), (40, .putfield 16, 3, 4, 1), (43, .return_, 1, 0, 0)]
-- 158 Shelf held
def vt158 : List (Nat × vI) := [(0, .aload_n 0, 1, 0, 0), (1, .getfield 16, 3, 4, 1), (4, .ireturn, 1, 0, 0)]
-- 159 Shelf left
def vt159 : List (Nat × vI) := [(0, .aload_n 0, 1, 0, 0), (1, .getfield 9, 3, 4, 0), (4, .arraylength, 1, 0, 0), (5, .aload_n 0, 1, 0, 0), (6, .getfield 16, 3, 4, 1), (9, .isub, 1, 0, 0), (10, .ireturn, 1, 0, 0)]
-- 160 Shelf get
def vt160 : List (Nat × vI) := [(0, .aload_n 0, 1, 0, 0), (1, .getfield 9, 3, 4, 0), (4, .iload_n 1, 1, 0, 0), (5, .aaload, 1, 0, 0), (6, .areturn, 1, 0, 0)]
-- 161 Shelf clear
def vt161 : List (Nat × vI) := [(0, .aload_n 0, 1, 0, 0), (1, .iconst 0, 1, 0, 0), (2, .putfield 16, 3, 4, 1), (5, .return_, 1, 0, 0)]
-- 162 Shelf find
def vt162 : List (Nat × vI) := [(0, .iconst 0, 1, 0, 0), (1, .istore_n 2, 1, 0, 0), (2, .iload_n 2, 1, 0, 0), (3, .aload_n 0, 1, 0, 0), (4, .getfield 16, 3, 4, 1), (7, .if_icmp .ge (24), 3, 0, 0), (10, .aload_n 0, 1, 0, 0), (11, .getfield 9, 3, 4, 0), (14, .iload_n 2, 1, 0, 0), (15, .aaload, 1, 0, 0), (16, .invokevirtual 20, 3, 98, 1), (19, .iload_n 1, 1, 0, 0), (20, .if_icmp .ne (5), 3, 0, 0), (23, .iload_n 2, 1, 0, 0), (24, .ireturn, 1, 0, 0), (25, .iinc 2 (1), 3, 0, 0), (28, .goto (-26), 3, 0, 0), (31, .iconst (-1), 1, 0, 0), (32, .ireturn, 1, 0, 0)]
-- 163 Shelf keep
def vt163 : List (Nat × vI) := [(0, .aload_n 0, 1, 0, 0), (1, .getfield 16, 3, 4, 1), (4, .aload_n 0, 1, 0, 0), (5, .getfield 9, 3, 4, 0), (8, .arraylength, 1, 0, 0), (9, .if_icmp .ge (33), 3, 0, 0), (12, .aload_n 0, 1, 0, 0), (13, .getfield 9, 3, 4, 0), (16, .aload_n 0, 1, 0, 0), (17, .getfield 16, 3, 4, 1), (20, .aaload, 1, 0, 0), (21, .aload_n 1, 1, 0, 0), (22, .invokevirtual 24, 3, 97, 1), (25, .aload_n 1, 1, 0, 0), (26, .invokevirtual 27, 3, 99, 1), (29, .invokevirtual 31, 3, 100, 3), (32, .aload_n 0, 1, 0, 0), (33, .dup, 1, 0, 0), (34, .getfield 16, 3, 4, 1), (37, .iconst 1, 1, 0, 0), (38, .iadd, 1, 0, 0), (39, .putfield 16, 3, 4, 1), (42, .return_, 1, 0, 0)]
-- 164 Shelf findNamed
def vt164 : List (Nat × vI) := [(0, .aload_n 0, 1, 0, 0), (1, .aload_n 1, 1, 0, 0), (2, .iload_n 2, 1, 0, 0), (3, .invokevirtual 35, 3, 107, 2), (6, .invokevirtual 39, 3, 162, 2), (9, .istore_n 3, 1, 0, 0), (10, .iload_n 3, 1, 0, 0), (11, .ifCond .lt (24), 3, 0, 0), (14, .aload_n 1, 1, 0, 0), (15, .iload_n 2, 1, 0, 0), (16, .aload_n 0, 1, 0, 0), (17, .getfield 9, 3, 4, 0), (20, .iload_n 3, 1, 0, 0), (21, .aaload, 1, 0, 0), (22, .invokevirtual 24, 3, 97, 1), (25, .invokevirtual 42, 3, 108, 3), (28, .ifCond .eq (7), 3, 0, 0), (31, .iload_n 3, 1, 0, 0), (32, .goto (4), 3, 0, 0), (35, .iconst (-1), 1, 0, 0), (36, .ireturn, 1, 0, 0)]
-- 165 Shelf holdsAllNamed
def vt165 : List (Nat × vI) := [(0, .iconst 0, 1, 0, 0), (1, .istore_n 2, 1, 0, 0), (2, .iload_n 2, 1, 0, 0), (3, .aload_n 1, 1, 0, 0), (4, .invokevirtual 46, 3, 106, 1), (7, .if_icmp .ge (20), 3, 0, 0), (10, .aload_n 0, 1, 0, 0), (11, .aload_n 1, 1, 0, 0), (12, .iload_n 2, 1, 0, 0), (13, .invokevirtual 49, 3, 164, 3), (16, .ifCond .ge (5), 3, 0, 0), (19, .iconst 0, 1, 0, 0), (20, .ireturn, 1, 0, 0), (21, .iinc 2 (1), 3, 0, 0), (24, .goto (-22), 3, 0, 0), (27, .iconst 1, 1, 0, 0), (28, .ireturn, 1, 0, 0)]
-- 166 PackStoreLaw law
def vt166 : List (Nat × vI) := [(0, .new 7, 3, 0, 0), (3, .dup, 1, 0, 0), (4, .invokespecial 9, 3, 0, 1), (7, .astore_n 1, 1, 0, 0), (8, .new 10, 3, 9, 0), (11, .dup, 1, 0, 0), (12, .invokespecial 12, 3, 23, 1), (15, .astore_n 2, 1, 0, 0), (16, .iconst 0, 1, 0, 0), (17, .istore_n 3, 1, 0, 0), (18, .iload_n 3, 1, 0, 0), (19, .aload_n 0, 1, 0, 0), (20, .arraylength, 1, 0, 0), (21, .iconst 4, 1, 0, 0), (22, .isub, 1, 0, 0), (23, .if_icmp .gt (557), 3, 0, 0), (26, .aload_n 0, 1, 0, 0), (27, .iload_n 3, 1, 0, 0), (28, .iaload, 1, 0, 0), (29, .bipush (31), 2, 0, 0), (31, .iand, 1, 0, 0), (32, .tableswitch (542) (0) (17) #[88, 121, 154, 177, 190, 213, 236, 269, 292, 315, 338, 351, 364, 377, 410, 443, 486, 519], 88, 0, 0), (120, .aload_n 1, 1, 0, 0), (121, .aload_n 0, 1, 0, 0), (122, .iload_n 3, 1, 0, 0), (123, .iconst 1, 1, 0, 0), (124, .iadd, 1, 0, 0), (125, .iaload, 1, 0, 0), (126, .aload_n 0, 1, 0, 0), (127, .iload_n 3, 1, 0, 0), (128, .iconst 2, 1, 0, 0), (129, .iadd, 1, 0, 0), (130, .iaload, 1, 0, 0), (131, .invokevirtual 13, 3, 1, 3), (134, .aload_n 2, 1, 0, 0), (135, .aload_n 0, 1, 0, 0), (136, .iload_n 3, 1, 0, 0), (137, .iconst 1, 1, 0, 0), (138, .iadd, 1, 0, 0), (139, .iaload, 1, 0, 0), (140, .aload_n 0, 1, 0, 0), (141, .iload_n 3, 1, 0, 0), (142, .iconst 2, 1, 0, 0), (143, .iadd, 1, 0, 0), (144, .iaload, 1, 0, 0), (145, .invokevirtual 17, 3, 26, 3), (148, .if_icmp .eq (426), 3, 0, 0), (151, .iconst 0, 1, 0, 0), (152, .ireturn, 1, 0, 0), (153, .aload_n 1, 1, 0, 0), (154, .aload_n 0, 1, 0, 0), (155, .iload_n 3, 1, 0, 0), (156, .iconst 1, 1, 0, 0), (157, .iadd, 1, 0, 0), (158, .iaload, 1, 0, 0), (159, .aload_n 0, 1, 0, 0), (160, .iload_n 3, 1, 0, 0), (161, .iconst 2, 1, 0, 0), (162, .iadd, 1, 0, 0), (163, .iaload, 1, 0, 0), (164, .invokevirtual 18, 3, 2, 3), (167, .aload_n 2, 1, 0, 0), (168, .aload_n 0, 1, 0, 0), (169, .iload_n 3, 1, 0, 0), (170, .iconst 1, 1, 0, 0), (171, .iadd, 1, 0, 0), (172, .iaload, 1, 0, 0), (173, .aload_n 0, 1, 0, 0), (174, .iload_n 3, 1, 0, 0), (175, .iconst 2, 1, 0, 0), (176, .iadd, 1, 0, 0), (177, .iaload, 1, 0, 0), (178, .invokevirtual 21, 3, 27, 3), (181, .if_icmp .eq (393), 3, 0, 0), (184, .iconst 0, 1, 0, 0), (185, .ireturn, 1, 0, 0), (186, .aload_n 1, 1, 0, 0), (187, .aload_n 0, 1, 0, 0), (188, .iload_n 3, 1, 0, 0), (189, .iconst 1, 1, 0, 0), (190, .iadd, 1, 0, 0), (191, .iaload, 1, 0, 0), (192, .invokevirtual 22, 3, 3, 2), (195, .aload_n 2, 1, 0, 0), (196, .aload_n 0, 1, 0, 0), (197, .iload_n 3, 1, 0, 0), (198, .iconst 1, 1, 0, 0), (199, .iadd, 1, 0, 0), (200, .iaload, 1, 0, 0), (201, .invokevirtual 26, 3, 28, 2), (204, .if_icmp .eq (370), 3, 0, 0), (207, .iconst 0, 1, 0, 0), (208, .ireturn, 1, 0, 0), (209, .aload_n 1, 1, 0, 0), (210, .invokevirtual 27, 3, 4, 1), (213, .aload_n 2, 1, 0, 0), (214, .invokevirtual 31, 3, 29, 1), (217, .if_icmp .eq (357), 3, 0, 0), (220, .iconst 0, 1, 0, 0), (221, .ireturn, 1, 0, 0), (222, .aload_n 1, 1, 0, 0), (223, .aload_n 0, 1, 0, 0), (224, .iload_n 3, 1, 0, 0), (225, .iconst 1, 1, 0, 0), (226, .iadd, 1, 0, 0), (227, .iaload, 1, 0, 0), (228, .invokevirtual 32, 3, 5, 2), (231, .aload_n 2, 1, 0, 0), (232, .aload_n 0, 1, 0, 0), (233, .iload_n 3, 1, 0, 0), (234, .iconst 1, 1, 0, 0), (235, .iadd, 1, 0, 0), (236, .iaload, 1, 0, 0), (237, .invokevirtual 36, 3, 30, 2), (240, .if_icmp .eq (334), 3, 0, 0), (243, .iconst 0, 1, 0, 0), (244, .ireturn, 1, 0, 0), (245, .aload_n 1, 1, 0, 0), (246, .aload_n 0, 1, 0, 0), (247, .iload_n 3, 1, 0, 0), (248, .iconst 1, 1, 0, 0), (249, .iadd, 1, 0, 0), (250, .iaload, 1, 0, 0), (251, .invokevirtual 37, 3, 6, 2), (254, .aload_n 2, 1, 0, 0), (255, .aload_n 0, 1, 0, 0), (256, .iload_n 3, 1, 0, 0), (257, .iconst 1, 1, 0, 0), (258, .iadd, 1, 0, 0), (259, .iaload, 1, 0, 0), (260, .invokevirtual 40, 3, 40, 2), (263, .if_icmp .eq (311), 3, 0, 0), (266, .iconst 0, 1, 0, 0), (267, .ireturn, 1, 0, 0), (268, .aload_n 1, 1, 0, 0), (269, .aload_n 0, 1, 0, 0), (270, .iload_n 3, 1, 0, 0), (271, .iconst 1, 1, 0, 0), (272, .iadd, 1, 0, 0), (273, .iaload, 1, 0, 0), (274, .aload_n 0, 1, 0, 0), (275, .iload_n 3, 1, 0, 0), (276, .iconst 2, 1, 0, 0), (277, .iadd, 1, 0, 0), (278, .iaload, 1, 0, 0), (279, .invokevirtual 41, 3, 7, 3), (282, .aload_n 2, 1, 0, 0), (283, .aload_n 0, 1, 0, 0), (284, .iload_n 3, 1, 0, 0), (285, .iconst 1, 1, 0, 0), (286, .iadd, 1, 0, 0), (287, .iaload, 1, 0, 0), (288, .aload_n 0, 1, 0, 0), (289, .iload_n 3, 1, 0, 0), (290, .iconst 2, 1, 0, 0), (291, .iadd, 1, 0, 0), (292, .iaload, 1, 0, 0), (293, .invokevirtual 44, 3, 42, 3), (296, .if_icmp .eq (278), 3, 0, 0), (299, .iconst 0, 1, 0, 0), (300, .ireturn, 1, 0, 0), (301, .aload_n 1, 1, 0, 0), (302, .aload_n 0, 1, 0, 0), (303, .iload_n 3, 1, 0, 0), (304, .iconst 1, 1, 0, 0), (305, .iadd, 1, 0, 0), (306, .iaload, 1, 0, 0), (307, .invokevirtual 45, 3, 8, 2), (310, .aload_n 2, 1, 0, 0), (311, .aload_n 0, 1, 0, 0), (312, .iload_n 3, 1, 0, 0), (313, .iconst 1, 1, 0, 0), (314, .iadd, 1, 0, 0), (315, .iaload, 1, 0, 0), (316, .invokevirtual 48, 3, 43, 2), (319, .if_icmp .eq (255), 3, 0, 0), (322, .iconst 0, 1, 0, 0), (323, .ireturn, 1, 0, 0), (324, .aload_n 1, 1, 0, 0), (325, .aload_n 0, 1, 0, 0), (326, .iload_n 3, 1, 0, 0), (327, .iconst 1, 1, 0, 0), (328, .iadd, 1, 0, 0), (329, .iaload, 1, 0, 0), (330, .invokevirtual 49, 3, 9, 2), (333, .aload_n 2, 1, 0, 0), (334, .aload_n 0, 1, 0, 0), (335, .iload_n 3, 1, 0, 0), (336, .iconst 1, 1, 0, 0), (337, .iadd, 1, 0, 0), (338, .iaload, 1, 0, 0), (339, .invokevirtual 52, 3, 44, 2), (342, .if_icmp .eq (232), 3, 0, 0), (345, .iconst 0, 1, 0, 0), (346, .ireturn, 1, 0, 0), (347, .aload_n 1, 1, 0, 0), (348, .aload_n 0, 1, 0, 0), (349, .iload_n 3, 1, 0, 0), (350, .iconst 1, 1, 0, 0), (351, .iadd, 1, 0, 0), (352, .iaload, 1, 0, 0), (353, .invokevirtual 53, 3, 10, 2), (356, .aload_n 2, 1, 0, 0), (357, .aload_n 0, 1, 0, 0), (358, .iload_n 3, 1, 0, 0), (359, .iconst 1, 1, 0, 0), (360, .iadd, 1, 0, 0), (361, .iaload, 1, 0, 0), (362, .invokevirtual 56, 3, 45, 2), (365, .if_icmp .eq (209), 3, 0, 0), (368, .iconst 0, 1, 0, 0), (369, .ireturn, 1, 0, 0), (370, .aload_n 1, 1, 0, 0), (371, .invokevirtual 57, 3, 11, 1), (374, .aload_n 2, 1, 0, 0), (375, .invokevirtual 60, 3, 55, 1), (378, .if_icmp .eq (196), 3, 0, 0), (381, .iconst 0, 1, 0, 0), (382, .ireturn, 1, 0, 0), (383, .aload_n 1, 1, 0, 0), (384, .invokevirtual 61, 3, 12, 1), (387, .aload_n 2, 1, 0, 0), (388, .invokevirtual 64, 3, 67, 1), (391, .if_icmp .eq (183), 3, 0, 0), (394, .iconst 0, 1, 0, 0), (395, .ireturn, 1, 0, 0), (396, .aload_n 1, 1, 0, 0), (397, .invokevirtual 65, 3, 13, 1), (400, .aload_n 2, 1, 0, 0), (401, .invokevirtual 68, 3, 68, 1), (404, .if_icmp .eq (170), 3, 0, 0), (407, .iconst 0, 1, 0, 0), (408, .ireturn, 1, 0, 0), (409, .aload_n 1, 1, 0, 0), (410, .aload_n 0, 1, 0, 0), (411, .iload_n 3, 1, 0, 0), (412, .iconst 1, 1, 0, 0), (413, .iadd, 1, 0, 0), (414, .iaload, 1, 0, 0), (415, .aload_n 0, 1, 0, 0), (416, .iload_n 3, 1, 0, 0), (417, .iconst 2, 1, 0, 0), (418, .iadd, 1, 0, 0), (419, .iaload, 1, 0, 0), (420, .invokevirtual 69, 3, 14, 3), (423, .aload_n 2, 1, 0, 0), (424, .aload_n 0, 1, 0, 0), (425, .iload_n 3, 1, 0, 0), (426, .iconst 1, 1, 0, 0), (427, .iadd, 1, 0, 0), (428, .iaload, 1, 0, 0), (429, .aload_n 0, 1, 0, 0), (430, .iload_n 3, 1, 0, 0), (431, .iconst 2, 1, 0, 0), (432, .iadd, 1, 0, 0), (433, .iaload, 1, 0, 0), (434, .invokevirtual 73, 3, 70, 3), (437, .if_icmp .eq (137), 3, 0, 0), (440, .iconst 0, 1, 0, 0), (441, .ireturn, 1, 0, 0), (442, .aload_n 1, 1, 0, 0), (443, .aload_n 0, 1, 0, 0), (444, .iload_n 3, 1, 0, 0), (445, .iconst 1, 1, 0, 0), (446, .iadd, 1, 0, 0), (447, .iaload, 1, 0, 0), (448, .aload_n 0, 1, 0, 0), (449, .iload_n 3, 1, 0, 0), (450, .iconst 2, 1, 0, 0), (451, .iadd, 1, 0, 0), (452, .iaload, 1, 0, 0), (453, .invokevirtual 74, 3, 15, 3), (456, .aload_n 2, 1, 0, 0), (457, .aload_n 0, 1, 0, 0), (458, .iload_n 3, 1, 0, 0), (459, .iconst 1, 1, 0, 0), (460, .iadd, 1, 0, 0), (461, .iaload, 1, 0, 0), (462, .aload_n 0, 1, 0, 0), (463, .iload_n 3, 1, 0, 0), (464, .iconst 2, 1, 0, 0), (465, .iadd, 1, 0, 0), (466, .iaload, 1, 0, 0), (467, .invokevirtual 77, 3, 71, 3), (470, .if_icmp .eq (104), 3, 0, 0), (473, .iconst 0, 1, 0, 0), (474, .ireturn, 1, 0, 0), (475, .aload_n 1, 1, 0, 0), (476, .aload_n 0, 1, 0, 0), (477, .iload_n 3, 1, 0, 0), (478, .iconst 1, 1, 0, 0), (479, .iadd, 1, 0, 0), (480, .iaload, 1, 0, 0), (481, .aload_n 0, 1, 0, 0), (482, .iload_n 3, 1, 0, 0), (483, .iconst 2, 1, 0, 0), (484, .iadd, 1, 0, 0), (485, .iaload, 1, 0, 0), (486, .aload_n 0, 1, 0, 0), (487, .iload_n 3, 1, 0, 0), (488, .iconst 3, 1, 0, 0), (489, .iadd, 1, 0, 0), (490, .iaload, 1, 0, 0), (491, .invokevirtual 78, 3, 16, 4), (494, .aload_n 2, 1, 0, 0), (495, .aload_n 0, 1, 0, 0), (496, .iload_n 3, 1, 0, 0), (497, .iconst 1, 1, 0, 0), (498, .iadd, 1, 0, 0), (499, .iaload, 1, 0, 0), (500, .aload_n 0, 1, 0, 0), (501, .iload_n 3, 1, 0, 0), (502, .iconst 2, 1, 0, 0), (503, .iadd, 1, 0, 0), (504, .iaload, 1, 0, 0), (505, .aload_n 0, 1, 0, 0), (506, .iload_n 3, 1, 0, 0), (507, .iconst 3, 1, 0, 0), (508, .iadd, 1, 0, 0), (509, .iaload, 1, 0, 0), (510, .invokevirtual 82, 3, 72, 4), (513, .if_icmp .eq (61), 3, 0, 0), (516, .iconst 0, 1, 0, 0), (517, .ireturn, 1, 0, 0), (518, .aload_n 1, 1, 0, 0), (519, .aload_n 0, 1, 0, 0), (520, .iload_n 3, 1, 0, 0), (521, .iconst 1, 1, 0, 0), (522, .iadd, 1, 0, 0), (523, .iaload, 1, 0, 0), (524, .aload_n 0, 1, 0, 0), (525, .iload_n 3, 1, 0, 0), (526, .iconst 2, 1, 0, 0), (527, .iadd, 1, 0, 0), (528, .iaload, 1, 0, 0), (529, .invokevirtual 83, 3, 17, 3), (532, .aload_n 2, 1, 0, 0), (533, .aload_n 0, 1, 0, 0), (534, .iload_n 3, 1, 0, 0), (535, .iconst 1, 1, 0, 0), (536, .iadd, 1, 0, 0), (537, .iaload, 1, 0, 0), (538, .aload_n 0, 1, 0, 0), (539, .iload_n 3, 1, 0, 0), (540, .iconst 2, 1, 0, 0), (541, .iadd, 1, 0, 0), (542, .iaload, 1, 0, 0), (543, .invokevirtual 86, 3, 73, 3), (546, .if_icmp .eq (28), 3, 0, 0), (549, .iconst 0, 1, 0, 0), (550, .ireturn, 1, 0, 0), (551, .aload_n 1, 1, 0, 0), (552, .aload_n 0, 1, 0, 0), (553, .iload_n 3, 1, 0, 0), (554, .iconst 1, 1, 0, 0), (555, .iadd, 1, 0, 0), (556, .iaload, 1, 0, 0), (557, .invokevirtual 87, 3, 18, 2), (560, .aload_n 2, 1, 0, 0), (561, .aload_n 0, 1, 0, 0), (562, .iload_n 3, 1, 0, 0), (563, .iconst 1, 1, 0, 0), (564, .iadd, 1, 0, 0), (565, .iaload, 1, 0, 0), (566, .invokevirtual 90, 3, 74, 2), (569, .if_icmp .eq (5), 3, 0, 0), (572, .iconst 0, 1, 0, 0), (573, .ireturn, 1, 0, 0), (574, .iinc 3 (4), 3, 0, 0), (577, .goto (-559), 3, 0, 0), (580, .iconst 1, 1, 0, 0), (581, .ireturn, 1, 0, 0)]
-- 167 java/util/Arrays fill
def vt167 : List (Nat × vI) := [(0, .iconst 0, 1, 0, 0), (1, .istore_n 2, 1, 0, 0), (2, .aload_n 0, 1, 0, 0), (3, .arraylength, 1, 0, 0), (4, .istore_n 3, 1, 0, 0), (5, .iload_n 2, 1, 0, 0), (6, .iload_n 3, 1, 0, 0), (7, .if_icmp .ge (13), 3, 0, 0), (10, .aload_n 0, 1, 0, 0), (11, .iload_n 2, 1, 0, 0), (12, .iload_n 1, 1, 0, 0), (13, .iastore, 1, 0, 0), (14, .iinc 2 (1), 3, 0, 0), (17, .goto (-12), 3, 0, 0), (20, .return_, 1, 0, 0)]
def vtL : List (List (Nat × vI)) := [vt0, vt1, vt2, vt3, vt4, vt5, vt6, vt7, vt8, vt9, vt10, vt11, vt12, vt13, vt14, vt15, vt16, vt17, vt18, vt19, vt20, vt21, vt22, vt23, vt24, vt25, vt26, vt27, vt28, vt29, vt30, vt31, vt32, vt33, vt34, vt35, vt36, vt37, vt38, vt39, vt40, vt41, vt42, vt43, vt44, vt45, vt46, vt47, vt48, vt49, vt50, vt51, vt52, vt53, vt54, vt55, vt56, vt57, vt58, vt59, vt60, vt61, vt62, vt63, vt64, vt65, vt66, vt67, vt68, vt69, vt70, vt71, vt72, vt73, vt74, vt75, vt76, vt77, vt78, vt79, vt80, vt81, vt82, vt83, vt84, vt85, vt86, vt87, vt88, vt89, vt90, vt91, vt92, vt93, vt94, vt95, vt96, vt97, vt98, vt99, vt100, vt101, vt102, vt103, vt104, vt105, vt106, vt107, vt108, vt109, vt110, vt111, vt112, vt113, vt114, vt115, vt116, vt117, vt118, vt119, vt120, vt121, vt122, vt123, vt124, vt125, vt126, vt127, vt128, vt129, vt130, vt131, vt132, vt133, vt134, vt135, vt136, vt137, vt138, vt139, vt140, vt141, vt142, vt143, vt144, vt145, vt146, vt147, vt148, vt149, vt150, vt151, vt152, vt153, vt154, vt155, vt156, vt157, vt158, vt159, vt160, vt161, vt162, vt163, vt164, vt165, vt166, vt167]
def vtab (i : Nat) : List (Nat × vI) := (vtL[i]?).getD []
def vcode (i pc : Nat) : Option vI := (vtab i).lookup pc
/-- fields: own, index, cell tag, field -/
def vfl : List (Nat × Nat × Nat × Nat) := [(0, 14, 0, 0), (0, 21, 0, 1), (0, 25, 0, 2), (0, 31, 0, 3), (0, 35, 0, 4), (0, 48, 0, 5), (0, 52, 0, 6), (0, 58, 0, 7), (0, 62, 0, 8), (0, 70, 0, 9), (0, 79, 0, 10), (1, 7, 1, 0), (1, 13, 1, 1), (2, 7, 2, 0), (2, 13, 2, 1), (3, 14, 3, 0), (3, 20, 3, 1), (3, 24, 3, 2), (4, 9, 4, 0), (4, 16, 4, 1), (5, 7, 5, 0), (5, 13, 5, 1), (5, 17, 5, 2), (6, 9, 6, 0), (6, 15, 6, 1), (6, 19, 6, 2), (6, 23, 6, 3), (6, 26, 6, 4), (6, 35, 6, 5), (6, 38, 6, 6), (6, 41, 6, 7), (7, 14, 7, 0), (7, 23, 7, 1), (7, 27, 7, 3), (7, 35, 7, 6), (8, 9, 8, 0), (8, 15, 8, 1), (8, 21, 8, 2), (8, 26, 8, 3), (8, 30, 8, 4), (8, 33, 8, 5), (8, 70, 7, 2), (8, 73, 7, 3), (8, 76, 7, 4), (8, 88, 7, 5), (8, 94, 7, 0), (8, 123, 7, 6), (8, 140, 7, 1), (9, 7, 9, 0), (9, 13, 9, 2), (9, 16, 9, 3), (9, 19, 9, 4), (9, 22, 9, 5), (9, 25, 9, 6), (9, 29, 9, 8), (9, 32, 9, 9), (9, 35, 9, 12), (9, 38, 9, 14), (9, 41, 9, 15), (9, 44, 9, 17), (9, 47, 9, 20), (9, 50, 9, 21), (9, 53, 9, 22), (9, 56, 9, 23), (9, 59, 9, 24), (9, 67, 9, 1), (9, 85, 9, 7), (9, 108, 9, 10), (9, 111, 9, 11), (9, 114, 9, 16), (9, 133, 9, 13), (9, 154, 9, 18), (9, 165, 9, 19)]
def vml : List (Nat × Nat × Nat) := [(0, 11, 141), (0, 20, 157), (0, 30, 96), (0, 39, 167), (0, 47, 91), (0, 57, 75), (0, 67, 131), (0, 76, 109), (0, 83, 143), (0, 87, 147), (0, 90, 151), (0, 94, 152), (0, 98, 142), (0, 101, 144), (0, 105, 100), (0, 108, 98), (0, 111, 162), (0, 114, 160), (0, 117, 102), (0, 121, 159), (0, 122, 104), (0, 126, 165), (0, 129, 163), (0, 133, 146), (0, 136, 97), (0, 139, 19), (0, 142, 95), (0, 144, 92), (0, 145, 78), (0, 146, 93), (0, 147, 79), (0, 151, 94), (0, 152, 132), (0, 156, 111), (0, 159, 110), (0, 162, 123), (0, 165, 126), (0, 168, 128), (0, 171, 130), (0, 174, 158), (0, 177, 161), (0, 178, 21), (0, 182, 99), (0, 186, 20), (0, 190, 76), (1, 17, 144), (1, 21, 147), (1, 31, 149), (1, 35, 22), (3, 11, 141), (3, 27, 146), (3, 30, 150), (3, 34, 101), (3, 37, 22), (3, 41, 142), (3, 45, 154), (3, 48, 153), (3, 52, 102), (3, 55, 105), (3, 59, 144), (3, 63, 145), (4, 15, 96), (4, 20, 98), (4, 24, 97), (4, 27, 99), (4, 31, 100), (4, 35, 107), (4, 39, 162), (4, 42, 108), (4, 46, 106), (4, 49, 164), (5, 21, 162), (5, 27, 81), (5, 31, 160), (5, 35, 80), (5, 39, 106), (5, 45, 164), (6, 32, 141), (6, 44, 133), (6, 48, 146), (6, 51, 147), (6, 54, 134), (6, 57, 142), (6, 61, 154), (6, 65, 148), (6, 68, 158), (6, 73, 77), (6, 79, 160), (6, 83, 97), (6, 88, 99), (6, 92, 137), (6, 96, 139), (6, 102, 135), (6, 106, 136), (6, 109, 150), (6, 113, 82), (7, 11, 141), (7, 22, 96), (7, 31, 88), (7, 39, 100), (8, 25, 87), (8, 36, 113), (8, 40, 115), (8, 44, 121), (8, 47, 122), (8, 50, 144), (8, 56, 112), (8, 60, 116), (8, 64, 117), (8, 67, 119), (8, 79, 89), (8, 82, 114), (8, 85, 88), (8, 91, 118), (8, 97, 146), (8, 100, 138), (8, 105, 120), (8, 109, 147), (8, 113, 154), (8, 116, 142), (8, 120, 90), (8, 127, 124), (8, 130, 125), (8, 134, 99), (8, 144, 85), (8, 150, 97), (8, 152, 101), (8, 155, 98), (8, 158, 162), (8, 163, 160), (8, 166, 104), (8, 169, 127), (8, 172, 103), (8, 176, 129), (8, 179, 158), (8, 182, 163), (9, 63, 24), (9, 71, 25), (9, 75, 32), (9, 79, 31), (9, 82, 33), (9, 89, 36), (9, 92, 37), (9, 96, 35), (9, 100, 34), (9, 104, 41), (9, 117, 47), (9, 120, 46), (9, 124, 49), (9, 127, 50), (9, 130, 48), (9, 136, 39), (9, 139, 38), (9, 142, 54), (9, 145, 52), (9, 148, 51), (9, 151, 53), (9, 157, 56), (9, 161, 57), (9, 168, 58), (9, 171, 59), (9, 174, 60), (9, 177, 64), (9, 180, 63), (9, 183, 62), (9, 186, 61), (9, 190, 65), (9, 193, 66), (9, 196, 69), (10, 9, 142), (10, 15, 155), (10, 25, 147), (10, 29, 144), (10, 32, 140), (10, 36, 149), (11, 7, 146), (11, 12, 142), (11, 16, 147), (11, 20, 84), (11, 26, 156), (11, 30, 83), (11, 34, 149), (11, 38, 144), (11, 42, 86), (12, 9, 0), (12, 12, 23), (12, 13, 1), (12, 17, 26), (12, 18, 2), (12, 21, 27), (12, 22, 3), (12, 26, 28), (12, 27, 4), (12, 31, 29), (12, 32, 5), (12, 36, 30), (12, 37, 6), (12, 40, 40), (12, 41, 7), (12, 44, 42), (12, 45, 8), (12, 48, 43), (12, 49, 9), (12, 52, 44), (12, 53, 10), (12, 56, 45), (12, 57, 11), (12, 60, 55), (12, 61, 12), (12, 64, 67), (12, 65, 13), (12, 68, 68), (12, 69, 14), (12, 73, 70), (12, 74, 15), (12, 77, 71), (12, 78, 16), (12, 82, 72), (12, 83, 17), (12, 86, 73), (12, 87, 18), (12, 90, 74)]
def vnl : List (Nat × Nat × Nat) := [(0, 1, 1000), (1, 1, 1000), (1, 25, 1001), (1, 41, 1002), (2, 1, 1000), (3, 3, 1000), (4, 1, 1000), (5, 1, 1000), (6, 3, 1000), (7, 3, 1000), (8, 3, 1000), (9, 1, 1000), (10, 19, 1002)]
def vnw : List (Nat × Nat × Nat) := [(0, 18, 4), (0, 28, 3), (0, 45, 2), (0, 55, 5), (0, 65, 6), (0, 7, 1), (0, 74, 8), (12, 10, 9), (12, 7, 0), (3, 9, 1), (4, 7, 3), (6, 30, 1), (7, 20, 3), (7, 9, 1), (8, 19, 7)]
def van : List (Nat × Nat × Nat) := [(4, 7, 102), (8, 19, 103)]
def vld0 : List (Nat × Nat × Nat) := [(0, 193, 65521), (9, 62, 65521)]
end
section
/-! the words that the tables have, by their places (by program) -/
def vgood (w : Cond) : Bool := (w.onTables && w.keeps) || (match w with
  | .arrayClass _ => true
  | _ => false)
def vnest (w : Cond) : Bool := match w with
  | .fieldLinkNest .. => true
  | .methodLinkNest .. => true
  | _ => false
def vWS : List Cond := lw_tbl.filter vgood
theorem vm_t {w : Cond} (h : w ∈ tables_1) : w ∈ lw_tbl := List.mem_append_right _ h
theorem vm_g {w : Cond} (h : w ∈ lw_tbl) (g : vgood w = true) : w ∈ vWS := List.mem_filter.mpr ⟨h, g⟩
theorem vm_1 {w : Cond} (h : w ∈ tables_1_1) : w ∈ tables_1 := (List.mem_append_left _ h)
theorem vm_2 {w : Cond} (h : w ∈ tables_1_2) : w ∈ tables_1 := (List.mem_append_right _ (List.mem_append_left _ h))
theorem vm_3 {w : Cond} (h : w ∈ tables_1_3) : w ∈ tables_1 := (List.mem_append_right _ (List.mem_append_right _ (List.mem_append_left _ h)))
theorem vm_4 {w : Cond} (h : w ∈ tables_1_4) : w ∈ tables_1 := (List.mem_append_right _ (List.mem_append_right _ (List.mem_append_right _ (List.mem_append_left _ h))))
theorem vm_5 {w : Cond} (h : w ∈ tables_1_5) : w ∈ tables_1 := (List.mem_append_right _ (List.mem_append_right _ (List.mem_append_right _ (List.mem_append_right _ h))))
theorem vw1_1 : (Jvm.Cond.initialized "PackStore") ∈ vWS := vm_g (vm_t (vm_1 (List.mem_of_getElem? (i := 1) rfl))) rfl
theorem vw1_2 : (Jvm.Cond.initialized "PackStore$Row") ∈ vWS := vm_g (vm_t (vm_1 (List.mem_of_getElem? (i := 2) rfl))) rfl
theorem vw1_3 : (Jvm.Cond.initialized "PackStore$Shelf") ∈ vWS := vm_g (vm_t (vm_1 (List.mem_of_getElem? (i := 3) rfl))) rfl
theorem vw1_4 : (Jvm.Cond.initialized "PackStore$Item") ∈ vWS := vm_g (vm_t (vm_1 (List.mem_of_getElem? (i := 4) rfl))) rfl
theorem vw1_5 : (Jvm.Cond.initialized "java/util/Arrays") ∈ vWS := vm_g (vm_t (vm_1 (List.mem_of_getElem? (i := 5) rfl))) rfl
theorem vw1_6 : (Jvm.Cond.initialized "PackStore$IdList") ∈ vWS := vm_g (vm_t (vm_1 (List.mem_of_getElem? (i := 6) rfl))) rfl
theorem vw1_7 : (Jvm.Cond.initialized "PackStore$Closure") ∈ vWS := vm_g (vm_t (vm_1 (List.mem_of_getElem? (i := 7) rfl))) rfl
theorem vw1_8 : (Jvm.Cond.initialized "PackStore$PackWriter") ∈ vWS := vm_g (vm_t (vm_1 (List.mem_of_getElem? (i := 8) rfl))) rfl
theorem vw1_9 : (Jvm.Cond.initialized "PackStore$PackReader") ∈ vWS := vm_g (vm_t (vm_1 (List.mem_of_getElem? (i := 9) rfl))) rfl
theorem vw1_10 : (Jvm.Cond.initialized "PackStore$Entry") ∈ vWS := vm_g (vm_t (vm_1 (List.mem_of_getElem? (i := 10) rfl))) rfl
theorem vw1_11 : (Jvm.Cond.initialized "PackStoreModel") ∈ vWS := vm_g (vm_t (vm_1 (List.mem_of_getElem? (i := 11) rfl))) rfl
theorem vw1_12 : (Jvm.Cond.initialized "java/lang/System") ∈ vWS := vm_g (vm_t (vm_1 (List.mem_of_getElem? (i := 12) rfl))) rfl
theorem vw1_13 : (Jvm.Cond.initialized "PackStore$Packing") ∈ vWS := vm_g (vm_t (vm_1 (List.mem_of_getElem? (i := 13) rfl))) rfl
theorem vw1_14 : (Jvm.Cond.initialized "java/lang/Math") ∈ vWS := vm_g (vm_t (vm_1 (List.mem_of_getElem? (i := 14) rfl))) rfl
theorem vw1_15 : (Jvm.Cond.initialized "PackStore$Difference") ∈ vWS := vm_g (vm_t (vm_1 (List.mem_of_getElem? (i := 15) rfl))) rfl
theorem vw1_16 : (Jvm.Cond.classLink "PackStoreLaw" (7 : Nat) "PackStore") ∈ vWS := vm_g (vm_t (vm_1 (List.mem_of_getElem? (i := 16) rfl))) rfl
theorem vw1_17 : (Jvm.Cond.instantiable "PackStore" (11 : Nat)) ∈ vWS := vm_g (vm_t (vm_1 (List.mem_of_getElem? (i := 17) rfl))) rfl
theorem vw1_18 : (Jvm.Cond.methodLink "PackStoreLaw" (9 : Nat) ({ cls := "PackStore", name := "<init>", desc := "()V" } : Jvm.MethodName)) ∈ vWS := vm_g (vm_t (vm_1 (List.mem_of_getElem? (i := 18) rfl))) rfl
theorem vw1_19 : (Jvm.Cond.instanceMethod ({ cls := "PackStore", name := "<init>", desc := "()V" } : Jvm.MethodName)) ∈ vWS := vm_g (vm_t (vm_1 (List.mem_of_getElem? (i := 19) rfl))) rfl
theorem vw1_20 : (Jvm.Cond.code ({ cls := "PackStore", name := "<init>", desc := "()V" } : Jvm.MethodName) prog_1_method_1_code (1 : Nat) (Option.none : Option Jvm.ClassFile.FieldType)) ∈ vWS := vm_g (vm_t (vm_1 (List.mem_of_getElem? (i := 20) rfl))) rfl
theorem vw1_21 : (Jvm.Cond.methodLink "PackStore" (1 : Nat) ({ cls := "java/lang/Object", name := "<init>", desc := "()V" } : Jvm.MethodName)) ∈ vWS := vm_g (vm_t (vm_1 (List.mem_of_getElem? (i := 21) rfl))) rfl
theorem vw1_22 : (Jvm.Cond.instanceMethod ({ cls := "java/lang/Object", name := "<init>", desc := "()V" } : Jvm.MethodName)) ∈ vWS := vm_g (vm_t (vm_1 (List.mem_of_getElem? (i := 22) rfl))) rfl
theorem vw1_23 : (Jvm.Cond.code ({ cls := "java/lang/Object", name := "<init>", desc := "()V" } : Jvm.MethodName) object_method_1_code (1 : Nat) (Option.none : Option Jvm.ClassFile.FieldType)) ∈ vWS := vm_g (vm_t (vm_1 (List.mem_of_getElem? (i := 23) rfl))) rfl
theorem vw1_24 : (Jvm.Cond.classLink "PackStore" (7 : Nat) "PackStore$Row") ∈ vWS := vm_g (vm_t (vm_1 (List.mem_of_getElem? (i := 24) rfl))) rfl
theorem vw1_25 : (Jvm.Cond.instantiable "PackStore$Row" (2 : Nat)) ∈ vWS := vm_g (vm_t (vm_1 (List.mem_of_getElem? (i := 25) rfl))) rfl
theorem vw1_26 : (Jvm.Cond.methodLink "PackStore" (11 : Nat) ({ cls := "PackStore$Row", name := "<init>", desc := "(I)V" } : Jvm.MethodName)) ∈ vWS := vm_g (vm_t (vm_1 (List.mem_of_getElem? (i := 26) rfl))) rfl
theorem vw1_27 : (Jvm.Cond.instanceMethod ({ cls := "PackStore$Row", name := "<init>", desc := "(I)V" } : Jvm.MethodName)) ∈ vWS := vm_g (vm_t (vm_1 (List.mem_of_getElem? (i := 27) rfl))) rfl
theorem vw1_28 : (Jvm.Cond.code ({ cls := "PackStore$Row", name := "<init>", desc := "(I)V" } : Jvm.MethodName) prog_10_method_1_code (2 : Nat) (Option.none : Option Jvm.ClassFile.FieldType)) ∈ vWS := vm_g (vm_t (vm_1 (List.mem_of_getElem? (i := 28) rfl))) rfl
theorem vw1_29 : (Jvm.Cond.methodLink "PackStore$Row" (1 : Nat) ({ cls := "java/lang/Object", name := "<init>", desc := "()V" } : Jvm.MethodName)) ∈ vWS := vm_g (vm_t (vm_1 (List.mem_of_getElem? (i := 29) rfl))) rfl
theorem vw1_30 : (Jvm.Cond.fieldLink "PackStore$Row" (7 : Nat) "PackStore$Row" "bytes" "[I") ∈ vWS := vm_g (vm_t (vm_1 (List.mem_of_getElem? (i := 30) rfl))) rfl
theorem vw1_31 : (Jvm.Cond.fieldLink "PackStore$Row" (13 : Nat) "PackStore$Row" "used" "I") ∈ vWS := vm_g (vm_t (vm_1 (List.mem_of_getElem? (i := 31) rfl))) rfl
theorem vw1_32 : (Jvm.Cond.laysFinal "PackStore$Row" "PackStore$Row" "bytes" "[I") ∈ vWS := vm_g (vm_t (vm_1 (List.mem_of_getElem? (i := 32) rfl))) rfl
theorem vw1_34 : (Jvm.Cond.lays "PackStore$Row" "PackStore$Row" "used" "I") ∈ vWS := vm_g (vm_t (vm_1 (List.mem_of_getElem? (i := 34) rfl))) rfl
theorem vw1_37 : (Jvm.Cond.arrayClass Jvm.ClassFile.FieldType.int) ∈ vWS := vm_g (vm_t (vm_1 (List.mem_of_getElem? (i := 37) rfl))) rfl
theorem vw1_38 : (Jvm.Cond.classLink "PackStore" (18 : Nat) "PackStore$Shelf") ∈ vWS := vm_g (vm_t (vm_1 (List.mem_of_getElem? (i := 38) rfl))) rfl
theorem vw1_39 : (Jvm.Cond.instantiable "PackStore$Shelf" (2 : Nat)) ∈ vWS := vm_g (vm_t (vm_1 (List.mem_of_getElem? (i := 39) rfl))) rfl
theorem vw1_40 : (Jvm.Cond.methodLink "PackStore" (20 : Nat) ({ cls := "PackStore$Shelf", name := "<init>", desc := "(I)V" } : Jvm.MethodName)) ∈ vWS := vm_g (vm_t (vm_1 (List.mem_of_getElem? (i := 40) rfl))) rfl
theorem vw1_41 : (Jvm.Cond.instanceMethod ({ cls := "PackStore$Shelf", name := "<init>", desc := "(I)V" } : Jvm.MethodName)) ∈ vWS := vm_g (vm_t (vm_1 (List.mem_of_getElem? (i := 41) rfl))) rfl
theorem vw1_42 : (Jvm.Cond.code ({ cls := "PackStore$Shelf", name := "<init>", desc := "(I)V" } : Jvm.MethodName) prog_11_method_1_code (3 : Nat) (Option.none : Option Jvm.ClassFile.FieldType)) ∈ vWS := vm_g (vm_t (vm_1 (List.mem_of_getElem? (i := 42) rfl))) rfl
theorem vw1_43 : (Jvm.Cond.methodLink "PackStore$Shelf" (1 : Nat) ({ cls := "java/lang/Object", name := "<init>", desc := "()V" } : Jvm.MethodName)) ∈ vWS := vm_g (vm_t (vm_1 (List.mem_of_getElem? (i := 43) rfl))) rfl
theorem vw1_44 : (Jvm.Cond.classLink "PackStore$Shelf" (7 : Nat) "PackStore$Item") ∈ vWS := vm_g (vm_t (vm_1 (List.mem_of_getElem? (i := 44) rfl))) rfl
theorem vw1_45 : (Jvm.Cond.arrayOver (Jvm.ClassFile.FieldType.object "PackStore$Item")) ∈ lw_tbl := vm_t (vm_1 (List.mem_of_getElem? (i := 45) rfl))
theorem vw1_46 : (Jvm.Cond.instantiable "PackStore$Item" (3 : Nat)) ∈ vWS := vm_g (vm_t (vm_1 (List.mem_of_getElem? (i := 46) rfl))) rfl
theorem vw1_47 : (Jvm.Cond.methodLinkNest "PackStore$Shelf" (15 : Nat) ({ cls := "PackStore$Item", name := "<init>", desc := "()V" } : Jvm.MethodName) "PackStore") ∈ lw_tbl := vm_t (vm_1 (List.mem_of_getElem? (i := 47) rfl))
theorem vw1_48 : (Jvm.Cond.instanceMethod ({ cls := "PackStore$Item", name := "<init>", desc := "()V" } : Jvm.MethodName)) ∈ vWS := vm_g (vm_t (vm_1 (List.mem_of_getElem? (i := 48) rfl))) rfl
theorem vw1_49 : (Jvm.Cond.code ({ cls := "PackStore$Item", name := "<init>", desc := "()V" } : Jvm.MethodName) prog_6_method_1_code (1 : Nat) (Option.none : Option Jvm.ClassFile.FieldType)) ∈ vWS := vm_g (vm_t (vm_1 (List.mem_of_getElem? (i := 49) rfl))) rfl
theorem vw1_50 : (Jvm.Cond.methodLink "PackStore$Item" (3 : Nat) ({ cls := "java/lang/Object", name := "<init>", desc := "()V" } : Jvm.MethodName)) ∈ vWS := vm_g (vm_t (vm_1 (List.mem_of_getElem? (i := 50) rfl))) rfl
theorem vw1_51 : (Jvm.Cond.classLink "PackStore$Item" (9 : Nat) "PackStore$Row") ∈ vWS := vm_g (vm_t (vm_1 (List.mem_of_getElem? (i := 51) rfl))) rfl
theorem vw1_52 : (Jvm.Cond.methodLink "PackStore$Item" (11 : Nat) ({ cls := "PackStore$Row", name := "<init>", desc := "(I)V" } : Jvm.MethodName)) ∈ vWS := vm_g (vm_t (vm_1 (List.mem_of_getElem? (i := 52) rfl))) rfl
theorem vw1_53 : (Jvm.Cond.fieldLink "PackStore$Item" (14 : Nat) "PackStore$Item" "bytes" "LPackStore$Row;") ∈ vWS := vm_g (vm_t (vm_1 (List.mem_of_getElem? (i := 53) rfl))) rfl
theorem vw1_54 : (Jvm.Cond.fieldLink "PackStore$Item" (20 : Nat) "PackStore$Item" "sort" "I") ∈ vWS := vm_g (vm_t (vm_1 (List.mem_of_getElem? (i := 54) rfl))) rfl
theorem vw1_55 : (Jvm.Cond.fieldLink "PackStore$Item" (24 : Nat) "PackStore$Item" "id" "I") ∈ vWS := vm_g (vm_t (vm_1 (List.mem_of_getElem? (i := 55) rfl))) rfl
theorem vw1_56 : (Jvm.Cond.laysFinal "PackStore$Item" "PackStore$Item" "bytes" "LPackStore$Row;") ∈ vWS := vm_g (vm_t (vm_1 (List.mem_of_getElem? (i := 56) rfl))) rfl
theorem vw1_58 : (Jvm.Cond.lays "PackStore$Item" "PackStore$Item" "sort" "I") ∈ vWS := vm_g (vm_t (vm_1 (List.mem_of_getElem? (i := 58) rfl))) rfl
theorem vw1_60 : (Jvm.Cond.lays "PackStore$Item" "PackStore$Item" "id" "I") ∈ vWS := vm_g (vm_t (vm_1 (List.mem_of_getElem? (i := 60) rfl))) rfl
theorem vw1_63 : (Jvm.Cond.fieldLink "PackStore$Shelf" (9 : Nat) "PackStore$Shelf" "items" "[LPackStore$Item;") ∈ vWS := vm_g (vm_t (vm_1 (List.mem_of_getElem? (i := 63) rfl))) rfl
theorem vw1_64 : (Jvm.Cond.fieldLink "PackStore$Shelf" (16 : Nat) "PackStore$Shelf" "held" "I") ∈ vWS := vm_g (vm_t (vm_1 (List.mem_of_getElem? (i := 64) rfl))) rfl
theorem vw1_65 : (Jvm.Cond.laysFinal "PackStore$Shelf" "PackStore$Shelf" "items" "[LPackStore$Item;") ∈ vWS := vm_g (vm_t (vm_1 (List.mem_of_getElem? (i := 65) rfl))) rfl
theorem vw1_67 : (Jvm.Cond.lays "PackStore$Shelf" "PackStore$Shelf" "held" "I") ∈ vWS := vm_g (vm_t (vm_1 (List.mem_of_getElem? (i := 67) rfl))) rfl
theorem vw1_70 : (Jvm.Cond.classLink "PackStore" (28 : Nat) "PackStore$Item") ∈ vWS := vm_g (vm_t (vm_1 (List.mem_of_getElem? (i := 70) rfl))) rfl
theorem vw1_71 : (Jvm.Cond.methodLinkNest "PackStore" (30 : Nat) ({ cls := "PackStore$Item", name := "<init>", desc := "()V" } : Jvm.MethodName) "PackStore") ∈ lw_tbl := vm_t (vm_1 (List.mem_of_getElem? (i := 71) rfl))
theorem vw1_72 : (Jvm.Cond.methodLink "PackStore" (39 : Nat) ({ cls := "java/util/Arrays", name := "fill", desc := "([II)V" } : Jvm.MethodName)) ∈ vWS := vm_g (vm_t (vm_1 (List.mem_of_getElem? (i := 72) rfl))) rfl
theorem vw1_73 : (Jvm.Cond.static ({ cls := "java/util/Arrays", name := "fill", desc := "([II)V" } : Jvm.MethodName)) ∈ vWS := vm_g (vm_t (vm_1 (List.mem_of_getElem? (i := 73) rfl))) rfl
theorem vw1_74 : (Jvm.Cond.code ({ cls := "java/util/Arrays", name := "fill", desc := "([II)V" } : Jvm.MethodName) prog_16_method_103_code (4 : Nat) (Option.none : Option Jvm.ClassFile.FieldType)) ∈ vWS := vm_g (vm_t (vm_1 (List.mem_of_getElem? (i := 74) rfl))) rfl
theorem vw1_75 : (Jvm.Cond.classLink "PackStore" (45 : Nat) "PackStore$IdList") ∈ vWS := vm_g (vm_t (vm_1 (List.mem_of_getElem? (i := 75) rfl))) rfl
theorem vw1_76 : (Jvm.Cond.instantiable "PackStore$IdList" (2 : Nat)) ∈ vWS := vm_g (vm_t (vm_1 (List.mem_of_getElem? (i := 76) rfl))) rfl
theorem vw1_77 : (Jvm.Cond.methodLink "PackStore" (47 : Nat) ({ cls := "PackStore$IdList", name := "<init>", desc := "(I)V" } : Jvm.MethodName)) ∈ vWS := vm_g (vm_t (vm_1 (List.mem_of_getElem? (i := 77) rfl))) rfl
theorem vw1_78 : (Jvm.Cond.instanceMethod ({ cls := "PackStore$IdList", name := "<init>", desc := "(I)V" } : Jvm.MethodName)) ∈ vWS := vm_g (vm_t (vm_1 (List.mem_of_getElem? (i := 78) rfl))) rfl
theorem vw1_79 : (Jvm.Cond.code ({ cls := "PackStore$IdList", name := "<init>", desc := "(I)V" } : Jvm.MethodName) prog_5_method_1_code (2 : Nat) (Option.none : Option Jvm.ClassFile.FieldType)) ∈ vWS := vm_g (vm_t (vm_1 (List.mem_of_getElem? (i := 79) rfl))) rfl
theorem vw1_80 : (Jvm.Cond.methodLink "PackStore$IdList" (1 : Nat) ({ cls := "java/lang/Object", name := "<init>", desc := "()V" } : Jvm.MethodName)) ∈ vWS := vm_g (vm_t (vm_1 (List.mem_of_getElem? (i := 80) rfl))) rfl
theorem vw1_81 : (Jvm.Cond.fieldLink "PackStore$IdList" (7 : Nat) "PackStore$IdList" "ids" "[I") ∈ vWS := vm_g (vm_t (vm_1 (List.mem_of_getElem? (i := 81) rfl))) rfl
theorem vw1_82 : (Jvm.Cond.fieldLink "PackStore$IdList" (13 : Nat) "PackStore$IdList" "used" "I") ∈ vWS := vm_g (vm_t (vm_1 (List.mem_of_getElem? (i := 82) rfl))) rfl
theorem vw1_83 : (Jvm.Cond.laysFinal "PackStore$IdList" "PackStore$IdList" "ids" "[I") ∈ vWS := vm_g (vm_t (vm_1 (List.mem_of_getElem? (i := 83) rfl))) rfl
theorem vw1_85 : (Jvm.Cond.lays "PackStore$IdList" "PackStore$IdList" "used" "I") ∈ vWS := vm_g (vm_t (vm_1 (List.mem_of_getElem? (i := 85) rfl))) rfl
theorem vw1_88 : (Jvm.Cond.classLink "PackStore" (55 : Nat) "PackStore$Closure") ∈ vWS := vm_g (vm_t (vm_1 (List.mem_of_getElem? (i := 88) rfl))) rfl
theorem vw1_89 : (Jvm.Cond.instantiable "PackStore$Closure" (3 : Nat)) ∈ vWS := vm_g (vm_t (vm_1 (List.mem_of_getElem? (i := 89) rfl))) rfl
theorem vw1_90 : (Jvm.Cond.methodLink "PackStore" (57 : Nat) ({ cls := "PackStore$Closure", name := "<init>", desc := "(I)V" } : Jvm.MethodName)) ∈ vWS := vm_g (vm_t (vm_1 (List.mem_of_getElem? (i := 90) rfl))) rfl
theorem vw1_91 : (Jvm.Cond.instanceMethod ({ cls := "PackStore$Closure", name := "<init>", desc := "(I)V" } : Jvm.MethodName)) ∈ vWS := vm_g (vm_t (vm_1 (List.mem_of_getElem? (i := 91) rfl))) rfl
theorem vw1_92 : (Jvm.Cond.code ({ cls := "PackStore$Closure", name := "<init>", desc := "(I)V" } : Jvm.MethodName) prog_2_method_1_code (2 : Nat) (Option.none : Option Jvm.ClassFile.FieldType)) ∈ vWS := vm_g (vm_t (vm_1 (List.mem_of_getElem? (i := 92) rfl))) rfl
theorem vw1_93 : (Jvm.Cond.methodLink "PackStore$Closure" (1 : Nat) ({ cls := "java/lang/Object", name := "<init>", desc := "()V" } : Jvm.MethodName)) ∈ vWS := vm_g (vm_t (vm_1 (List.mem_of_getElem? (i := 93) rfl))) rfl
theorem vw1_94 : (Jvm.Cond.fieldLink "PackStore$Closure" (7 : Nat) "PackStore$Closure" "marked" "[Z") ∈ vWS := vm_g (vm_t (vm_1 (List.mem_of_getElem? (i := 94) rfl))) rfl
theorem vw1_95 : (Jvm.Cond.fieldLink "PackStore$Closure" (13 : Nat) "PackStore$Closure" "places" "[I") ∈ vWS := vm_g (vm_t (vm_1 (List.mem_of_getElem? (i := 95) rfl))) rfl
theorem vw1_96 : (Jvm.Cond.fieldLink "PackStore$Closure" (17 : Nat) "PackStore$Closure" "found" "I") ∈ vWS := vm_g (vm_t (vm_1 (List.mem_of_getElem? (i := 96) rfl))) rfl
theorem vw1_97 : (Jvm.Cond.laysFinal "PackStore$Closure" "PackStore$Closure" "marked" "[Z") ∈ vWS := vm_g (vm_t (vm_1 (List.mem_of_getElem? (i := 97) rfl))) rfl
theorem vw1_99 : (Jvm.Cond.laysFinal "PackStore$Closure" "PackStore$Closure" "places" "[I") ∈ vWS := vm_g (vm_t (vm_1 (List.mem_of_getElem? (i := 99) rfl))) rfl
theorem vw1_101 : (Jvm.Cond.lays "PackStore$Closure" "PackStore$Closure" "found" "I") ∈ vWS := vm_g (vm_t (vm_1 (List.mem_of_getElem? (i := 101) rfl))) rfl
theorem vw1_104 : (Jvm.Cond.arrayClass Jvm.ClassFile.FieldType.boolean) ∈ vWS := vm_g (vm_t (vm_1 (List.mem_of_getElem? (i := 104) rfl))) rfl
theorem vw1_105 : (Jvm.Cond.classLink "PackStore" (65 : Nat) "PackStore$PackWriter") ∈ vWS := vm_g (vm_t (vm_1 (List.mem_of_getElem? (i := 105) rfl))) rfl
theorem vw1_106 : (Jvm.Cond.instantiable "PackStore$PackWriter" (8 : Nat)) ∈ vWS := vm_g (vm_t (vm_1 (List.mem_of_getElem? (i := 106) rfl))) rfl
theorem vw1_107 : (Jvm.Cond.methodLink "PackStore" (67 : Nat) ({ cls := "PackStore$PackWriter", name := "<init>", desc := "(LPackStore$Shelf;LPackStore$Row;)V" } : Jvm.MethodName)) ∈ vWS := vm_g (vm_t (vm_1 (List.mem_of_getElem? (i := 107) rfl))) rfl
theorem vw1_108 : (Jvm.Cond.instanceMethod ({ cls := "PackStore$PackWriter", name := "<init>", desc := "(LPackStore$Shelf;LPackStore$Row;)V" } : Jvm.MethodName)) ∈ vWS := vm_g (vm_t (vm_1 (List.mem_of_getElem? (i := 108) rfl))) rfl
theorem vw1_109 : (Jvm.Cond.code ({ cls := "PackStore$PackWriter", name := "<init>", desc := "(LPackStore$Shelf;LPackStore$Row;)V" } : Jvm.MethodName) prog_8_method_1_code (3 : Nat) (Option.none : Option Jvm.ClassFile.FieldType)) ∈ vWS := vm_g (vm_t (vm_1 (List.mem_of_getElem? (i := 109) rfl))) rfl
theorem vw1_110 : (Jvm.Cond.methodLink "PackStore$PackWriter" (3 : Nat) ({ cls := "java/lang/Object", name := "<init>", desc := "()V" } : Jvm.MethodName)) ∈ vWS := vm_g (vm_t (vm_1 (List.mem_of_getElem? (i := 110) rfl))) rfl
theorem vw1_111 : (Jvm.Cond.classLink "PackStore$PackWriter" (30 : Nat) "PackStore$Row") ∈ vWS := vm_g (vm_t (vm_1 (List.mem_of_getElem? (i := 111) rfl))) rfl
theorem vw1_112 : (Jvm.Cond.methodLink "PackStore$PackWriter" (32 : Nat) ({ cls := "PackStore$Row", name := "<init>", desc := "(I)V" } : Jvm.MethodName)) ∈ vWS := vm_g (vm_t (vm_1 (List.mem_of_getElem? (i := 112) rfl))) rfl
theorem vw1_113 : (Jvm.Cond.fieldLink "PackStore$PackWriter" (9 : Nat) "PackStore$PackWriter" "shelf" "LPackStore$Shelf;") ∈ vWS := vm_g (vm_t (vm_1 (List.mem_of_getElem? (i := 113) rfl))) rfl
theorem vw1_114 : (Jvm.Cond.fieldLink "PackStore$PackWriter" (15 : Nat) "PackStore$PackWriter" "out" "LPackStore$Row;") ∈ vWS := vm_g (vm_t (vm_1 (List.mem_of_getElem? (i := 114) rfl))) rfl
theorem vw1_115 : (Jvm.Cond.fieldLink "PackStore$PackWriter" (19 : Nat) "PackStore$PackWriter" "picked" "[I") ∈ vWS := vm_g (vm_t (vm_1 (List.mem_of_getElem? (i := 115) rfl))) rfl
theorem vw1_116 : (Jvm.Cond.fieldLink "PackStore$PackWriter" (23 : Nat) "PackStore$PackWriter" "heads" "[I") ∈ vWS := vm_g (vm_t (vm_1 (List.mem_of_getElem? (i := 116) rfl))) rfl
theorem vw1_117 : (Jvm.Cond.fieldLink "PackStore$PackWriter" (26 : Nat) "PackStore$PackWriter" "entries" "I") ∈ vWS := vm_g (vm_t (vm_1 (List.mem_of_getElem? (i := 117) rfl))) rfl
theorem vw1_118 : (Jvm.Cond.fieldLink "PackStore$PackWriter" (35 : Nat) "PackStore$PackWriter" "difference" "LPackStore$Row;") ∈ vWS := vm_g (vm_t (vm_1 (List.mem_of_getElem? (i := 118) rfl))) rfl
theorem vw1_119 : (Jvm.Cond.fieldLink "PackStore$PackWriter" (38 : Nat) "PackStore$PackWriter" "trial" "LPackStore$Row;") ∈ vWS := vm_g (vm_t (vm_1 (List.mem_of_getElem? (i := 119) rfl))) rfl
theorem vw1_120 : (Jvm.Cond.fieldLink "PackStore$PackWriter" (41 : Nat) "PackStore$PackWriter" "best" "LPackStore$Row;") ∈ vWS := vm_g (vm_t (vm_1 (List.mem_of_getElem? (i := 120) rfl))) rfl
theorem vw1_121 : (Jvm.Cond.laysFinal "PackStore$PackWriter" "PackStore$PackWriter" "shelf" "LPackStore$Shelf;") ∈ vWS := vm_g (vm_t (vm_1 (List.mem_of_getElem? (i := 121) rfl))) rfl
theorem vw1_123 : (Jvm.Cond.laysFinal "PackStore$PackWriter" "PackStore$PackWriter" "out" "LPackStore$Row;") ∈ vWS := vm_g (vm_t (vm_1 (List.mem_of_getElem? (i := 123) rfl))) rfl
theorem vw1_125 : (Jvm.Cond.laysFinal "PackStore$PackWriter" "PackStore$PackWriter" "picked" "[I") ∈ vWS := vm_g (vm_t (vm_1 (List.mem_of_getElem? (i := 125) rfl))) rfl
theorem vw1_127 : (Jvm.Cond.laysFinal "PackStore$PackWriter" "PackStore$PackWriter" "heads" "[I") ∈ vWS := vm_g (vm_t (vm_1 (List.mem_of_getElem? (i := 127) rfl))) rfl
theorem vw1_129 : (Jvm.Cond.lays "PackStore$PackWriter" "PackStore$PackWriter" "entries" "I") ∈ vWS := vm_g (vm_t (vm_1 (List.mem_of_getElem? (i := 129) rfl))) rfl
theorem vw1_131 : (Jvm.Cond.laysFinal "PackStore$PackWriter" "PackStore$PackWriter" "difference" "LPackStore$Row;") ∈ vWS := vm_g (vm_t (vm_1 (List.mem_of_getElem? (i := 131) rfl))) rfl
theorem vw1_133 : (Jvm.Cond.laysFinal "PackStore$PackWriter" "PackStore$PackWriter" "trial" "LPackStore$Row;") ∈ vWS := vm_g (vm_t (vm_1 (List.mem_of_getElem? (i := 133) rfl))) rfl
theorem vw1_135 : (Jvm.Cond.laysFinal "PackStore$PackWriter" "PackStore$PackWriter" "best" "LPackStore$Row;") ∈ vWS := vm_g (vm_t (vm_1 (List.mem_of_getElem? (i := 135) rfl))) rfl
theorem vw1_138 : (Jvm.Cond.classLink "PackStore" (74 : Nat) "PackStore$PackReader") ∈ vWS := vm_g (vm_t (vm_1 (List.mem_of_getElem? (i := 138) rfl))) rfl
theorem vw1_139 : (Jvm.Cond.instantiable "PackStore$PackReader" (6 : Nat)) ∈ vWS := vm_g (vm_t (vm_1 (List.mem_of_getElem? (i := 139) rfl))) rfl
theorem vw1_140 : (Jvm.Cond.methodLink "PackStore" (76 : Nat) ({ cls := "PackStore$PackReader", name := "<init>", desc := "(LPackStore$Row;LPackStore$Shelf;)V" } : Jvm.MethodName)) ∈ vWS := vm_g (vm_t (vm_1 (List.mem_of_getElem? (i := 140) rfl))) rfl
theorem vw1_141 : (Jvm.Cond.instanceMethod ({ cls := "PackStore$PackReader", name := "<init>", desc := "(LPackStore$Row;LPackStore$Shelf;)V" } : Jvm.MethodName)) ∈ vWS := vm_g (vm_t (vm_1 (List.mem_of_getElem? (i := 141) rfl))) rfl
theorem vw1_142 : (Jvm.Cond.code ({ cls := "PackStore$PackReader", name := "<init>", desc := "(LPackStore$Row;LPackStore$Shelf;)V" } : Jvm.MethodName) prog_7_method_1_code (4 : Nat) (Option.none : Option Jvm.ClassFile.FieldType)) ∈ vWS := vm_g (vm_t (vm_1 (List.mem_of_getElem? (i := 142) rfl))) rfl
theorem vw1_143 : (Jvm.Cond.methodLink "PackStore$PackReader" (3 : Nat) ({ cls := "java/lang/Object", name := "<init>", desc := "()V" } : Jvm.MethodName)) ∈ vWS := vm_g (vm_t (vm_1 (List.mem_of_getElem? (i := 143) rfl))) rfl
theorem vw1_144 : (Jvm.Cond.classLink "PackStore$PackReader" (19 : Nat) "PackStore$Entry") ∈ vWS := vm_g (vm_t (vm_1 (List.mem_of_getElem? (i := 144) rfl))) rfl
theorem vw1_145 : (Jvm.Cond.arrayOver (Jvm.ClassFile.FieldType.object "PackStore$Entry")) ∈ lw_tbl := vm_t (vm_1 (List.mem_of_getElem? (i := 145) rfl))
theorem vw1_146 : (Jvm.Cond.instantiable "PackStore$Entry" (7 : Nat)) ∈ vWS := vm_g (vm_t (vm_1 (List.mem_of_getElem? (i := 146) rfl))) rfl
theorem vw1_147 : (Jvm.Cond.methodLinkNest "PackStore$PackReader" (25 : Nat) ({ cls := "PackStore$Entry", name := "<init>", desc := "()V" } : Jvm.MethodName) "PackStore") ∈ lw_tbl := vm_t (vm_1 (List.mem_of_getElem? (i := 147) rfl))
theorem vw1_148 : (Jvm.Cond.instanceMethod ({ cls := "PackStore$Entry", name := "<init>", desc := "()V" } : Jvm.MethodName)) ∈ vWS := vm_g (vm_t (vm_1 (List.mem_of_getElem? (i := 148) rfl))) rfl
theorem vw1_149 : (Jvm.Cond.code ({ cls := "PackStore$Entry", name := "<init>", desc := "()V" } : Jvm.MethodName) prog_4_method_1_code (1 : Nat) (Option.none : Option Jvm.ClassFile.FieldType)) ∈ vWS := vm_g (vm_t (vm_1 (List.mem_of_getElem? (i := 149) rfl))) rfl
theorem vw1_150 : (Jvm.Cond.methodLink "PackStore$Entry" (3 : Nat) ({ cls := "java/lang/Object", name := "<init>", desc := "()V" } : Jvm.MethodName)) ∈ vWS := vm_g (vm_t (vm_1 (List.mem_of_getElem? (i := 150) rfl))) rfl
theorem vw1_151 : (Jvm.Cond.classLink "PackStore$Entry" (9 : Nat) "PackStore$Row") ∈ vWS := vm_g (vm_t (vm_1 (List.mem_of_getElem? (i := 151) rfl))) rfl
theorem vw1_152 : (Jvm.Cond.methodLink "PackStore$Entry" (11 : Nat) ({ cls := "PackStore$Row", name := "<init>", desc := "(I)V" } : Jvm.MethodName)) ∈ vWS := vm_g (vm_t (vm_1 (List.mem_of_getElem? (i := 152) rfl))) rfl
theorem vw1_153 : (Jvm.Cond.classLink "PackStore$Entry" (20 : Nat) "PackStore$Item") ∈ vWS := vm_g (vm_t (vm_1 (List.mem_of_getElem? (i := 153) rfl))) rfl
theorem vw1_154 : (Jvm.Cond.methodLinkNest "PackStore$Entry" (22 : Nat) ({ cls := "PackStore$Item", name := "<init>", desc := "()V" } : Jvm.MethodName) "PackStore") ∈ lw_tbl := vm_t (vm_1 (List.mem_of_getElem? (i := 154) rfl))
theorem vw1_155 : (Jvm.Cond.fieldLink "PackStore$Entry" (14 : Nat) "PackStore$Entry" "unpacked" "LPackStore$Row;") ∈ vWS := vm_g (vm_t (vm_1 (List.mem_of_getElem? (i := 155) rfl))) rfl
theorem vw1_156 : (Jvm.Cond.fieldLinkNest "PackStore$PackReader" (94 : Nat) "PackStore$Entry" "unpacked" "LPackStore$Row;" "PackStore") ∈ lw_tbl := vm_t (vm_1 (List.mem_of_getElem? (i := 156) rfl))
theorem vw1_157 : (Jvm.Cond.fieldLink "PackStore$Entry" (23 : Nat) "PackStore$Entry" "item" "LPackStore$Item;") ∈ vWS := vm_g (vm_t (vm_1 (List.mem_of_getElem? (i := 157) rfl))) rfl
theorem vw1_158 : (Jvm.Cond.fieldLinkNest "PackStore$PackReader" (140 : Nat) "PackStore$Entry" "item" "LPackStore$Item;" "PackStore") ∈ lw_tbl := vm_t (vm_1 (List.mem_of_getElem? (i := 158) rfl))
theorem vw1_159 : (Jvm.Cond.fieldLinkNest "PackStore$PackReader" (70 : Nat) "PackStore$Entry" "head" "I" "PackStore") ∈ lw_tbl := vm_t (vm_1 (List.mem_of_getElem? (i := 159) rfl))
theorem vw1_160 : (Jvm.Cond.fieldLink "PackStore$Entry" (27 : Nat) "PackStore$Entry" "sort" "I") ∈ vWS := vm_g (vm_t (vm_1 (List.mem_of_getElem? (i := 160) rfl))) rfl
theorem vw1_161 : (Jvm.Cond.fieldLinkNest "PackStore$PackReader" (73 : Nat) "PackStore$Entry" "sort" "I" "PackStore") ∈ lw_tbl := vm_t (vm_1 (List.mem_of_getElem? (i := 161) rfl))
theorem vw1_162 : (Jvm.Cond.fieldLinkNest "PackStore$PackReader" (76 : Nat) "PackStore$Entry" "size" "I" "PackStore") ∈ lw_tbl := vm_t (vm_1 (List.mem_of_getElem? (i := 162) rfl))
theorem vw1_163 : (Jvm.Cond.fieldLinkNest "PackStore$PackReader" (88 : Nat) "PackStore$Entry" "base" "I" "PackStore") ∈ lw_tbl := vm_t (vm_1 (List.mem_of_getElem? (i := 163) rfl))
theorem vw1_164 : (Jvm.Cond.fieldLink "PackStore$Entry" (35 : Nat) "PackStore$Entry" "ready" "Z") ∈ vWS := vm_g (vm_t (vm_1 (List.mem_of_getElem? (i := 164) rfl))) rfl
theorem vw1_165 : (Jvm.Cond.fieldLinkNest "PackStore$PackReader" (123 : Nat) "PackStore$Entry" "ready" "Z" "PackStore") ∈ lw_tbl := vm_t (vm_1 (List.mem_of_getElem? (i := 165) rfl))
theorem vw1_166 : (Jvm.Cond.laysFinal "PackStore$Entry" "PackStore$Entry" "unpacked" "LPackStore$Row;") ∈ vWS := vm_g (vm_t (vm_1 (List.mem_of_getElem? (i := 166) rfl))) rfl
theorem vw1_168 : (Jvm.Cond.laysFinal "PackStore$Entry" "PackStore$Entry" "item" "LPackStore$Item;") ∈ vWS := vm_g (vm_t (vm_1 (List.mem_of_getElem? (i := 168) rfl))) rfl
theorem vw1_170 : (Jvm.Cond.lays "PackStore$Entry" "PackStore$Entry" "head" "I") ∈ vWS := vm_g (vm_t (vm_1 (List.mem_of_getElem? (i := 170) rfl))) rfl
theorem vw1_172 : (Jvm.Cond.lays "PackStore$Entry" "PackStore$Entry" "sort" "I") ∈ vWS := vm_g (vm_t (vm_1 (List.mem_of_getElem? (i := 172) rfl))) rfl
theorem vw1_174 : (Jvm.Cond.lays "PackStore$Entry" "PackStore$Entry" "size" "I") ∈ vWS := vm_g (vm_t (vm_1 (List.mem_of_getElem? (i := 174) rfl))) rfl
theorem vw1_176 : (Jvm.Cond.lays "PackStore$Entry" "PackStore$Entry" "base" "I") ∈ vWS := vm_g (vm_t (vm_1 (List.mem_of_getElem? (i := 176) rfl))) rfl
theorem vw1_178 : (Jvm.Cond.lays "PackStore$Entry" "PackStore$Entry" "ready" "Z") ∈ vWS := vm_g (vm_t (vm_1 (List.mem_of_getElem? (i := 178) rfl))) rfl
theorem vw1_181 : (Jvm.Cond.fieldLink "PackStore$PackReader" (9 : Nat) "PackStore$PackReader" "in" "LPackStore$Row;") ∈ vWS := vm_g (vm_t (vm_1 (List.mem_of_getElem? (i := 181) rfl))) rfl
theorem vw1_182 : (Jvm.Cond.fieldLink "PackStore$PackReader" (15 : Nat) "PackStore$PackReader" "shelf" "LPackStore$Shelf;") ∈ vWS := vm_g (vm_t (vm_1 (List.mem_of_getElem? (i := 182) rfl))) rfl
theorem vw1_183 : (Jvm.Cond.fieldLink "PackStore$PackReader" (21 : Nat) "PackStore$PackReader" "all" "[LPackStore$Entry;") ∈ vWS := vm_g (vm_t (vm_1 (List.mem_of_getElem? (i := 183) rfl))) rfl
theorem vw1_184 : (Jvm.Cond.fieldLink "PackStore$PackReader" (26 : Nat) "PackStore$PackReader" "entries" "I") ∈ vWS := vm_g (vm_t (vm_1 (List.mem_of_getElem? (i := 184) rfl))) rfl
theorem vw1_185 : (Jvm.Cond.fieldLink "PackStore$PackReader" (30 : Nat) "PackStore$PackReader" "place" "I") ∈ vWS := vm_g (vm_t (vm_1 (List.mem_of_getElem? (i := 185) rfl))) rfl
theorem vw1_186 : (Jvm.Cond.fieldLink "PackStore$PackReader" (33 : Nat) "PackStore$PackReader" "fault" "I") ∈ vWS := vm_g (vm_t (vm_1 (List.mem_of_getElem? (i := 186) rfl))) rfl
theorem vw1_187 : (Jvm.Cond.laysFinal "PackStore$PackReader" "PackStore$PackReader" "in" "LPackStore$Row;") ∈ vWS := vm_g (vm_t (vm_1 (List.mem_of_getElem? (i := 187) rfl))) rfl
theorem vw1_189 : (Jvm.Cond.laysFinal "PackStore$PackReader" "PackStore$PackReader" "shelf" "LPackStore$Shelf;") ∈ vWS := vm_g (vm_t (vm_1 (List.mem_of_getElem? (i := 189) rfl))) rfl
theorem vw1_191 : (Jvm.Cond.laysFinal "PackStore$PackReader" "PackStore$PackReader" "all" "[LPackStore$Entry;") ∈ vWS := vm_g (vm_t (vm_1 (List.mem_of_getElem? (i := 191) rfl))) rfl
theorem vw1_193 : (Jvm.Cond.lays "PackStore$PackReader" "PackStore$PackReader" "entries" "I") ∈ vWS := vm_g (vm_t (vm_1 (List.mem_of_getElem? (i := 193) rfl))) rfl
theorem vw1_195 : (Jvm.Cond.lays "PackStore$PackReader" "PackStore$PackReader" "place" "I") ∈ vWS := vm_g (vm_t (vm_1 (List.mem_of_getElem? (i := 195) rfl))) rfl
theorem vw1_197 : (Jvm.Cond.lays "PackStore$PackReader" "PackStore$PackReader" "fault" "I") ∈ vWS := vm_g (vm_t (vm_1 (List.mem_of_getElem? (i := 197) rfl))) rfl
theorem vw1_200 : (Jvm.Cond.fieldLink "PackStore" (14 : Nat) "PackStore" "buffer" "LPackStore$Row;") ∈ vWS := vm_g (vm_t (vm_1 (List.mem_of_getElem? (i := 200) rfl))) rfl
theorem vw1_201 : (Jvm.Cond.fieldLink "PackStore" (21 : Nat) "PackStore" "server" "LPackStore$Shelf;") ∈ vWS := vm_g (vm_t (vm_1 (List.mem_of_getElem? (i := 201) rfl))) rfl
theorem vw1_202 : (Jvm.Cond.fieldLink "PackStore" (25 : Nat) "PackStore" "client" "LPackStore$Shelf;") ∈ vWS := vm_g (vm_t (vm_1 (List.mem_of_getElem? (i := 202) rfl))) rfl
theorem vw1_203 : (Jvm.Cond.fieldLink "PackStore" (31 : Nat) "PackStore" "draft" "LPackStore$Item;") ∈ vWS := vm_g (vm_t (vm_1 (List.mem_of_getElem? (i := 203) rfl))) rfl
theorem vw1_204 : (Jvm.Cond.fieldLink "PackStore" (35 : Nat) "PackStore" "refs" "[I") ∈ vWS := vm_g (vm_t (vm_1 (List.mem_of_getElem? (i := 204) rfl))) rfl
theorem vw1_205 : (Jvm.Cond.fieldLink "PackStore" (48 : Nat) "PackStore" "wants" "LPackStore$IdList;") ∈ vWS := vm_g (vm_t (vm_1 (List.mem_of_getElem? (i := 205) rfl))) rfl
theorem vw1_206 : (Jvm.Cond.fieldLink "PackStore" (52 : Nat) "PackStore" "haves" "LPackStore$IdList;") ∈ vWS := vm_g (vm_t (vm_1 (List.mem_of_getElem? (i := 206) rfl))) rfl
theorem vw1_207 : (Jvm.Cond.fieldLink "PackStore" (58 : Nat) "PackStore" "reached" "LPackStore$Closure;") ∈ vWS := vm_g (vm_t (vm_1 (List.mem_of_getElem? (i := 207) rfl))) rfl
theorem vw1_208 : (Jvm.Cond.fieldLink "PackStore" (62 : Nat) "PackStore" "had" "LPackStore$Closure;") ∈ vWS := vm_g (vm_t (vm_1 (List.mem_of_getElem? (i := 208) rfl))) rfl
theorem vw1_209 : (Jvm.Cond.fieldLink "PackStore" (70 : Nat) "PackStore" "writer" "LPackStore$PackWriter;") ∈ vWS := vm_g (vm_t (vm_1 (List.mem_of_getElem? (i := 209) rfl))) rfl
theorem vw1_210 : (Jvm.Cond.fieldLink "PackStore" (79 : Nat) "PackStore" "reader" "LPackStore$PackReader;") ∈ vWS := vm_g (vm_t (vm_1 (List.mem_of_getElem? (i := 210) rfl))) rfl
theorem vw1_211 : (Jvm.Cond.laysFinal "PackStore" "PackStore" "buffer" "LPackStore$Row;") ∈ vWS := vm_g (vm_t (vm_1 (List.mem_of_getElem? (i := 211) rfl))) rfl
theorem vw1_213 : (Jvm.Cond.laysFinal "PackStore" "PackStore" "server" "LPackStore$Shelf;") ∈ vWS := vm_g (vm_t (vm_1 (List.mem_of_getElem? (i := 213) rfl))) rfl
theorem vw1_215 : (Jvm.Cond.laysFinal "PackStore" "PackStore" "client" "LPackStore$Shelf;") ∈ vWS := vm_g (vm_t (vm_1 (List.mem_of_getElem? (i := 215) rfl))) rfl
theorem vw1_217 : (Jvm.Cond.laysFinal "PackStore" "PackStore" "draft" "LPackStore$Item;") ∈ vWS := vm_g (vm_t (vm_1 (List.mem_of_getElem? (i := 217) rfl))) rfl
theorem vw1_219 : (Jvm.Cond.laysFinal "PackStore" "PackStore" "refs" "[I") ∈ vWS := vm_g (vm_t (vm_1 (List.mem_of_getElem? (i := 219) rfl))) rfl
theorem vw1_221 : (Jvm.Cond.laysFinal "PackStore" "PackStore" "wants" "LPackStore$IdList;") ∈ vWS := vm_g (vm_t (vm_1 (List.mem_of_getElem? (i := 221) rfl))) rfl
theorem vw1_223 : (Jvm.Cond.laysFinal "PackStore" "PackStore" "haves" "LPackStore$IdList;") ∈ vWS := vm_g (vm_t (vm_1 (List.mem_of_getElem? (i := 223) rfl))) rfl
theorem vw1_225 : (Jvm.Cond.laysFinal "PackStore" "PackStore" "reached" "LPackStore$Closure;") ∈ vWS := vm_g (vm_t (vm_1 (List.mem_of_getElem? (i := 225) rfl))) rfl
theorem vw1_227 : (Jvm.Cond.laysFinal "PackStore" "PackStore" "had" "LPackStore$Closure;") ∈ vWS := vm_g (vm_t (vm_1 (List.mem_of_getElem? (i := 227) rfl))) rfl
theorem vw1_229 : (Jvm.Cond.laysFinal "PackStore" "PackStore" "writer" "LPackStore$PackWriter;") ∈ vWS := vm_g (vm_t (vm_1 (List.mem_of_getElem? (i := 229) rfl))) rfl
theorem vw1_231 : (Jvm.Cond.laysFinal "PackStore" "PackStore" "reader" "LPackStore$PackReader;") ∈ vWS := vm_g (vm_t (vm_1 (List.mem_of_getElem? (i := 231) rfl))) rfl
theorem vw1_234 : (Jvm.Cond.methodLink "PackStoreLaw" (13 : Nat) ({ cls := "PackStore", name := "put", desc := "(II)Z" } : Jvm.MethodName)) ∈ vWS := vm_g (vm_t (vm_1 (List.mem_of_getElem? (i := 234) rfl))) rfl
theorem vw1_235 : (Jvm.Cond.instanceMethod ({ cls := "PackStore", name := "put", desc := "(II)Z" } : Jvm.MethodName)) ∈ vWS := vm_g (vm_t (vm_1 (List.mem_of_getElem? (i := 235) rfl))) rfl
theorem vw1_236 : (Jvm.Cond.selects "PackStore" ({ cls := "PackStore", name := "put", desc := "(II)Z" } : Jvm.MethodName) ({ cls := "PackStore", name := "put", desc := "(II)Z" } : Jvm.MethodName)) ∈ vWS := vm_g (vm_t (vm_1 (List.mem_of_getElem? (i := 236) rfl))) rfl
theorem vw1_237 : (Jvm.Cond.code ({ cls := "PackStore", name := "put", desc := "(II)Z" } : Jvm.MethodName) prog_1_method_2_code (4 : Nat) (Option.some Jvm.ClassFile.FieldType.boolean)) ∈ vWS := vm_g (vm_t (vm_1 (List.mem_of_getElem? (i := 237) rfl))) rfl
theorem vw1_238 : (Jvm.Cond.methodLink "PackStore" (83 : Nat) ({ cls := "PackStore$Row", name := "left", desc := "()I" } : Jvm.MethodName)) ∈ vWS := vm_g (vm_t (vm_1 (List.mem_of_getElem? (i := 238) rfl))) rfl
theorem vw1_239 : (Jvm.Cond.instanceMethod ({ cls := "PackStore$Row", name := "left", desc := "()I" } : Jvm.MethodName)) ∈ vWS := vm_g (vm_t (vm_1 (List.mem_of_getElem? (i := 239) rfl))) rfl
theorem vw2_0 : (Jvm.Cond.selects "PackStore$Row" ({ cls := "PackStore$Row", name := "left", desc := "()I" } : Jvm.MethodName) ({ cls := "PackStore$Row", name := "left", desc := "()I" } : Jvm.MethodName)) ∈ vWS := vm_g (vm_t (vm_2 (List.mem_of_getElem? (i := 0) rfl))) rfl
theorem vw2_1 : (Jvm.Cond.code ({ cls := "PackStore$Row", name := "left", desc := "()I" } : Jvm.MethodName) prog_10_method_3_code (1 : Nat) (Option.some Jvm.ClassFile.FieldType.int)) ∈ vWS := vm_g (vm_t (vm_2 (List.mem_of_getElem? (i := 1) rfl))) rfl
theorem vw2_2 : (Jvm.Cond.methodLink "PackStore" (87 : Nat) ({ cls := "PackStore$Row", name := "add", desc := "(I)V" } : Jvm.MethodName)) ∈ vWS := vm_g (vm_t (vm_2 (List.mem_of_getElem? (i := 2) rfl))) rfl
theorem vw2_3 : (Jvm.Cond.instanceMethod ({ cls := "PackStore$Row", name := "add", desc := "(I)V" } : Jvm.MethodName)) ∈ vWS := vm_g (vm_t (vm_2 (List.mem_of_getElem? (i := 3) rfl))) rfl
theorem vw2_4 : (Jvm.Cond.selects "PackStore$Row" ({ cls := "PackStore$Row", name := "add", desc := "(I)V" } : Jvm.MethodName) ({ cls := "PackStore$Row", name := "add", desc := "(I)V" } : Jvm.MethodName)) ∈ vWS := vm_g (vm_t (vm_2 (List.mem_of_getElem? (i := 4) rfl))) rfl
theorem vw2_5 : (Jvm.Cond.code ({ cls := "PackStore$Row", name := "add", desc := "(I)V" } : Jvm.MethodName) prog_10_method_7_code (2 : Nat) (Option.none : Option Jvm.ClassFile.FieldType)) ∈ vWS := vm_g (vm_t (vm_2 (List.mem_of_getElem? (i := 5) rfl))) rfl
theorem vw2_6 : (Jvm.Cond.methodLink "PackStoreLaw" (18 : Nat) ({ cls := "PackStore", name := "set", desc := "(II)Z" } : Jvm.MethodName)) ∈ vWS := vm_g (vm_t (vm_2 (List.mem_of_getElem? (i := 6) rfl))) rfl
theorem vw2_7 : (Jvm.Cond.instanceMethod ({ cls := "PackStore", name := "set", desc := "(II)Z" } : Jvm.MethodName)) ∈ vWS := vm_g (vm_t (vm_2 (List.mem_of_getElem? (i := 7) rfl))) rfl
theorem vw2_8 : (Jvm.Cond.selects "PackStore" ({ cls := "PackStore", name := "set", desc := "(II)Z" } : Jvm.MethodName) ({ cls := "PackStore", name := "set", desc := "(II)Z" } : Jvm.MethodName)) ∈ vWS := vm_g (vm_t (vm_2 (List.mem_of_getElem? (i := 8) rfl))) rfl
theorem vw2_9 : (Jvm.Cond.code ({ cls := "PackStore", name := "set", desc := "(II)Z" } : Jvm.MethodName) prog_1_method_3_code (3 : Nat) (Option.some Jvm.ClassFile.FieldType.boolean)) ∈ vWS := vm_g (vm_t (vm_2 (List.mem_of_getElem? (i := 9) rfl))) rfl
theorem vw2_10 : (Jvm.Cond.methodLink "PackStore" (90 : Nat) ({ cls := "PackStore$Row", name := "replace", desc := "(II)Z" } : Jvm.MethodName)) ∈ vWS := vm_g (vm_t (vm_2 (List.mem_of_getElem? (i := 10) rfl))) rfl
theorem vw2_11 : (Jvm.Cond.instanceMethod ({ cls := "PackStore$Row", name := "replace", desc := "(II)Z" } : Jvm.MethodName)) ∈ vWS := vm_g (vm_t (vm_2 (List.mem_of_getElem? (i := 11) rfl))) rfl
theorem vw2_12 : (Jvm.Cond.selects "PackStore$Row" ({ cls := "PackStore$Row", name := "replace", desc := "(II)Z" } : Jvm.MethodName) ({ cls := "PackStore$Row", name := "replace", desc := "(II)Z" } : Jvm.MethodName)) ∈ vWS := vm_g (vm_t (vm_2 (List.mem_of_getElem? (i := 12) rfl))) rfl
theorem vw2_13 : (Jvm.Cond.code ({ cls := "PackStore$Row", name := "replace", desc := "(II)Z" } : Jvm.MethodName) prog_10_method_11_code (3 : Nat) (Option.some Jvm.ClassFile.FieldType.boolean)) ∈ vWS := vm_g (vm_t (vm_2 (List.mem_of_getElem? (i := 13) rfl))) rfl
theorem vw2_14 : (Jvm.Cond.methodLink "PackStoreLaw" (22 : Nat) ({ cls := "PackStore", name := "cut", desc := "(I)Z" } : Jvm.MethodName)) ∈ vWS := vm_g (vm_t (vm_2 (List.mem_of_getElem? (i := 14) rfl))) rfl
theorem vw2_15 : (Jvm.Cond.instanceMethod ({ cls := "PackStore", name := "cut", desc := "(I)Z" } : Jvm.MethodName)) ∈ vWS := vm_g (vm_t (vm_2 (List.mem_of_getElem? (i := 15) rfl))) rfl
theorem vw2_16 : (Jvm.Cond.selects "PackStore" ({ cls := "PackStore", name := "cut", desc := "(I)Z" } : Jvm.MethodName) ({ cls := "PackStore", name := "cut", desc := "(I)Z" } : Jvm.MethodName)) ∈ vWS := vm_g (vm_t (vm_2 (List.mem_of_getElem? (i := 16) rfl))) rfl
theorem vw2_17 : (Jvm.Cond.code ({ cls := "PackStore", name := "cut", desc := "(I)Z" } : Jvm.MethodName) prog_1_method_4_code (2 : Nat) (Option.some Jvm.ClassFile.FieldType.boolean)) ∈ vWS := vm_g (vm_t (vm_2 (List.mem_of_getElem? (i := 17) rfl))) rfl
theorem vw2_18 : (Jvm.Cond.methodLink "PackStore" (94 : Nat) ({ cls := "PackStore$Row", name := "shorten", desc := "(I)Z" } : Jvm.MethodName)) ∈ vWS := vm_g (vm_t (vm_2 (List.mem_of_getElem? (i := 18) rfl))) rfl
theorem vw2_19 : (Jvm.Cond.instanceMethod ({ cls := "PackStore$Row", name := "shorten", desc := "(I)Z" } : Jvm.MethodName)) ∈ vWS := vm_g (vm_t (vm_2 (List.mem_of_getElem? (i := 19) rfl))) rfl
theorem vw2_20 : (Jvm.Cond.selects "PackStore$Row" ({ cls := "PackStore$Row", name := "shorten", desc := "(I)Z" } : Jvm.MethodName) ({ cls := "PackStore$Row", name := "shorten", desc := "(I)Z" } : Jvm.MethodName)) ∈ vWS := vm_g (vm_t (vm_2 (List.mem_of_getElem? (i := 20) rfl))) rfl
theorem vw2_21 : (Jvm.Cond.code ({ cls := "PackStore$Row", name := "shorten", desc := "(I)Z" } : Jvm.MethodName) prog_10_method_12_code (2 : Nat) (Option.some Jvm.ClassFile.FieldType.boolean)) ∈ vWS := vm_g (vm_t (vm_2 (List.mem_of_getElem? (i := 21) rfl))) rfl
theorem vw2_22 : (Jvm.Cond.methodLink "PackStoreLaw" (27 : Nat) ({ cls := "PackStore", name := "size", desc := "()I" } : Jvm.MethodName)) ∈ vWS := vm_g (vm_t (vm_2 (List.mem_of_getElem? (i := 22) rfl))) rfl
theorem vw2_23 : (Jvm.Cond.instanceMethod ({ cls := "PackStore", name := "size", desc := "()I" } : Jvm.MethodName)) ∈ vWS := vm_g (vm_t (vm_2 (List.mem_of_getElem? (i := 23) rfl))) rfl
theorem vw2_24 : (Jvm.Cond.selects "PackStore" ({ cls := "PackStore", name := "size", desc := "()I" } : Jvm.MethodName) ({ cls := "PackStore", name := "size", desc := "()I" } : Jvm.MethodName)) ∈ vWS := vm_g (vm_t (vm_2 (List.mem_of_getElem? (i := 24) rfl))) rfl
theorem vw2_25 : (Jvm.Cond.code ({ cls := "PackStore", name := "size", desc := "()I" } : Jvm.MethodName) prog_1_method_5_code (1 : Nat) (Option.some Jvm.ClassFile.FieldType.int)) ∈ vWS := vm_g (vm_t (vm_2 (List.mem_of_getElem? (i := 25) rfl))) rfl
theorem vw2_26 : (Jvm.Cond.methodLink "PackStore" (98 : Nat) ({ cls := "PackStore$Row", name := "used", desc := "()I" } : Jvm.MethodName)) ∈ vWS := vm_g (vm_t (vm_2 (List.mem_of_getElem? (i := 26) rfl))) rfl
theorem vw2_27 : (Jvm.Cond.instanceMethod ({ cls := "PackStore$Row", name := "used", desc := "()I" } : Jvm.MethodName)) ∈ vWS := vm_g (vm_t (vm_2 (List.mem_of_getElem? (i := 27) rfl))) rfl
theorem vw2_28 : (Jvm.Cond.selects "PackStore$Row" ({ cls := "PackStore$Row", name := "used", desc := "()I" } : Jvm.MethodName) ({ cls := "PackStore$Row", name := "used", desc := "()I" } : Jvm.MethodName)) ∈ vWS := vm_g (vm_t (vm_2 (List.mem_of_getElem? (i := 28) rfl))) rfl
theorem vw2_29 : (Jvm.Cond.code ({ cls := "PackStore$Row", name := "used", desc := "()I" } : Jvm.MethodName) prog_10_method_2_code (1 : Nat) (Option.some Jvm.ClassFile.FieldType.int)) ∈ vWS := vm_g (vm_t (vm_2 (List.mem_of_getElem? (i := 29) rfl))) rfl
theorem vw2_30 : (Jvm.Cond.methodLink "PackStoreLaw" (32 : Nat) ({ cls := "PackStore", name := "at", desc := "(I)I" } : Jvm.MethodName)) ∈ vWS := vm_g (vm_t (vm_2 (List.mem_of_getElem? (i := 30) rfl))) rfl
theorem vw2_31 : (Jvm.Cond.instanceMethod ({ cls := "PackStore", name := "at", desc := "(I)I" } : Jvm.MethodName)) ∈ vWS := vm_g (vm_t (vm_2 (List.mem_of_getElem? (i := 31) rfl))) rfl
theorem vw2_32 : (Jvm.Cond.selects "PackStore" ({ cls := "PackStore", name := "at", desc := "(I)I" } : Jvm.MethodName) ({ cls := "PackStore", name := "at", desc := "(I)I" } : Jvm.MethodName)) ∈ vWS := vm_g (vm_t (vm_2 (List.mem_of_getElem? (i := 32) rfl))) rfl
theorem vw2_33 : (Jvm.Cond.code ({ cls := "PackStore", name := "at", desc := "(I)I" } : Jvm.MethodName) prog_1_method_6_code (2 : Nat) (Option.some Jvm.ClassFile.FieldType.int)) ∈ vWS := vm_g (vm_t (vm_2 (List.mem_of_getElem? (i := 33) rfl))) rfl
theorem vw2_34 : (Jvm.Cond.methodLink "PackStore" (101 : Nat) ({ cls := "PackStore$Row", name := "get", desc := "(I)I" } : Jvm.MethodName)) ∈ vWS := vm_g (vm_t (vm_2 (List.mem_of_getElem? (i := 34) rfl))) rfl
theorem vw2_35 : (Jvm.Cond.instanceMethod ({ cls := "PackStore$Row", name := "get", desc := "(I)I" } : Jvm.MethodName)) ∈ vWS := vm_g (vm_t (vm_2 (List.mem_of_getElem? (i := 35) rfl))) rfl
theorem vw2_36 : (Jvm.Cond.selects "PackStore$Row" ({ cls := "PackStore$Row", name := "get", desc := "(I)I" } : Jvm.MethodName) ({ cls := "PackStore$Row", name := "get", desc := "(I)I" } : Jvm.MethodName)) ∈ vWS := vm_g (vm_t (vm_2 (List.mem_of_getElem? (i := 36) rfl))) rfl
theorem vw2_37 : (Jvm.Cond.code ({ cls := "PackStore$Row", name := "get", desc := "(I)I" } : Jvm.MethodName) prog_10_method_4_code (2 : Nat) (Option.some Jvm.ClassFile.FieldType.int)) ∈ vWS := vm_g (vm_t (vm_2 (List.mem_of_getElem? (i := 37) rfl))) rfl
theorem vw2_38 : (Jvm.Cond.methodLink "PackStoreLaw" (37 : Nat) ({ cls := "PackStore", name := "store", desc := "(I)I" } : Jvm.MethodName)) ∈ vWS := vm_g (vm_t (vm_2 (List.mem_of_getElem? (i := 38) rfl))) rfl
theorem vw2_39 : (Jvm.Cond.instanceMethod ({ cls := "PackStore", name := "store", desc := "(I)I" } : Jvm.MethodName)) ∈ vWS := vm_g (vm_t (vm_2 (List.mem_of_getElem? (i := 39) rfl))) rfl
theorem vw2_40 : (Jvm.Cond.selects "PackStore" ({ cls := "PackStore", name := "store", desc := "(I)I" } : Jvm.MethodName) ({ cls := "PackStore", name := "store", desc := "(I)I" } : Jvm.MethodName)) ∈ vWS := vm_g (vm_t (vm_2 (List.mem_of_getElem? (i := 40) rfl))) rfl
theorem vw2_41 : (Jvm.Cond.code ({ cls := "PackStore", name := "store", desc := "(I)I" } : Jvm.MethodName) prog_1_method_7_code (3 : Nat) (Option.some Jvm.ClassFile.FieldType.int)) ∈ vWS := vm_g (vm_t (vm_2 (List.mem_of_getElem? (i := 41) rfl))) rfl
theorem vw2_42 : (Jvm.Cond.methodLink "PackStore" (105 : Nat) ({ cls := "PackStore$Item", name := "fill", desc := "(ILPackStore$Row;)V" } : Jvm.MethodName)) ∈ vWS := vm_g (vm_t (vm_2 (List.mem_of_getElem? (i := 42) rfl))) rfl
theorem vw2_43 : (Jvm.Cond.instanceMethod ({ cls := "PackStore$Item", name := "fill", desc := "(ILPackStore$Row;)V" } : Jvm.MethodName)) ∈ vWS := vm_g (vm_t (vm_2 (List.mem_of_getElem? (i := 43) rfl))) rfl
theorem vw2_44 : (Jvm.Cond.selects "PackStore$Item" ({ cls := "PackStore$Item", name := "fill", desc := "(ILPackStore$Row;)V" } : Jvm.MethodName) ({ cls := "PackStore$Item", name := "fill", desc := "(ILPackStore$Row;)V" } : Jvm.MethodName)) ∈ vWS := vm_g (vm_t (vm_2 (List.mem_of_getElem? (i := 44) rfl))) rfl
theorem vw2_45 : (Jvm.Cond.code ({ cls := "PackStore$Item", name := "fill", desc := "(ILPackStore$Row;)V" } : Jvm.MethodName) prog_6_method_5_code (3 : Nat) (Option.none : Option Jvm.ClassFile.FieldType)) ∈ vWS := vm_g (vm_t (vm_2 (List.mem_of_getElem? (i := 45) rfl))) rfl
theorem vw2_46 : (Jvm.Cond.methodLink "PackStore$Item" (27 : Nat) ({ cls := "PackStore$Row", name := "clear", desc := "()V" } : Jvm.MethodName)) ∈ vWS := vm_g (vm_t (vm_2 (List.mem_of_getElem? (i := 46) rfl))) rfl
theorem vw2_47 : (Jvm.Cond.instanceMethod ({ cls := "PackStore$Row", name := "clear", desc := "()V" } : Jvm.MethodName)) ∈ vWS := vm_g (vm_t (vm_2 (List.mem_of_getElem? (i := 47) rfl))) rfl
theorem vw2_48 : (Jvm.Cond.selects "PackStore$Row" ({ cls := "PackStore$Row", name := "clear", desc := "()V" } : Jvm.MethodName) ({ cls := "PackStore$Row", name := "clear", desc := "()V" } : Jvm.MethodName)) ∈ vWS := vm_g (vm_t (vm_2 (List.mem_of_getElem? (i := 48) rfl))) rfl
theorem vw2_49 : (Jvm.Cond.code ({ cls := "PackStore$Row", name := "clear", desc := "()V" } : Jvm.MethodName) prog_10_method_6_code (1 : Nat) (Option.none : Option Jvm.ClassFile.FieldType)) ∈ vWS := vm_g (vm_t (vm_2 (List.mem_of_getElem? (i := 49) rfl))) rfl
theorem vw2_50 : (Jvm.Cond.methodLink "PackStore$Item" (30 : Nat) ({ cls := "PackStore$Row", name := "addAll", desc := "(LPackStore$Row;)V" } : Jvm.MethodName)) ∈ vWS := vm_g (vm_t (vm_2 (List.mem_of_getElem? (i := 50) rfl))) rfl
theorem vw2_51 : (Jvm.Cond.instanceMethod ({ cls := "PackStore$Row", name := "addAll", desc := "(LPackStore$Row;)V" } : Jvm.MethodName)) ∈ vWS := vm_g (vm_t (vm_2 (List.mem_of_getElem? (i := 51) rfl))) rfl
theorem vw2_52 : (Jvm.Cond.selects "PackStore$Row" ({ cls := "PackStore$Row", name := "addAll", desc := "(LPackStore$Row;)V" } : Jvm.MethodName) ({ cls := "PackStore$Row", name := "addAll", desc := "(LPackStore$Row;)V" } : Jvm.MethodName)) ∈ vWS := vm_g (vm_t (vm_2 (List.mem_of_getElem? (i := 52) rfl))) rfl
theorem vw2_53 : (Jvm.Cond.code ({ cls := "PackStore$Row", name := "addAll", desc := "(LPackStore$Row;)V" } : Jvm.MethodName) prog_10_method_10_code (2 : Nat) (Option.none : Option Jvm.ClassFile.FieldType)) ∈ vWS := vm_g (vm_t (vm_2 (List.mem_of_getElem? (i := 53) rfl))) rfl
theorem vw2_54 : (Jvm.Cond.methodLink "PackStore$Row" (31 : Nat) ({ cls := "PackStore$Row", name := "addPart", desc := "(LPackStore$Row;II)Z" } : Jvm.MethodName)) ∈ vWS := vm_g (vm_t (vm_2 (List.mem_of_getElem? (i := 54) rfl))) rfl
theorem vw2_55 : (Jvm.Cond.instanceMethod ({ cls := "PackStore$Row", name := "addPart", desc := "(LPackStore$Row;II)Z" } : Jvm.MethodName)) ∈ vWS := vm_g (vm_t (vm_2 (List.mem_of_getElem? (i := 55) rfl))) rfl
theorem vw2_56 : (Jvm.Cond.selects "PackStore$Row" ({ cls := "PackStore$Row", name := "addPart", desc := "(LPackStore$Row;II)Z" } : Jvm.MethodName) ({ cls := "PackStore$Row", name := "addPart", desc := "(LPackStore$Row;II)Z" } : Jvm.MethodName)) ∈ vWS := vm_g (vm_t (vm_2 (List.mem_of_getElem? (i := 56) rfl))) rfl
theorem vw2_57 : (Jvm.Cond.code ({ cls := "PackStore$Row", name := "addPart", desc := "(LPackStore$Row;II)Z" } : Jvm.MethodName) prog_10_method_9_code (4 : Nat) (Option.some Jvm.ClassFile.FieldType.boolean)) ∈ vWS := vm_g (vm_t (vm_2 (List.mem_of_getElem? (i := 57) rfl))) rfl
theorem vw2_58 : (Jvm.Cond.methodLink "PackStore$Row" (25 : Nat) ({ cls := "java/lang/System", name := "arraycopy", desc := "(Ljava/lang/Object;ILjava/lang/Object;II)V" } : Jvm.MethodName)) ∈ vWS := vm_g (vm_t (vm_2 (List.mem_of_getElem? (i := 58) rfl))) rfl
theorem vw2_59 : (Jvm.Cond.static ({ cls := "java/lang/System", name := "arraycopy", desc := "(Ljava/lang/Object;ILjava/lang/Object;II)V" } : Jvm.MethodName)) ∈ vWS := vm_g (vm_t (vm_2 (List.mem_of_getElem? (i := 59) rfl))) rfl
theorem vw2_60 : (Jvm.Cond.native ({ cls := "java/lang/System", name := "arraycopy", desc := "(Ljava/lang/Object;ILjava/lang/Object;II)V" } : Jvm.MethodName)) ∈ vWS := vm_g (vm_t (vm_2 (List.mem_of_getElem? (i := 60) rfl))) rfl
theorem vw2_61 : (Jvm.Cond.methodLink "PackStore$Item" (34 : Nat) ({ cls := "PackStore$Item", name := "finish", desc := "(I)V" } : Jvm.MethodName)) ∈ vWS := vm_g (vm_t (vm_2 (List.mem_of_getElem? (i := 61) rfl))) rfl
theorem vw2_62 : (Jvm.Cond.instanceMethod ({ cls := "PackStore$Item", name := "finish", desc := "(I)V" } : Jvm.MethodName)) ∈ vWS := vm_g (vm_t (vm_2 (List.mem_of_getElem? (i := 62) rfl))) rfl
theorem vw2_63 : (Jvm.Cond.selects "PackStore$Item" ({ cls := "PackStore$Item", name := "finish", desc := "(I)V" } : Jvm.MethodName) ({ cls := "PackStore$Item", name := "finish", desc := "(I)V" } : Jvm.MethodName)) ∈ vWS := vm_g (vm_t (vm_2 (List.mem_of_getElem? (i := 63) rfl))) rfl
theorem vw2_64 : (Jvm.Cond.code ({ cls := "PackStore$Item", name := "finish", desc := "(I)V" } : Jvm.MethodName) prog_6_method_6_code (3 : Nat) (Option.none : Option Jvm.ClassFile.FieldType)) ∈ vWS := vm_g (vm_t (vm_2 (List.mem_of_getElem? (i := 64) rfl))) rfl
theorem vw2_65 : (Jvm.Cond.methodLinkNest "PackStore$Item" (37 : Nat) ({ cls := "PackStore", name := "hashStep", desc := "(II)I" } : Jvm.MethodName) "PackStore") ∈ lw_tbl := vm_t (vm_2 (List.mem_of_getElem? (i := 65) rfl))
theorem vw2_66 : (Jvm.Cond.static ({ cls := "PackStore", name := "hashStep", desc := "(II)I" } : Jvm.MethodName)) ∈ vWS := vm_g (vm_t (vm_2 (List.mem_of_getElem? (i := 66) rfl))) rfl
theorem vw2_67 : (Jvm.Cond.code ({ cls := "PackStore", name := "hashStep", desc := "(II)I" } : Jvm.MethodName) prog_1_method_23_code (2 : Nat) (Option.some Jvm.ClassFile.FieldType.int)) ∈ vWS := vm_g (vm_t (vm_2 (List.mem_of_getElem? (i := 67) rfl))) rfl
theorem vw2_68 : (Jvm.Cond.constant "PackStore" (193 : Nat) (65521 : Int32)) ∈ vWS := vm_g (vm_t (vm_2 (List.mem_of_getElem? (i := 68) rfl))) rfl
theorem vw2_69 : (Jvm.Cond.methodLink "PackStore$Item" (41 : Nat) ({ cls := "PackStore$Row", name := "used", desc := "()I" } : Jvm.MethodName)) ∈ vWS := vm_g (vm_t (vm_2 (List.mem_of_getElem? (i := 69) rfl))) rfl
theorem vw2_70 : (Jvm.Cond.methodLink "PackStore$Item" (45 : Nat) ({ cls := "PackStore$Row", name := "hashOn", desc := "(II)I" } : Jvm.MethodName)) ∈ vWS := vm_g (vm_t (vm_2 (List.mem_of_getElem? (i := 70) rfl))) rfl
theorem vw2_71 : (Jvm.Cond.instanceMethod ({ cls := "PackStore$Row", name := "hashOn", desc := "(II)I" } : Jvm.MethodName)) ∈ vWS := vm_g (vm_t (vm_2 (List.mem_of_getElem? (i := 71) rfl))) rfl
theorem vw2_72 : (Jvm.Cond.selects "PackStore$Row" ({ cls := "PackStore$Row", name := "hashOn", desc := "(II)I" } : Jvm.MethodName) ({ cls := "PackStore$Row", name := "hashOn", desc := "(II)I" } : Jvm.MethodName)) ∈ vWS := vm_g (vm_t (vm_2 (List.mem_of_getElem? (i := 72) rfl))) rfl
theorem vw2_73 : (Jvm.Cond.code ({ cls := "PackStore$Row", name := "hashOn", desc := "(II)I" } : Jvm.MethodName) prog_10_method_14_code (5 : Nat) (Option.some Jvm.ClassFile.FieldType.int)) ∈ vWS := vm_g (vm_t (vm_2 (List.mem_of_getElem? (i := 73) rfl))) rfl
theorem vw2_74 : (Jvm.Cond.methodLinkNest "PackStore$Row" (35 : Nat) ({ cls := "PackStore", name := "hashStep", desc := "(II)I" } : Jvm.MethodName) "PackStore") ∈ lw_tbl := vm_t (vm_2 (List.mem_of_getElem? (i := 74) rfl))
theorem vw2_75 : (Jvm.Cond.methodLink "PackStore" (108 : Nat) ({ cls := "PackStore$Item", name := "id", desc := "()I" } : Jvm.MethodName)) ∈ vWS := vm_g (vm_t (vm_2 (List.mem_of_getElem? (i := 75) rfl))) rfl
theorem vw2_76 : (Jvm.Cond.instanceMethod ({ cls := "PackStore$Item", name := "id", desc := "()I" } : Jvm.MethodName)) ∈ vWS := vm_g (vm_t (vm_2 (List.mem_of_getElem? (i := 76) rfl))) rfl
theorem vw2_77 : (Jvm.Cond.selects "PackStore$Item" ({ cls := "PackStore$Item", name := "id", desc := "()I" } : Jvm.MethodName) ({ cls := "PackStore$Item", name := "id", desc := "()I" } : Jvm.MethodName)) ∈ vWS := vm_g (vm_t (vm_2 (List.mem_of_getElem? (i := 77) rfl))) rfl
theorem vw2_78 : (Jvm.Cond.code ({ cls := "PackStore$Item", name := "id", desc := "()I" } : Jvm.MethodName) prog_6_method_3_code (1 : Nat) (Option.some Jvm.ClassFile.FieldType.int)) ∈ vWS := vm_g (vm_t (vm_2 (List.mem_of_getElem? (i := 78) rfl))) rfl
theorem vw2_79 : (Jvm.Cond.methodLink "PackStore" (111 : Nat) ({ cls := "PackStore$Shelf", name := "find", desc := "(I)I" } : Jvm.MethodName)) ∈ vWS := vm_g (vm_t (vm_2 (List.mem_of_getElem? (i := 79) rfl))) rfl
theorem vw2_80 : (Jvm.Cond.instanceMethod ({ cls := "PackStore$Shelf", name := "find", desc := "(I)I" } : Jvm.MethodName)) ∈ vWS := vm_g (vm_t (vm_2 (List.mem_of_getElem? (i := 80) rfl))) rfl
theorem vw2_81 : (Jvm.Cond.selects "PackStore$Shelf" ({ cls := "PackStore$Shelf", name := "find", desc := "(I)I" } : Jvm.MethodName) ({ cls := "PackStore$Shelf", name := "find", desc := "(I)I" } : Jvm.MethodName)) ∈ vWS := vm_g (vm_t (vm_2 (List.mem_of_getElem? (i := 81) rfl))) rfl
theorem vw2_82 : (Jvm.Cond.code ({ cls := "PackStore$Shelf", name := "find", desc := "(I)I" } : Jvm.MethodName) prog_11_method_6_code (3 : Nat) (Option.some Jvm.ClassFile.FieldType.int)) ∈ vWS := vm_g (vm_t (vm_2 (List.mem_of_getElem? (i := 82) rfl))) rfl
theorem vw2_83 : (Jvm.Cond.methodLink "PackStore$Shelf" (20 : Nat) ({ cls := "PackStore$Item", name := "id", desc := "()I" } : Jvm.MethodName)) ∈ vWS := vm_g (vm_t (vm_2 (List.mem_of_getElem? (i := 83) rfl))) rfl
theorem vw2_84 : (Jvm.Cond.methodLink "PackStore" (114 : Nat) ({ cls := "PackStore$Shelf", name := "get", desc := "(I)LPackStore$Item;" } : Jvm.MethodName)) ∈ vWS := vm_g (vm_t (vm_2 (List.mem_of_getElem? (i := 84) rfl))) rfl
theorem vw2_85 : (Jvm.Cond.instanceMethod ({ cls := "PackStore$Shelf", name := "get", desc := "(I)LPackStore$Item;" } : Jvm.MethodName)) ∈ vWS := vm_g (vm_t (vm_2 (List.mem_of_getElem? (i := 85) rfl))) rfl
theorem vw2_86 : (Jvm.Cond.selects "PackStore$Shelf" ({ cls := "PackStore$Shelf", name := "get", desc := "(I)LPackStore$Item;" } : Jvm.MethodName) ({ cls := "PackStore$Shelf", name := "get", desc := "(I)LPackStore$Item;" } : Jvm.MethodName)) ∈ vWS := vm_g (vm_t (vm_2 (List.mem_of_getElem? (i := 86) rfl))) rfl
theorem vw2_87 : (Jvm.Cond.code ({ cls := "PackStore$Shelf", name := "get", desc := "(I)LPackStore$Item;" } : Jvm.MethodName) prog_11_method_4_code (2 : Nat) (Option.some (Jvm.ClassFile.FieldType.object "PackStore$Item"))) ∈ vWS := vm_g (vm_t (vm_2 (List.mem_of_getElem? (i := 87) rfl))) rfl
theorem vw2_88 : (Jvm.Cond.methodLink "PackStore" (117 : Nat) ({ cls := "PackStore$Item", name := "isSame", desc := "(LPackStore$Item;)Z" } : Jvm.MethodName)) ∈ vWS := vm_g (vm_t (vm_2 (List.mem_of_getElem? (i := 88) rfl))) rfl
theorem vw2_89 : (Jvm.Cond.instanceMethod ({ cls := "PackStore$Item", name := "isSame", desc := "(LPackStore$Item;)Z" } : Jvm.MethodName)) ∈ vWS := vm_g (vm_t (vm_2 (List.mem_of_getElem? (i := 89) rfl))) rfl
theorem vw2_90 : (Jvm.Cond.selects "PackStore$Item" ({ cls := "PackStore$Item", name := "isSame", desc := "(LPackStore$Item;)Z" } : Jvm.MethodName) ({ cls := "PackStore$Item", name := "isSame", desc := "(LPackStore$Item;)Z" } : Jvm.MethodName)) ∈ vWS := vm_g (vm_t (vm_2 (List.mem_of_getElem? (i := 90) rfl))) rfl
theorem vw2_91 : (Jvm.Cond.code ({ cls := "PackStore$Item", name := "isSame", desc := "(LPackStore$Item;)Z" } : Jvm.MethodName) prog_6_method_7_code (2 : Nat) (Option.some Jvm.ClassFile.FieldType.boolean)) ∈ vWS := vm_g (vm_t (vm_2 (List.mem_of_getElem? (i := 91) rfl))) rfl
theorem vw2_92 : (Jvm.Cond.methodLink "PackStore$Item" (48 : Nat) ({ cls := "PackStore$Row", name := "isSame", desc := "(LPackStore$Row;)Z" } : Jvm.MethodName)) ∈ vWS := vm_g (vm_t (vm_2 (List.mem_of_getElem? (i := 92) rfl))) rfl
theorem vw2_93 : (Jvm.Cond.instanceMethod ({ cls := "PackStore$Row", name := "isSame", desc := "(LPackStore$Row;)Z" } : Jvm.MethodName)) ∈ vWS := vm_g (vm_t (vm_2 (List.mem_of_getElem? (i := 93) rfl))) rfl
theorem vw2_94 : (Jvm.Cond.selects "PackStore$Row" ({ cls := "PackStore$Row", name := "isSame", desc := "(LPackStore$Row;)Z" } : Jvm.MethodName) ({ cls := "PackStore$Row", name := "isSame", desc := "(LPackStore$Row;)Z" } : Jvm.MethodName)) ∈ vWS := vm_g (vm_t (vm_2 (List.mem_of_getElem? (i := 94) rfl))) rfl
theorem vw2_95 : (Jvm.Cond.code ({ cls := "PackStore$Row", name := "isSame", desc := "(LPackStore$Row;)Z" } : Jvm.MethodName) prog_10_method_13_code (3 : Nat) (Option.some Jvm.ClassFile.FieldType.boolean)) ∈ vWS := vm_g (vm_t (vm_2 (List.mem_of_getElem? (i := 95) rfl))) rfl
theorem vw2_96 : (Jvm.Cond.methodLink "PackStore" (121 : Nat) ({ cls := "PackStore$Shelf", name := "left", desc := "()I" } : Jvm.MethodName)) ∈ vWS := vm_g (vm_t (vm_2 (List.mem_of_getElem? (i := 96) rfl))) rfl
theorem vw2_97 : (Jvm.Cond.instanceMethod ({ cls := "PackStore$Shelf", name := "left", desc := "()I" } : Jvm.MethodName)) ∈ vWS := vm_g (vm_t (vm_2 (List.mem_of_getElem? (i := 97) rfl))) rfl
theorem vw2_98 : (Jvm.Cond.selects "PackStore$Shelf" ({ cls := "PackStore$Shelf", name := "left", desc := "()I" } : Jvm.MethodName) ({ cls := "PackStore$Shelf", name := "left", desc := "()I" } : Jvm.MethodName)) ∈ vWS := vm_g (vm_t (vm_2 (List.mem_of_getElem? (i := 98) rfl))) rfl
theorem vw2_99 : (Jvm.Cond.code ({ cls := "PackStore$Shelf", name := "left", desc := "()I" } : Jvm.MethodName) prog_11_method_3_code (1 : Nat) (Option.some Jvm.ClassFile.FieldType.int)) ∈ vWS := vm_g (vm_t (vm_2 (List.mem_of_getElem? (i := 99) rfl))) rfl
theorem vw2_100 : (Jvm.Cond.methodLink "PackStore" (122 : Nat) ({ cls := "PackStore$Item", name := "isWellFormed", desc := "()Z" } : Jvm.MethodName)) ∈ vWS := vm_g (vm_t (vm_2 (List.mem_of_getElem? (i := 100) rfl))) rfl
theorem vw2_101 : (Jvm.Cond.instanceMethod ({ cls := "PackStore$Item", name := "isWellFormed", desc := "()Z" } : Jvm.MethodName)) ∈ vWS := vm_g (vm_t (vm_2 (List.mem_of_getElem? (i := 101) rfl))) rfl
theorem vw2_102 : (Jvm.Cond.selects "PackStore$Item" ({ cls := "PackStore$Item", name := "isWellFormed", desc := "()Z" } : Jvm.MethodName) ({ cls := "PackStore$Item", name := "isWellFormed", desc := "()Z" } : Jvm.MethodName)) ∈ vWS := vm_g (vm_t (vm_2 (List.mem_of_getElem? (i := 102) rfl))) rfl
theorem vw2_103 : (Jvm.Cond.code ({ cls := "PackStore$Item", name := "isWellFormed", desc := "()Z" } : Jvm.MethodName) prog_6_method_9_code (2 : Nat) (Option.some Jvm.ClassFile.FieldType.boolean)) ∈ vWS := vm_g (vm_t (vm_2 (List.mem_of_getElem? (i := 103) rfl))) rfl
theorem vw2_104 : (Jvm.Cond.methodLink "PackStore$Item" (55 : Nat) ({ cls := "PackStore$Item", name := "hasRisingNames", desc := "()Z" } : Jvm.MethodName)) ∈ vWS := vm_g (vm_t (vm_2 (List.mem_of_getElem? (i := 104) rfl))) rfl
theorem vw2_106 : (Jvm.Cond.instanceMethod ({ cls := "PackStore$Item", name := "hasRisingNames", desc := "()Z" } : Jvm.MethodName)) ∈ vWS := vm_g (vm_t (vm_2 (List.mem_of_getElem? (i := 106) rfl))) rfl
theorem vw2_107 : (Jvm.Cond.code ({ cls := "PackStore$Item", name := "hasRisingNames", desc := "()Z" } : Jvm.MethodName) prog_6_method_10_code (2 : Nat) (Option.some Jvm.ClassFile.FieldType.boolean)) ∈ vWS := vm_g (vm_t (vm_2 (List.mem_of_getElem? (i := 107) rfl))) rfl
theorem vw2_108 : (Jvm.Cond.methodLink "PackStore$Item" (59 : Nat) ({ cls := "PackStore$Row", name := "get", desc := "(I)I" } : Jvm.MethodName)) ∈ vWS := vm_g (vm_t (vm_2 (List.mem_of_getElem? (i := 108) rfl))) rfl
theorem vw2_109 : (Jvm.Cond.methodLink "PackStore" (126 : Nat) ({ cls := "PackStore$Shelf", name := "holdsAllNamed", desc := "(LPackStore$Item;)Z" } : Jvm.MethodName)) ∈ vWS := vm_g (vm_t (vm_2 (List.mem_of_getElem? (i := 109) rfl))) rfl
theorem vw2_110 : (Jvm.Cond.instanceMethod ({ cls := "PackStore$Shelf", name := "holdsAllNamed", desc := "(LPackStore$Item;)Z" } : Jvm.MethodName)) ∈ vWS := vm_g (vm_t (vm_2 (List.mem_of_getElem? (i := 110) rfl))) rfl
theorem vw2_111 : (Jvm.Cond.selects "PackStore$Shelf" ({ cls := "PackStore$Shelf", name := "holdsAllNamed", desc := "(LPackStore$Item;)Z" } : Jvm.MethodName) ({ cls := "PackStore$Shelf", name := "holdsAllNamed", desc := "(LPackStore$Item;)Z" } : Jvm.MethodName)) ∈ vWS := vm_g (vm_t (vm_2 (List.mem_of_getElem? (i := 111) rfl))) rfl
theorem vw2_112 : (Jvm.Cond.code ({ cls := "PackStore$Shelf", name := "holdsAllNamed", desc := "(LPackStore$Item;)Z" } : Jvm.MethodName) prog_11_method_9_code (3 : Nat) (Option.some Jvm.ClassFile.FieldType.boolean)) ∈ vWS := vm_g (vm_t (vm_2 (List.mem_of_getElem? (i := 112) rfl))) rfl
theorem vw2_113 : (Jvm.Cond.methodLink "PackStore$Shelf" (46 : Nat) ({ cls := "PackStore$Item", name := "namedItems", desc := "()I" } : Jvm.MethodName)) ∈ vWS := vm_g (vm_t (vm_2 (List.mem_of_getElem? (i := 113) rfl))) rfl
theorem vw2_114 : (Jvm.Cond.instanceMethod ({ cls := "PackStore$Item", name := "namedItems", desc := "()I" } : Jvm.MethodName)) ∈ vWS := vm_g (vm_t (vm_2 (List.mem_of_getElem? (i := 114) rfl))) rfl
theorem vw2_115 : (Jvm.Cond.selects "PackStore$Item" ({ cls := "PackStore$Item", name := "namedItems", desc := "()I" } : Jvm.MethodName) ({ cls := "PackStore$Item", name := "namedItems", desc := "()I" } : Jvm.MethodName)) ∈ vWS := vm_g (vm_t (vm_2 (List.mem_of_getElem? (i := 115) rfl))) rfl
theorem vw2_116 : (Jvm.Cond.code ({ cls := "PackStore$Item", name := "namedItems", desc := "()I" } : Jvm.MethodName) prog_6_method_11_code (1 : Nat) (Option.some Jvm.ClassFile.FieldType.int)) ∈ vWS := vm_g (vm_t (vm_2 (List.mem_of_getElem? (i := 116) rfl))) rfl
theorem vw2_117 : (Jvm.Cond.methodLink "PackStore$Shelf" (49 : Nat) ({ cls := "PackStore$Shelf", name := "findNamed", desc := "(LPackStore$Item;I)I" } : Jvm.MethodName)) ∈ vWS := vm_g (vm_t (vm_2 (List.mem_of_getElem? (i := 117) rfl))) rfl
theorem vw2_118 : (Jvm.Cond.instanceMethod ({ cls := "PackStore$Shelf", name := "findNamed", desc := "(LPackStore$Item;I)I" } : Jvm.MethodName)) ∈ vWS := vm_g (vm_t (vm_2 (List.mem_of_getElem? (i := 118) rfl))) rfl
theorem vw2_119 : (Jvm.Cond.selects "PackStore$Shelf" ({ cls := "PackStore$Shelf", name := "findNamed", desc := "(LPackStore$Item;I)I" } : Jvm.MethodName) ({ cls := "PackStore$Shelf", name := "findNamed", desc := "(LPackStore$Item;I)I" } : Jvm.MethodName)) ∈ vWS := vm_g (vm_t (vm_2 (List.mem_of_getElem? (i := 119) rfl))) rfl
theorem vw2_120 : (Jvm.Cond.code ({ cls := "PackStore$Shelf", name := "findNamed", desc := "(LPackStore$Item;I)I" } : Jvm.MethodName) prog_11_method_8_code (4 : Nat) (Option.some Jvm.ClassFile.FieldType.int)) ∈ vWS := vm_g (vm_t (vm_2 (List.mem_of_getElem? (i := 120) rfl))) rfl
theorem vw2_121 : (Jvm.Cond.methodLink "PackStore$Shelf" (35 : Nat) ({ cls := "PackStore$Item", name := "namedId", desc := "(I)I" } : Jvm.MethodName)) ∈ vWS := vm_g (vm_t (vm_2 (List.mem_of_getElem? (i := 121) rfl))) rfl
theorem vw2_122 : (Jvm.Cond.instanceMethod ({ cls := "PackStore$Item", name := "namedId", desc := "(I)I" } : Jvm.MethodName)) ∈ vWS := vm_g (vm_t (vm_2 (List.mem_of_getElem? (i := 122) rfl))) rfl
theorem vw2_123 : (Jvm.Cond.selects "PackStore$Item" ({ cls := "PackStore$Item", name := "namedId", desc := "(I)I" } : Jvm.MethodName) ({ cls := "PackStore$Item", name := "namedId", desc := "(I)I" } : Jvm.MethodName)) ∈ vWS := vm_g (vm_t (vm_2 (List.mem_of_getElem? (i := 123) rfl))) rfl
theorem vw2_124 : (Jvm.Cond.code ({ cls := "PackStore$Item", name := "namedId", desc := "(I)I" } : Jvm.MethodName) prog_6_method_12_code (2 : Nat) (Option.some Jvm.ClassFile.FieldType.int)) ∈ vWS := vm_g (vm_t (vm_2 (List.mem_of_getElem? (i := 124) rfl))) rfl
theorem vw2_125 : (Jvm.Cond.methodLink "PackStore$Item" (63 : Nat) ({ cls := "PackStore$Row", name := "getTwo", desc := "(I)I" } : Jvm.MethodName)) ∈ vWS := vm_g (vm_t (vm_2 (List.mem_of_getElem? (i := 125) rfl))) rfl
theorem vw2_126 : (Jvm.Cond.instanceMethod ({ cls := "PackStore$Row", name := "getTwo", desc := "(I)I" } : Jvm.MethodName)) ∈ vWS := vm_g (vm_t (vm_2 (List.mem_of_getElem? (i := 126) rfl))) rfl
theorem vw2_127 : (Jvm.Cond.selects "PackStore$Row" ({ cls := "PackStore$Row", name := "getTwo", desc := "(I)I" } : Jvm.MethodName) ({ cls := "PackStore$Row", name := "getTwo", desc := "(I)I" } : Jvm.MethodName)) ∈ vWS := vm_g (vm_t (vm_2 (List.mem_of_getElem? (i := 127) rfl))) rfl
theorem vw2_128 : (Jvm.Cond.code ({ cls := "PackStore$Row", name := "getTwo", desc := "(I)I" } : Jvm.MethodName) prog_10_method_5_code (2 : Nat) (Option.some Jvm.ClassFile.FieldType.int)) ∈ vWS := vm_g (vm_t (vm_2 (List.mem_of_getElem? (i := 128) rfl))) rfl
theorem vw2_129 : (Jvm.Cond.methodLink "PackStore$Row" (17 : Nat) ({ cls := "PackStore$Row", name := "get", desc := "(I)I" } : Jvm.MethodName)) ∈ vWS := vm_g (vm_t (vm_2 (List.mem_of_getElem? (i := 129) rfl))) rfl
theorem vw2_130 : (Jvm.Cond.methodLink "PackStore$Shelf" (39 : Nat) ({ cls := "PackStore$Shelf", name := "find", desc := "(I)I" } : Jvm.MethodName)) ∈ vWS := vm_g (vm_t (vm_2 (List.mem_of_getElem? (i := 130) rfl))) rfl
theorem vw2_131 : (Jvm.Cond.methodLink "PackStore$Shelf" (24 : Nat) ({ cls := "PackStore$Item", name := "sort", desc := "()I" } : Jvm.MethodName)) ∈ vWS := vm_g (vm_t (vm_2 (List.mem_of_getElem? (i := 131) rfl))) rfl
theorem vw2_132 : (Jvm.Cond.instanceMethod ({ cls := "PackStore$Item", name := "sort", desc := "()I" } : Jvm.MethodName)) ∈ vWS := vm_g (vm_t (vm_2 (List.mem_of_getElem? (i := 132) rfl))) rfl
theorem vw2_133 : (Jvm.Cond.selects "PackStore$Item" ({ cls := "PackStore$Item", name := "sort", desc := "()I" } : Jvm.MethodName) ({ cls := "PackStore$Item", name := "sort", desc := "()I" } : Jvm.MethodName)) ∈ vWS := vm_g (vm_t (vm_2 (List.mem_of_getElem? (i := 133) rfl))) rfl
theorem vw2_134 : (Jvm.Cond.code ({ cls := "PackStore$Item", name := "sort", desc := "()I" } : Jvm.MethodName) prog_6_method_2_code (1 : Nat) (Option.some Jvm.ClassFile.FieldType.int)) ∈ vWS := vm_g (vm_t (vm_2 (List.mem_of_getElem? (i := 134) rfl))) rfl
theorem vw2_135 : (Jvm.Cond.methodLink "PackStore$Shelf" (42 : Nat) ({ cls := "PackStore$Item", name := "mayName", desc := "(II)Z" } : Jvm.MethodName)) ∈ vWS := vm_g (vm_t (vm_2 (List.mem_of_getElem? (i := 135) rfl))) rfl
theorem vw2_136 : (Jvm.Cond.instanceMethod ({ cls := "PackStore$Item", name := "mayName", desc := "(II)Z" } : Jvm.MethodName)) ∈ vWS := vm_g (vm_t (vm_2 (List.mem_of_getElem? (i := 136) rfl))) rfl
theorem vw2_137 : (Jvm.Cond.selects "PackStore$Item" ({ cls := "PackStore$Item", name := "mayName", desc := "(II)Z" } : Jvm.MethodName) ({ cls := "PackStore$Item", name := "mayName", desc := "(II)Z" } : Jvm.MethodName)) ∈ vWS := vm_g (vm_t (vm_2 (List.mem_of_getElem? (i := 137) rfl))) rfl
theorem vw2_138 : (Jvm.Cond.code ({ cls := "PackStore$Item", name := "mayName", desc := "(II)Z" } : Jvm.MethodName) prog_6_method_13_code (3 : Nat) (Option.some Jvm.ClassFile.FieldType.boolean)) ∈ vWS := vm_g (vm_t (vm_2 (List.mem_of_getElem? (i := 138) rfl))) rfl
theorem vw2_139 : (Jvm.Cond.methodLink "PackStore" (129 : Nat) ({ cls := "PackStore$Shelf", name := "keep", desc := "(LPackStore$Item;)V" } : Jvm.MethodName)) ∈ vWS := vm_g (vm_t (vm_2 (List.mem_of_getElem? (i := 139) rfl))) rfl
theorem vw2_140 : (Jvm.Cond.instanceMethod ({ cls := "PackStore$Shelf", name := "keep", desc := "(LPackStore$Item;)V" } : Jvm.MethodName)) ∈ vWS := vm_g (vm_t (vm_2 (List.mem_of_getElem? (i := 140) rfl))) rfl
theorem vw2_141 : (Jvm.Cond.selects "PackStore$Shelf" ({ cls := "PackStore$Shelf", name := "keep", desc := "(LPackStore$Item;)V" } : Jvm.MethodName) ({ cls := "PackStore$Shelf", name := "keep", desc := "(LPackStore$Item;)V" } : Jvm.MethodName)) ∈ vWS := vm_g (vm_t (vm_2 (List.mem_of_getElem? (i := 141) rfl))) rfl
theorem vw2_142 : (Jvm.Cond.code ({ cls := "PackStore$Shelf", name := "keep", desc := "(LPackStore$Item;)V" } : Jvm.MethodName) prog_11_method_7_code (2 : Nat) (Option.none : Option Jvm.ClassFile.FieldType)) ∈ vWS := vm_g (vm_t (vm_2 (List.mem_of_getElem? (i := 142) rfl))) rfl
theorem vw2_143 : (Jvm.Cond.methodLink "PackStore$Shelf" (27 : Nat) ({ cls := "PackStore$Item", name := "bytes", desc := "()LPackStore$Row;" } : Jvm.MethodName)) ∈ vWS := vm_g (vm_t (vm_2 (List.mem_of_getElem? (i := 143) rfl))) rfl
theorem vw2_144 : (Jvm.Cond.instanceMethod ({ cls := "PackStore$Item", name := "bytes", desc := "()LPackStore$Row;" } : Jvm.MethodName)) ∈ vWS := vm_g (vm_t (vm_2 (List.mem_of_getElem? (i := 144) rfl))) rfl
theorem vw2_145 : (Jvm.Cond.selects "PackStore$Item" ({ cls := "PackStore$Item", name := "bytes", desc := "()LPackStore$Row;" } : Jvm.MethodName) ({ cls := "PackStore$Item", name := "bytes", desc := "()LPackStore$Row;" } : Jvm.MethodName)) ∈ vWS := vm_g (vm_t (vm_2 (List.mem_of_getElem? (i := 145) rfl))) rfl
theorem vw2_146 : (Jvm.Cond.code ({ cls := "PackStore$Item", name := "bytes", desc := "()LPackStore$Row;" } : Jvm.MethodName) prog_6_method_4_code (1 : Nat) (Option.some (Jvm.ClassFile.FieldType.object "PackStore$Row"))) ∈ vWS := vm_g (vm_t (vm_2 (List.mem_of_getElem? (i := 146) rfl))) rfl
theorem vw2_147 : (Jvm.Cond.methodLink "PackStore$Shelf" (31 : Nat) ({ cls := "PackStore$Item", name := "fill", desc := "(ILPackStore$Row;)V" } : Jvm.MethodName)) ∈ vWS := vm_g (vm_t (vm_2 (List.mem_of_getElem? (i := 147) rfl))) rfl
theorem vw2_148 : (Jvm.Cond.methodLink "PackStore" (133 : Nat) ({ cls := "PackStore$Row", name := "clear", desc := "()V" } : Jvm.MethodName)) ∈ vWS := vm_g (vm_t (vm_2 (List.mem_of_getElem? (i := 148) rfl))) rfl
theorem vw2_149 : (Jvm.Cond.methodLink "PackStoreLaw" (41 : Nat) ({ cls := "PackStore", name := "point", desc := "(II)Z" } : Jvm.MethodName)) ∈ vWS := vm_g (vm_t (vm_2 (List.mem_of_getElem? (i := 149) rfl))) rfl
theorem vw2_150 : (Jvm.Cond.instanceMethod ({ cls := "PackStore", name := "point", desc := "(II)Z" } : Jvm.MethodName)) ∈ vWS := vm_g (vm_t (vm_2 (List.mem_of_getElem? (i := 150) rfl))) rfl
theorem vw2_151 : (Jvm.Cond.selects "PackStore" ({ cls := "PackStore", name := "point", desc := "(II)Z" } : Jvm.MethodName) ({ cls := "PackStore", name := "point", desc := "(II)Z" } : Jvm.MethodName)) ∈ vWS := vm_g (vm_t (vm_2 (List.mem_of_getElem? (i := 151) rfl))) rfl
theorem vw2_152 : (Jvm.Cond.code ({ cls := "PackStore", name := "point", desc := "(II)Z" } : Jvm.MethodName) prog_1_method_8_code (4 : Nat) (Option.some Jvm.ClassFile.FieldType.boolean)) ∈ vWS := vm_g (vm_t (vm_2 (List.mem_of_getElem? (i := 152) rfl))) rfl
theorem vw2_153 : (Jvm.Cond.methodLink "PackStore" (136 : Nat) ({ cls := "PackStore$Item", name := "sort", desc := "()I" } : Jvm.MethodName)) ∈ vWS := vm_g (vm_t (vm_2 (List.mem_of_getElem? (i := 153) rfl))) rfl
theorem vw2_154 : (Jvm.Cond.methodLink "PackStoreLaw" (45 : Nat) ({ cls := "PackStore", name := "ref", desc := "(I)I" } : Jvm.MethodName)) ∈ vWS := vm_g (vm_t (vm_2 (List.mem_of_getElem? (i := 154) rfl))) rfl
theorem vw2_155 : (Jvm.Cond.instanceMethod ({ cls := "PackStore", name := "ref", desc := "(I)I" } : Jvm.MethodName)) ∈ vWS := vm_g (vm_t (vm_2 (List.mem_of_getElem? (i := 155) rfl))) rfl
theorem vw2_156 : (Jvm.Cond.selects "PackStore" ({ cls := "PackStore", name := "ref", desc := "(I)I" } : Jvm.MethodName) ({ cls := "PackStore", name := "ref", desc := "(I)I" } : Jvm.MethodName)) ∈ vWS := vm_g (vm_t (vm_2 (List.mem_of_getElem? (i := 156) rfl))) rfl
theorem vw2_157 : (Jvm.Cond.code ({ cls := "PackStore", name := "ref", desc := "(I)I" } : Jvm.MethodName) prog_1_method_9_code (2 : Nat) (Option.some Jvm.ClassFile.FieldType.int)) ∈ vWS := vm_g (vm_t (vm_2 (List.mem_of_getElem? (i := 157) rfl))) rfl
theorem vw2_158 : (Jvm.Cond.methodLink "PackStoreLaw" (49 : Nat) ({ cls := "PackStore", name := "want", desc := "(I)Z" } : Jvm.MethodName)) ∈ vWS := vm_g (vm_t (vm_2 (List.mem_of_getElem? (i := 158) rfl))) rfl
theorem vw2_159 : (Jvm.Cond.instanceMethod ({ cls := "PackStore", name := "want", desc := "(I)Z" } : Jvm.MethodName)) ∈ vWS := vm_g (vm_t (vm_2 (List.mem_of_getElem? (i := 159) rfl))) rfl
theorem vw2_160 : (Jvm.Cond.selects "PackStore" ({ cls := "PackStore", name := "want", desc := "(I)Z" } : Jvm.MethodName) ({ cls := "PackStore", name := "want", desc := "(I)Z" } : Jvm.MethodName)) ∈ vWS := vm_g (vm_t (vm_2 (List.mem_of_getElem? (i := 160) rfl))) rfl
theorem vw2_161 : (Jvm.Cond.code ({ cls := "PackStore", name := "want", desc := "(I)Z" } : Jvm.MethodName) prog_1_method_10_code (2 : Nat) (Option.some Jvm.ClassFile.FieldType.boolean)) ∈ vWS := vm_g (vm_t (vm_2 (List.mem_of_getElem? (i := 161) rfl))) rfl
theorem vw2_162 : (Jvm.Cond.methodLink "PackStore" (139 : Nat) ({ cls := "PackStore", name := "isLedTo", desc := "(I)Z" } : Jvm.MethodName)) ∈ vWS := vm_g (vm_t (vm_2 (List.mem_of_getElem? (i := 162) rfl))) rfl
theorem vw2_164 : (Jvm.Cond.instanceMethod ({ cls := "PackStore", name := "isLedTo", desc := "(I)Z" } : Jvm.MethodName)) ∈ vWS := vm_g (vm_t (vm_2 (List.mem_of_getElem? (i := 164) rfl))) rfl
theorem vw2_165 : (Jvm.Cond.code ({ cls := "PackStore", name := "isLedTo", desc := "(I)Z" } : Jvm.MethodName) prog_1_method_20_code (3 : Nat) (Option.some Jvm.ClassFile.FieldType.boolean)) ∈ vWS := vm_g (vm_t (vm_2 (List.mem_of_getElem? (i := 165) rfl))) rfl
theorem vw2_166 : (Jvm.Cond.methodLink "PackStore" (142 : Nat) ({ cls := "PackStore$IdList", name := "add", desc := "(I)Z" } : Jvm.MethodName)) ∈ vWS := vm_g (vm_t (vm_2 (List.mem_of_getElem? (i := 166) rfl))) rfl
theorem vw2_167 : (Jvm.Cond.instanceMethod ({ cls := "PackStore$IdList", name := "add", desc := "(I)Z" } : Jvm.MethodName)) ∈ vWS := vm_g (vm_t (vm_2 (List.mem_of_getElem? (i := 167) rfl))) rfl
theorem vw2_168 : (Jvm.Cond.selects "PackStore$IdList" ({ cls := "PackStore$IdList", name := "add", desc := "(I)Z" } : Jvm.MethodName) ({ cls := "PackStore$IdList", name := "add", desc := "(I)Z" } : Jvm.MethodName)) ∈ vWS := vm_g (vm_t (vm_2 (List.mem_of_getElem? (i := 168) rfl))) rfl
theorem vw2_169 : (Jvm.Cond.code ({ cls := "PackStore$IdList", name := "add", desc := "(I)Z" } : Jvm.MethodName) prog_5_method_5_code (3 : Nat) (Option.some Jvm.ClassFile.FieldType.boolean)) ∈ vWS := vm_g (vm_t (vm_2 (List.mem_of_getElem? (i := 169) rfl))) rfl
theorem vw2_170 : (Jvm.Cond.methodLink "PackStoreLaw" (53 : Nat) ({ cls := "PackStore", name := "have", desc := "(I)Z" } : Jvm.MethodName)) ∈ vWS := vm_g (vm_t (vm_2 (List.mem_of_getElem? (i := 170) rfl))) rfl
theorem vw2_171 : (Jvm.Cond.instanceMethod ({ cls := "PackStore", name := "have", desc := "(I)Z" } : Jvm.MethodName)) ∈ vWS := vm_g (vm_t (vm_2 (List.mem_of_getElem? (i := 171) rfl))) rfl
theorem vw2_172 : (Jvm.Cond.selects "PackStore" ({ cls := "PackStore", name := "have", desc := "(I)Z" } : Jvm.MethodName) ({ cls := "PackStore", name := "have", desc := "(I)Z" } : Jvm.MethodName)) ∈ vWS := vm_g (vm_t (vm_2 (List.mem_of_getElem? (i := 172) rfl))) rfl
theorem vw2_173 : (Jvm.Cond.code ({ cls := "PackStore", name := "have", desc := "(I)Z" } : Jvm.MethodName) prog_1_method_11_code (2 : Nat) (Option.some Jvm.ClassFile.FieldType.boolean)) ∈ vWS := vm_g (vm_t (vm_2 (List.mem_of_getElem? (i := 173) rfl))) rfl
theorem vw2_174 : (Jvm.Cond.methodLink "PackStoreLaw" (57 : Nat) ({ cls := "PackStore", name := "serve", desc := "()I" } : Jvm.MethodName)) ∈ vWS := vm_g (vm_t (vm_2 (List.mem_of_getElem? (i := 174) rfl))) rfl
theorem vw2_175 : (Jvm.Cond.instanceMethod ({ cls := "PackStore", name := "serve", desc := "()I" } : Jvm.MethodName)) ∈ vWS := vm_g (vm_t (vm_2 (List.mem_of_getElem? (i := 175) rfl))) rfl
theorem vw2_176 : (Jvm.Cond.selects "PackStore" ({ cls := "PackStore", name := "serve", desc := "()I" } : Jvm.MethodName) ({ cls := "PackStore", name := "serve", desc := "()I" } : Jvm.MethodName)) ∈ vWS := vm_g (vm_t (vm_2 (List.mem_of_getElem? (i := 176) rfl))) rfl
theorem vw2_177 : (Jvm.Cond.code ({ cls := "PackStore", name := "serve", desc := "()I" } : Jvm.MethodName) prog_1_method_12_code (2 : Nat) (Option.some Jvm.ClassFile.FieldType.int)) ∈ vWS := vm_g (vm_t (vm_2 (List.mem_of_getElem? (i := 177) rfl))) rfl
theorem vw2_178 : (Jvm.Cond.methodLink "PackStore" (144 : Nat) ({ cls := "PackStore$IdList", name := "used", desc := "()I" } : Jvm.MethodName)) ∈ vWS := vm_g (vm_t (vm_2 (List.mem_of_getElem? (i := 178) rfl))) rfl
theorem vw2_179 : (Jvm.Cond.instanceMethod ({ cls := "PackStore$IdList", name := "used", desc := "()I" } : Jvm.MethodName)) ∈ vWS := vm_g (vm_t (vm_2 (List.mem_of_getElem? (i := 179) rfl))) rfl
theorem vw2_180 : (Jvm.Cond.selects "PackStore$IdList" ({ cls := "PackStore$IdList", name := "used", desc := "()I" } : Jvm.MethodName) ({ cls := "PackStore$IdList", name := "used", desc := "()I" } : Jvm.MethodName)) ∈ vWS := vm_g (vm_t (vm_2 (List.mem_of_getElem? (i := 180) rfl))) rfl
theorem vw2_181 : (Jvm.Cond.code ({ cls := "PackStore$IdList", name := "used", desc := "()I" } : Jvm.MethodName) prog_5_method_2_code (1 : Nat) (Option.some Jvm.ClassFile.FieldType.int)) ∈ vWS := vm_g (vm_t (vm_2 (List.mem_of_getElem? (i := 181) rfl))) rfl
theorem vw2_182 : (Jvm.Cond.methodLink "PackStore" (145 : Nat) ({ cls := "PackStore$Closure", name := "clear", desc := "()V" } : Jvm.MethodName)) ∈ vWS := vm_g (vm_t (vm_2 (List.mem_of_getElem? (i := 182) rfl))) rfl
theorem vw2_183 : (Jvm.Cond.instanceMethod ({ cls := "PackStore$Closure", name := "clear", desc := "()V" } : Jvm.MethodName)) ∈ vWS := vm_g (vm_t (vm_2 (List.mem_of_getElem? (i := 183) rfl))) rfl
theorem vw2_184 : (Jvm.Cond.selects "PackStore$Closure" ({ cls := "PackStore$Closure", name := "clear", desc := "()V" } : Jvm.MethodName) ({ cls := "PackStore$Closure", name := "clear", desc := "()V" } : Jvm.MethodName)) ∈ vWS := vm_g (vm_t (vm_2 (List.mem_of_getElem? (i := 184) rfl))) rfl
theorem vw2_185 : (Jvm.Cond.code ({ cls := "PackStore$Closure", name := "clear", desc := "()V" } : Jvm.MethodName) prog_2_method_4_code (2 : Nat) (Option.none : Option Jvm.ClassFile.FieldType)) ∈ vWS := vm_g (vm_t (vm_2 (List.mem_of_getElem? (i := 185) rfl))) rfl
theorem vw2_186 : (Jvm.Cond.methodLink "PackStore" (146 : Nat) ({ cls := "PackStore$IdList", name := "get", desc := "(I)I" } : Jvm.MethodName)) ∈ vWS := vm_g (vm_t (vm_2 (List.mem_of_getElem? (i := 186) rfl))) rfl
theorem vw2_187 : (Jvm.Cond.instanceMethod ({ cls := "PackStore$IdList", name := "get", desc := "(I)I" } : Jvm.MethodName)) ∈ vWS := vm_g (vm_t (vm_2 (List.mem_of_getElem? (i := 187) rfl))) rfl
theorem vw2_188 : (Jvm.Cond.selects "PackStore$IdList" ({ cls := "PackStore$IdList", name := "get", desc := "(I)I" } : Jvm.MethodName) ({ cls := "PackStore$IdList", name := "get", desc := "(I)I" } : Jvm.MethodName)) ∈ vWS := vm_g (vm_t (vm_2 (List.mem_of_getElem? (i := 188) rfl))) rfl
theorem vw2_189 : (Jvm.Cond.code ({ cls := "PackStore$IdList", name := "get", desc := "(I)I" } : Jvm.MethodName) prog_5_method_3_code (2 : Nat) (Option.some Jvm.ClassFile.FieldType.int)) ∈ vWS := vm_g (vm_t (vm_2 (List.mem_of_getElem? (i := 189) rfl))) rfl
theorem vw2_190 : (Jvm.Cond.methodLink "PackStore" (147 : Nat) ({ cls := "PackStore$Closure", name := "include", desc := "(LPackStore$Shelf;I)Z" } : Jvm.MethodName)) ∈ vWS := vm_g (vm_t (vm_2 (List.mem_of_getElem? (i := 190) rfl))) rfl
theorem vw2_191 : (Jvm.Cond.instanceMethod ({ cls := "PackStore$Closure", name := "include", desc := "(LPackStore$Shelf;I)Z" } : Jvm.MethodName)) ∈ vWS := vm_g (vm_t (vm_2 (List.mem_of_getElem? (i := 191) rfl))) rfl
theorem vw2_192 : (Jvm.Cond.selects "PackStore$Closure" ({ cls := "PackStore$Closure", name := "include", desc := "(LPackStore$Shelf;I)Z" } : Jvm.MethodName) ({ cls := "PackStore$Closure", name := "include", desc := "(LPackStore$Shelf;I)Z" } : Jvm.MethodName)) ∈ vWS := vm_g (vm_t (vm_2 (List.mem_of_getElem? (i := 192) rfl))) rfl
theorem vw2_193 : (Jvm.Cond.code ({ cls := "PackStore$Closure", name := "include", desc := "(LPackStore$Shelf;I)Z" } : Jvm.MethodName) prog_2_method_5_code (6 : Nat) (Option.some Jvm.ClassFile.FieldType.boolean)) ∈ vWS := vm_g (vm_t (vm_2 (List.mem_of_getElem? (i := 193) rfl))) rfl
theorem vw2_194 : (Jvm.Cond.methodLink "PackStore$Closure" (21 : Nat) ({ cls := "PackStore$Shelf", name := "find", desc := "(I)I" } : Jvm.MethodName)) ∈ vWS := vm_g (vm_t (vm_2 (List.mem_of_getElem? (i := 194) rfl))) rfl
theorem vw2_195 : (Jvm.Cond.methodLink "PackStore$Closure" (27 : Nat) ({ cls := "PackStore$Closure", name := "mark", desc := "(I)V" } : Jvm.MethodName)) ∈ vWS := vm_g (vm_t (vm_2 (List.mem_of_getElem? (i := 195) rfl))) rfl
theorem vw2_197 : (Jvm.Cond.instanceMethod ({ cls := "PackStore$Closure", name := "mark", desc := "(I)V" } : Jvm.MethodName)) ∈ vWS := vm_g (vm_t (vm_2 (List.mem_of_getElem? (i := 197) rfl))) rfl
theorem vw2_198 : (Jvm.Cond.code ({ cls := "PackStore$Closure", name := "mark", desc := "(I)V" } : Jvm.MethodName) prog_2_method_7_code (2 : Nat) (Option.none : Option Jvm.ClassFile.FieldType)) ∈ vWS := vm_g (vm_t (vm_2 (List.mem_of_getElem? (i := 198) rfl))) rfl
theorem vw2_199 : (Jvm.Cond.methodLink "PackStore$Closure" (31 : Nat) ({ cls := "PackStore$Shelf", name := "get", desc := "(I)LPackStore$Item;" } : Jvm.MethodName)) ∈ vWS := vm_g (vm_t (vm_2 (List.mem_of_getElem? (i := 199) rfl))) rfl
theorem vw2_200 : (Jvm.Cond.methodLink "PackStore$Closure" (35 : Nat) ({ cls := "PackStore$Closure", name := "markNamed", desc := "(LPackStore$Shelf;LPackStore$Item;)Z" } : Jvm.MethodName)) ∈ vWS := vm_g (vm_t (vm_2 (List.mem_of_getElem? (i := 200) rfl))) rfl
theorem vw2_202 : (Jvm.Cond.instanceMethod ({ cls := "PackStore$Closure", name := "markNamed", desc := "(LPackStore$Shelf;LPackStore$Item;)Z" } : Jvm.MethodName)) ∈ vWS := vm_g (vm_t (vm_2 (List.mem_of_getElem? (i := 202) rfl))) rfl
theorem vw2_203 : (Jvm.Cond.code ({ cls := "PackStore$Closure", name := "markNamed", desc := "(LPackStore$Shelf;LPackStore$Item;)Z" } : Jvm.MethodName) prog_2_method_6_code (5 : Nat) (Option.some Jvm.ClassFile.FieldType.boolean)) ∈ vWS := vm_g (vm_t (vm_2 (List.mem_of_getElem? (i := 203) rfl))) rfl
theorem vw2_204 : (Jvm.Cond.methodLink "PackStore$Closure" (39 : Nat) ({ cls := "PackStore$Item", name := "namedItems", desc := "()I" } : Jvm.MethodName)) ∈ vWS := vm_g (vm_t (vm_2 (List.mem_of_getElem? (i := 204) rfl))) rfl
theorem vw2_205 : (Jvm.Cond.methodLink "PackStore$Closure" (45 : Nat) ({ cls := "PackStore$Shelf", name := "findNamed", desc := "(LPackStore$Item;I)I" } : Jvm.MethodName)) ∈ vWS := vm_g (vm_t (vm_2 (List.mem_of_getElem? (i := 205) rfl))) rfl
theorem vw2_206 : (Jvm.Cond.methodLink "PackStore" (151 : Nat) ({ cls := "PackStore$IdList", name := "clear", desc := "()V" } : Jvm.MethodName)) ∈ vWS := vm_g (vm_t (vm_2 (List.mem_of_getElem? (i := 206) rfl))) rfl
theorem vw2_207 : (Jvm.Cond.instanceMethod ({ cls := "PackStore$IdList", name := "clear", desc := "()V" } : Jvm.MethodName)) ∈ vWS := vm_g (vm_t (vm_2 (List.mem_of_getElem? (i := 207) rfl))) rfl
theorem vw2_208 : (Jvm.Cond.selects "PackStore$IdList" ({ cls := "PackStore$IdList", name := "clear", desc := "()V" } : Jvm.MethodName) ({ cls := "PackStore$IdList", name := "clear", desc := "()V" } : Jvm.MethodName)) ∈ vWS := vm_g (vm_t (vm_2 (List.mem_of_getElem? (i := 208) rfl))) rfl
theorem vw2_209 : (Jvm.Cond.code ({ cls := "PackStore$IdList", name := "clear", desc := "()V" } : Jvm.MethodName) prog_5_method_4_code (1 : Nat) (Option.none : Option Jvm.ClassFile.FieldType)) ∈ vWS := vm_g (vm_t (vm_2 (List.mem_of_getElem? (i := 209) rfl))) rfl
theorem vw2_210 : (Jvm.Cond.methodLink "PackStore" (152 : Nat) ({ cls := "PackStore$PackWriter", name := "write", desc := "(LPackStore$Closure;LPackStore$Closure;)I" } : Jvm.MethodName)) ∈ vWS := vm_g (vm_t (vm_2 (List.mem_of_getElem? (i := 210) rfl))) rfl
theorem vw2_211 : (Jvm.Cond.instanceMethod ({ cls := "PackStore$PackWriter", name := "write", desc := "(LPackStore$Closure;LPackStore$Closure;)I" } : Jvm.MethodName)) ∈ vWS := vm_g (vm_t (vm_2 (List.mem_of_getElem? (i := 211) rfl))) rfl
theorem vw2_212 : (Jvm.Cond.selects "PackStore$PackWriter" ({ cls := "PackStore$PackWriter", name := "write", desc := "(LPackStore$Closure;LPackStore$Closure;)I" } : Jvm.MethodName) ({ cls := "PackStore$PackWriter", name := "write", desc := "(LPackStore$Closure;LPackStore$Closure;)I" } : Jvm.MethodName)) ∈ vWS := vm_g (vm_t (vm_2 (List.mem_of_getElem? (i := 212) rfl))) rfl
theorem vw2_213 : (Jvm.Cond.code ({ cls := "PackStore$PackWriter", name := "write", desc := "(LPackStore$Closure;LPackStore$Closure;)I" } : Jvm.MethodName) prog_8_method_2_code (4 : Nat) (Option.some Jvm.ClassFile.FieldType.int)) ∈ vWS := vm_g (vm_t (vm_2 (List.mem_of_getElem? (i := 213) rfl))) rfl
theorem vw2_214 : (Jvm.Cond.methodLink "PackStore$PackWriter" (44 : Nat) ({ cls := "PackStore$PackWriter", name := "pick", desc := "(ILPackStore$Closure;LPackStore$Closure;)V" } : Jvm.MethodName)) ∈ vWS := vm_g (vm_t (vm_2 (List.mem_of_getElem? (i := 214) rfl))) rfl
theorem vw2_216 : (Jvm.Cond.instanceMethod ({ cls := "PackStore$PackWriter", name := "pick", desc := "(ILPackStore$Closure;LPackStore$Closure;)V" } : Jvm.MethodName)) ∈ vWS := vm_g (vm_t (vm_2 (List.mem_of_getElem? (i := 216) rfl))) rfl
theorem vw2_217 : (Jvm.Cond.code ({ cls := "PackStore$PackWriter", name := "pick", desc := "(ILPackStore$Closure;LPackStore$Closure;)V" } : Jvm.MethodName) prog_8_method_3_code (6 : Nat) (Option.none : Option Jvm.ClassFile.FieldType)) ∈ vWS := vm_g (vm_t (vm_2 (List.mem_of_getElem? (i := 217) rfl))) rfl
theorem vw2_218 : (Jvm.Cond.methodLink "PackStore$PackWriter" (68 : Nat) ({ cls := "PackStore$Shelf", name := "held", desc := "()I" } : Jvm.MethodName)) ∈ vWS := vm_g (vm_t (vm_2 (List.mem_of_getElem? (i := 218) rfl))) rfl
theorem vw2_219 : (Jvm.Cond.instanceMethod ({ cls := "PackStore$Shelf", name := "held", desc := "()I" } : Jvm.MethodName)) ∈ vWS := vm_g (vm_t (vm_2 (List.mem_of_getElem? (i := 219) rfl))) rfl
theorem vw2_220 : (Jvm.Cond.selects "PackStore$Shelf" ({ cls := "PackStore$Shelf", name := "held", desc := "()I" } : Jvm.MethodName) ({ cls := "PackStore$Shelf", name := "held", desc := "()I" } : Jvm.MethodName)) ∈ vWS := vm_g (vm_t (vm_2 (List.mem_of_getElem? (i := 220) rfl))) rfl
theorem vw2_221 : (Jvm.Cond.code ({ cls := "PackStore$Shelf", name := "held", desc := "()I" } : Jvm.MethodName) prog_11_method_2_code (1 : Nat) (Option.some Jvm.ClassFile.FieldType.int)) ∈ vWS := vm_g (vm_t (vm_2 (List.mem_of_getElem? (i := 221) rfl))) rfl
theorem vw2_222 : (Jvm.Cond.methodLink "PackStore$PackWriter" (73 : Nat) ({ cls := "PackStore$Closure", name := "has", desc := "(I)Z" } : Jvm.MethodName)) ∈ vWS := vm_g (vm_t (vm_2 (List.mem_of_getElem? (i := 222) rfl))) rfl
theorem vw2_223 : (Jvm.Cond.instanceMethod ({ cls := "PackStore$Closure", name := "has", desc := "(I)Z" } : Jvm.MethodName)) ∈ vWS := vm_g (vm_t (vm_2 (List.mem_of_getElem? (i := 223) rfl))) rfl
theorem vw2_224 : (Jvm.Cond.selects "PackStore$Closure" ({ cls := "PackStore$Closure", name := "has", desc := "(I)Z" } : Jvm.MethodName) ({ cls := "PackStore$Closure", name := "has", desc := "(I)Z" } : Jvm.MethodName)) ∈ vWS := vm_g (vm_t (vm_2 (List.mem_of_getElem? (i := 224) rfl))) rfl
theorem vw2_225 : (Jvm.Cond.code ({ cls := "PackStore$Closure", name := "has", desc := "(I)Z" } : Jvm.MethodName) prog_2_method_3_code (2 : Nat) (Option.some Jvm.ClassFile.FieldType.boolean)) ∈ vWS := vm_g (vm_t (vm_2 (List.mem_of_getElem? (i := 225) rfl))) rfl
theorem vw2_226 : (Jvm.Cond.methodLink "PackStore$PackWriter" (79 : Nat) ({ cls := "PackStore$Shelf", name := "get", desc := "(I)LPackStore$Item;" } : Jvm.MethodName)) ∈ vWS := vm_g (vm_t (vm_2 (List.mem_of_getElem? (i := 226) rfl))) rfl
theorem vw2_227 : (Jvm.Cond.methodLink "PackStore$PackWriter" (83 : Nat) ({ cls := "PackStore$Item", name := "sort", desc := "()I" } : Jvm.MethodName)) ∈ vWS := vm_g (vm_t (vm_2 (List.mem_of_getElem? (i := 227) rfl))) rfl
theorem vw2_228 : (Jvm.Cond.methodLink "PackStore$PackWriter" (48 : Nat) ({ cls := "PackStore$Row", name := "clear", desc := "()V" } : Jvm.MethodName)) ∈ vWS := vm_g (vm_t (vm_2 (List.mem_of_getElem? (i := 228) rfl))) rfl
theorem vw2_229 : (Jvm.Cond.methodLink "PackStore$PackWriter" (51 : Nat) ({ cls := "PackStore$Row", name := "add", desc := "(I)V" } : Jvm.MethodName)) ∈ vWS := vm_g (vm_t (vm_2 (List.mem_of_getElem? (i := 229) rfl))) rfl
theorem vw2_230 : (Jvm.Cond.methodLink "PackStore$PackWriter" (54 : Nat) ({ cls := "PackStore$PackWriter", name := "writeEntry", desc := "(I)V" } : Jvm.MethodName)) ∈ vWS := vm_g (vm_t (vm_2 (List.mem_of_getElem? (i := 230) rfl))) rfl
theorem vw2_232 : (Jvm.Cond.instanceMethod ({ cls := "PackStore$PackWriter", name := "writeEntry", desc := "(I)V" } : Jvm.MethodName)) ∈ vWS := vm_g (vm_t (vm_2 (List.mem_of_getElem? (i := 232) rfl))) rfl
theorem vw2_233 : (Jvm.Cond.code ({ cls := "PackStore$PackWriter", name := "writeEntry", desc := "(I)V" } : Jvm.MethodName) prog_8_method_4_code (5 : Nat) (Option.none : Option Jvm.ClassFile.FieldType)) ∈ vWS := vm_g (vm_t (vm_2 (List.mem_of_getElem? (i := 233) rfl))) rfl
theorem vw2_234 : (Jvm.Cond.methodLink "PackStore$PackWriter" (57 : Nat) ({ cls := "PackStore$Row", name := "used", desc := "()I" } : Jvm.MethodName)) ∈ vWS := vm_g (vm_t (vm_2 (List.mem_of_getElem? (i := 234) rfl))) rfl
theorem vw2_235 : (Jvm.Cond.methodLink "PackStore$PackWriter" (88 : Nat) ({ cls := "PackStore$Item", name := "bytes", desc := "()LPackStore$Row;" } : Jvm.MethodName)) ∈ vWS := vm_g (vm_t (vm_2 (List.mem_of_getElem? (i := 235) rfl))) rfl
theorem vw2_236 : (Jvm.Cond.methodLink "PackStore$PackWriter" (92 : Nat) ({ cls := "PackStore$PackWriter", name := "writeHead", desc := "(IILPackStore$Row;)V" } : Jvm.MethodName)) ∈ vWS := vm_g (vm_t (vm_2 (List.mem_of_getElem? (i := 236) rfl))) rfl
theorem vw2_237 : (Jvm.Cond.static ({ cls := "PackStore$PackWriter", name := "writeHead", desc := "(IILPackStore$Row;)V" } : Jvm.MethodName)) ∈ vWS := vm_g (vm_t (vm_2 (List.mem_of_getElem? (i := 237) rfl))) rfl
theorem vw2_238 : (Jvm.Cond.code ({ cls := "PackStore$PackWriter", name := "writeHead", desc := "(IILPackStore$Row;)V" } : Jvm.MethodName) prog_8_method_7_code (5 : Nat) (Option.none : Option Jvm.ClassFile.FieldType)) ∈ vWS := vm_g (vm_t (vm_2 (List.mem_of_getElem? (i := 238) rfl))) rfl
theorem vw2_239 : (Jvm.Cond.methodLink "PackStore$PackWriter" (96 : Nat) ({ cls := "PackStore$Packing", name := "pack", desc := "(LPackStore$Row;LPackStore$Row;)V" } : Jvm.MethodName)) ∈ vWS := vm_g (vm_t (vm_2 (List.mem_of_getElem? (i := 239) rfl))) rfl
theorem vw3_0 : (Jvm.Cond.static ({ cls := "PackStore$Packing", name := "pack", desc := "(LPackStore$Row;LPackStore$Row;)V" } : Jvm.MethodName)) ∈ vWS := vm_g (vm_t (vm_3 (List.mem_of_getElem? (i := 0) rfl))) rfl
theorem vw3_1 : (Jvm.Cond.code ({ cls := "PackStore$Packing", name := "pack", desc := "(LPackStore$Row;LPackStore$Row;)V" } : Jvm.MethodName) prog_9_method_3_code (5 : Nat) (Option.none : Option Jvm.ClassFile.FieldType)) ∈ vWS := vm_g (vm_t (vm_3 (List.mem_of_getElem? (i := 1) rfl))) rfl
theorem vw3_2 : (Jvm.Cond.methodLink "PackStore$Packing" (9 : Nat) ({ cls := "PackStore$Row", name := "used", desc := "()I" } : Jvm.MethodName)) ∈ vWS := vm_g (vm_t (vm_3 (List.mem_of_getElem? (i := 2) rfl))) rfl
theorem vw3_3 : (Jvm.Cond.methodLink "PackStore$Packing" (15 : Nat) ({ cls := "PackStore$Row", name := "sameFrom", desc := "(I)I" } : Jvm.MethodName)) ∈ vWS := vm_g (vm_t (vm_3 (List.mem_of_getElem? (i := 3) rfl))) rfl
theorem vw3_4 : (Jvm.Cond.instanceMethod ({ cls := "PackStore$Row", name := "sameFrom", desc := "(I)I" } : Jvm.MethodName)) ∈ vWS := vm_g (vm_t (vm_3 (List.mem_of_getElem? (i := 4) rfl))) rfl
theorem vw3_5 : (Jvm.Cond.selects "PackStore$Row" ({ cls := "PackStore$Row", name := "sameFrom", desc := "(I)I" } : Jvm.MethodName) ({ cls := "PackStore$Row", name := "sameFrom", desc := "(I)I" } : Jvm.MethodName)) ∈ vWS := vm_g (vm_t (vm_3 (List.mem_of_getElem? (i := 5) rfl))) rfl
theorem vw3_6 : (Jvm.Cond.code ({ cls := "PackStore$Row", name := "sameFrom", desc := "(I)I" } : Jvm.MethodName) prog_10_method_15_code (3 : Nat) (Option.some Jvm.ClassFile.FieldType.int)) ∈ vWS := vm_g (vm_t (vm_3 (List.mem_of_getElem? (i := 6) rfl))) rfl
theorem vw3_7 : (Jvm.Cond.methodLink "PackStore$Packing" (19 : Nat) ({ cls := "java/lang/Math", name := "min", desc := "(II)I" } : Jvm.MethodName)) ∈ vWS := vm_g (vm_t (vm_3 (List.mem_of_getElem? (i := 7) rfl))) rfl
theorem vw3_8 : (Jvm.Cond.static ({ cls := "java/lang/Math", name := "min", desc := "(II)I" } : Jvm.MethodName)) ∈ vWS := vm_g (vm_t (vm_3 (List.mem_of_getElem? (i := 8) rfl))) rfl
theorem vw3_9 : (Jvm.Cond.code ({ cls := "java/lang/Math", name := "min", desc := "(II)I" } : Jvm.MethodName) prog_14_method_69_code (2 : Nat) (Option.some Jvm.ClassFile.FieldType.int)) ∈ vWS := vm_g (vm_t (vm_3 (List.mem_of_getElem? (i := 9) rfl))) rfl
theorem vw3_10 : (Jvm.Cond.methodLink "PackStore$Packing" (25 : Nat) ({ cls := "PackStore$Row", name := "add", desc := "(I)V" } : Jvm.MethodName)) ∈ vWS := vm_g (vm_t (vm_3 (List.mem_of_getElem? (i := 10) rfl))) rfl
theorem vw3_11 : (Jvm.Cond.methodLink "PackStore$Packing" (29 : Nat) ({ cls := "PackStore$Row", name := "get", desc := "(I)I" } : Jvm.MethodName)) ∈ vWS := vm_g (vm_t (vm_3 (List.mem_of_getElem? (i := 11) rfl))) rfl
theorem vw3_12 : (Jvm.Cond.methodLink "PackStore$Packing" (32 : Nat) ({ cls := "PackStore$Packing", name := "plainLength", desc := "(LPackStore$Row;I)I" } : Jvm.MethodName)) ∈ vWS := vm_g (vm_t (vm_3 (List.mem_of_getElem? (i := 12) rfl))) rfl
theorem vw3_13 : (Jvm.Cond.static ({ cls := "PackStore$Packing", name := "plainLength", desc := "(LPackStore$Row;I)I" } : Jvm.MethodName)) ∈ vWS := vm_g (vm_t (vm_3 (List.mem_of_getElem? (i := 13) rfl))) rfl
theorem vw3_14 : (Jvm.Cond.code ({ cls := "PackStore$Packing", name := "plainLength", desc := "(LPackStore$Row;I)I" } : Jvm.MethodName) prog_9_method_4_code (3 : Nat) (Option.some Jvm.ClassFile.FieldType.int)) ∈ vWS := vm_g (vm_t (vm_3 (List.mem_of_getElem? (i := 14) rfl))) rfl
theorem vw3_15 : (Jvm.Cond.methodLink "PackStore$Packing" (36 : Nat) ({ cls := "PackStore$Row", name := "addPart", desc := "(LPackStore$Row;II)Z" } : Jvm.MethodName)) ∈ vWS := vm_g (vm_t (vm_3 (List.mem_of_getElem? (i := 15) rfl))) rfl
theorem vw3_16 : (Jvm.Cond.methodLink "PackStore$PackWriter" (102 : Nat) ({ cls := "PackStore$PackWriter", name := "writeByBack", desc := "(LPackStore$Item;LPackStore$Item;I)V" } : Jvm.MethodName)) ∈ vWS := vm_g (vm_t (vm_3 (List.mem_of_getElem? (i := 16) rfl))) rfl
theorem vw3_18 : (Jvm.Cond.instanceMethod ({ cls := "PackStore$PackWriter", name := "writeByBack", desc := "(LPackStore$Item;LPackStore$Item;I)V" } : Jvm.MethodName)) ∈ vWS := vm_g (vm_t (vm_3 (List.mem_of_getElem? (i := 18) rfl))) rfl
theorem vw3_19 : (Jvm.Cond.code ({ cls := "PackStore$PackWriter", name := "writeByBack", desc := "(LPackStore$Item;LPackStore$Item;I)V" } : Jvm.MethodName) prog_8_method_5_code (4 : Nat) (Option.none : Option Jvm.ClassFile.FieldType)) ∈ vWS := vm_g (vm_t (vm_3 (List.mem_of_getElem? (i := 19) rfl))) rfl
theorem vw3_20 : (Jvm.Cond.methodLink "PackStore$PackWriter" (113 : Nat) ({ cls := "PackStore$Difference", name := "write", desc := "(LPackStore$Row;LPackStore$Row;LPackStore$Row;)V" } : Jvm.MethodName)) ∈ vWS := vm_g (vm_t (vm_3 (List.mem_of_getElem? (i := 20) rfl))) rfl
theorem vw3_21 : (Jvm.Cond.static ({ cls := "PackStore$Difference", name := "write", desc := "(LPackStore$Row;LPackStore$Row;LPackStore$Row;)V" } : Jvm.MethodName)) ∈ vWS := vm_g (vm_t (vm_3 (List.mem_of_getElem? (i := 21) rfl))) rfl
theorem vw3_22 : (Jvm.Cond.code ({ cls := "PackStore$Difference", name := "write", desc := "(LPackStore$Row;LPackStore$Row;LPackStore$Row;)V" } : Jvm.MethodName) prog_3_method_2_code (8 : Nat) (Option.none : Option Jvm.ClassFile.FieldType)) ∈ vWS := vm_g (vm_t (vm_3 (List.mem_of_getElem? (i := 22) rfl))) rfl
theorem vw3_23 : (Jvm.Cond.methodLink "PackStore$Difference" (7 : Nat) ({ cls := "PackStore$Row", name := "clear", desc := "()V" } : Jvm.MethodName)) ∈ vWS := vm_g (vm_t (vm_3 (List.mem_of_getElem? (i := 23) rfl))) rfl
theorem vw3_24 : (Jvm.Cond.methodLink "PackStore$Difference" (12 : Nat) ({ cls := "PackStore$Row", name := "used", desc := "()I" } : Jvm.MethodName)) ∈ vWS := vm_g (vm_t (vm_3 (List.mem_of_getElem? (i := 24) rfl))) rfl
theorem vw3_25 : (Jvm.Cond.methodLink "PackStore$Difference" (16 : Nat) ({ cls := "PackStore$Row", name := "add", desc := "(I)V" } : Jvm.MethodName)) ∈ vWS := vm_g (vm_t (vm_3 (List.mem_of_getElem? (i := 25) rfl))) rfl
theorem vw3_26 : (Jvm.Cond.methodLink "PackStore$Difference" (20 : Nat) ({ cls := "PackStore$Difference", name := "longestPlace", desc := "(LPackStore$Row;LPackStore$Row;I)I" } : Jvm.MethodName)) ∈ vWS := vm_g (vm_t (vm_3 (List.mem_of_getElem? (i := 26) rfl))) rfl
theorem vw3_27 : (Jvm.Cond.static ({ cls := "PackStore$Difference", name := "longestPlace", desc := "(LPackStore$Row;LPackStore$Row;I)I" } : Jvm.MethodName)) ∈ vWS := vm_g (vm_t (vm_3 (List.mem_of_getElem? (i := 27) rfl))) rfl
theorem vw3_28 : (Jvm.Cond.code ({ cls := "PackStore$Difference", name := "longestPlace", desc := "(LPackStore$Row;LPackStore$Row;I)I" } : Jvm.MethodName) prog_3_method_4_code (7 : Nat) (Option.some Jvm.ClassFile.FieldType.int)) ∈ vWS := vm_g (vm_t (vm_3 (List.mem_of_getElem? (i := 28) rfl))) rfl
theorem vw3_29 : (Jvm.Cond.methodLink "PackStore$Difference" (26 : Nat) ({ cls := "PackStore$Row", name := "commonFrom", desc := "(ILPackStore$Row;I)I" } : Jvm.MethodName)) ∈ vWS := vm_g (vm_t (vm_3 (List.mem_of_getElem? (i := 29) rfl))) rfl
theorem vw3_30 : (Jvm.Cond.instanceMethod ({ cls := "PackStore$Row", name := "commonFrom", desc := "(ILPackStore$Row;I)I" } : Jvm.MethodName)) ∈ vWS := vm_g (vm_t (vm_3 (List.mem_of_getElem? (i := 30) rfl))) rfl
theorem vw3_31 : (Jvm.Cond.selects "PackStore$Row" ({ cls := "PackStore$Row", name := "commonFrom", desc := "(ILPackStore$Row;I)I" } : Jvm.MethodName) ({ cls := "PackStore$Row", name := "commonFrom", desc := "(ILPackStore$Row;I)I" } : Jvm.MethodName)) ∈ vWS := vm_g (vm_t (vm_3 (List.mem_of_getElem? (i := 31) rfl))) rfl
theorem vw3_32 : (Jvm.Cond.code ({ cls := "PackStore$Row", name := "commonFrom", desc := "(ILPackStore$Row;I)I" } : Jvm.MethodName) prog_10_method_16_code (6 : Nat) (Option.some Jvm.ClassFile.FieldType.int)) ∈ vWS := vm_g (vm_t (vm_3 (List.mem_of_getElem? (i := 32) rfl))) rfl
theorem vw3_33 : (Jvm.Cond.methodLink "PackStore$Row" (41 : Nat) ({ cls := "java/lang/Math", name := "min", desc := "(II)I" } : Jvm.MethodName)) ∈ vWS := vm_g (vm_t (vm_3 (List.mem_of_getElem? (i := 33) rfl))) rfl
theorem vw3_34 : (Jvm.Cond.methodLink "PackStore$Difference" (30 : Nat) ({ cls := "PackStore$Difference", name := "writePut", desc := "(LPackStore$Row;IILPackStore$Row;)V" } : Jvm.MethodName)) ∈ vWS := vm_g (vm_t (vm_3 (List.mem_of_getElem? (i := 34) rfl))) rfl
theorem vw3_35 : (Jvm.Cond.static ({ cls := "PackStore$Difference", name := "writePut", desc := "(LPackStore$Row;IILPackStore$Row;)V" } : Jvm.MethodName)) ∈ vWS := vm_g (vm_t (vm_3 (List.mem_of_getElem? (i := 35) rfl))) rfl
theorem vw3_36 : (Jvm.Cond.code ({ cls := "PackStore$Difference", name := "writePut", desc := "(LPackStore$Row;IILPackStore$Row;)V" } : Jvm.MethodName) prog_3_method_3_code (4 : Nat) (Option.none : Option Jvm.ClassFile.FieldType)) ∈ vWS := vm_g (vm_t (vm_3 (List.mem_of_getElem? (i := 36) rfl))) rfl
theorem vw3_37 : (Jvm.Cond.methodLink "PackStore$Difference" (34 : Nat) ({ cls := "PackStore$Row", name := "addPart", desc := "(LPackStore$Row;II)Z" } : Jvm.MethodName)) ∈ vWS := vm_g (vm_t (vm_3 (List.mem_of_getElem? (i := 37) rfl))) rfl
theorem vw3_38 : (Jvm.Cond.methodLink "PackStore$PackWriter" (65 : Nat) ({ cls := "PackStore$Row", name := "addTwo", desc := "(I)V" } : Jvm.MethodName)) ∈ vWS := vm_g (vm_t (vm_3 (List.mem_of_getElem? (i := 38) rfl))) rfl
theorem vw3_39 : (Jvm.Cond.instanceMethod ({ cls := "PackStore$Row", name := "addTwo", desc := "(I)V" } : Jvm.MethodName)) ∈ vWS := vm_g (vm_t (vm_3 (List.mem_of_getElem? (i := 39) rfl))) rfl
theorem vw3_40 : (Jvm.Cond.selects "PackStore$Row" ({ cls := "PackStore$Row", name := "addTwo", desc := "(I)V" } : Jvm.MethodName) ({ cls := "PackStore$Row", name := "addTwo", desc := "(I)V" } : Jvm.MethodName)) ∈ vWS := vm_g (vm_t (vm_3 (List.mem_of_getElem? (i := 40) rfl))) rfl
theorem vw3_41 : (Jvm.Cond.code ({ cls := "PackStore$Row", name := "addTwo", desc := "(I)V" } : Jvm.MethodName) prog_10_method_8_code (2 : Nat) (Option.none : Option Jvm.ClassFile.FieldType)) ∈ vWS := vm_g (vm_t (vm_3 (List.mem_of_getElem? (i := 41) rfl))) rfl
theorem vw3_42 : (Jvm.Cond.methodLink "PackStore$Row" (21 : Nat) ({ cls := "PackStore$Row", name := "add", desc := "(I)V" } : Jvm.MethodName)) ∈ vWS := vm_g (vm_t (vm_3 (List.mem_of_getElem? (i := 42) rfl))) rfl
theorem vw3_43 : (Jvm.Cond.methodLink "PackStore$PackWriter" (106 : Nat) ({ cls := "PackStore$PackWriter", name := "keepIfShorter", desc := "()V" } : Jvm.MethodName)) ∈ vWS := vm_g (vm_t (vm_3 (List.mem_of_getElem? (i := 43) rfl))) rfl
theorem vw3_45 : (Jvm.Cond.instanceMethod ({ cls := "PackStore$PackWriter", name := "keepIfShorter", desc := "()V" } : Jvm.MethodName)) ∈ vWS := vm_g (vm_t (vm_3 (List.mem_of_getElem? (i := 45) rfl))) rfl
theorem vw3_46 : (Jvm.Cond.code ({ cls := "PackStore$PackWriter", name := "keepIfShorter", desc := "()V" } : Jvm.MethodName) prog_8_method_6_code (1 : Nat) (Option.none : Option Jvm.ClassFile.FieldType)) ∈ vWS := vm_g (vm_t (vm_3 (List.mem_of_getElem? (i := 46) rfl))) rfl
theorem vw3_47 : (Jvm.Cond.methodLink "PackStore$PackWriter" (109 : Nat) ({ cls := "PackStore$Row", name := "addAll", desc := "(LPackStore$Row;)V" } : Jvm.MethodName)) ∈ vWS := vm_g (vm_t (vm_3 (List.mem_of_getElem? (i := 47) rfl))) rfl
theorem vw3_48 : (Jvm.Cond.methodLink "PackStore$PackWriter" (61 : Nat) ({ cls := "PackStore$Row", name := "hashOn", desc := "(II)I" } : Jvm.MethodName)) ∈ vWS := vm_g (vm_t (vm_3 (List.mem_of_getElem? (i := 48) rfl))) rfl
theorem vw3_49 : (Jvm.Cond.methodLink "PackStoreLaw" (61 : Nat) ({ cls := "PackStore", name := "receive", desc := "()I" } : Jvm.MethodName)) ∈ vWS := vm_g (vm_t (vm_3 (List.mem_of_getElem? (i := 49) rfl))) rfl
theorem vw3_50 : (Jvm.Cond.instanceMethod ({ cls := "PackStore", name := "receive", desc := "()I" } : Jvm.MethodName)) ∈ vWS := vm_g (vm_t (vm_3 (List.mem_of_getElem? (i := 50) rfl))) rfl
theorem vw3_51 : (Jvm.Cond.selects "PackStore" ({ cls := "PackStore", name := "receive", desc := "()I" } : Jvm.MethodName) ({ cls := "PackStore", name := "receive", desc := "()I" } : Jvm.MethodName)) ∈ vWS := vm_g (vm_t (vm_3 (List.mem_of_getElem? (i := 51) rfl))) rfl
theorem vw3_52 : (Jvm.Cond.code ({ cls := "PackStore", name := "receive", desc := "()I" } : Jvm.MethodName) prog_1_method_13_code (1 : Nat) (Option.some Jvm.ClassFile.FieldType.int)) ∈ vWS := vm_g (vm_t (vm_3 (List.mem_of_getElem? (i := 52) rfl))) rfl
theorem vw3_53 : (Jvm.Cond.methodLink "PackStore" (156 : Nat) ({ cls := "PackStore$PackReader", name := "readPack", desc := "()Z" } : Jvm.MethodName)) ∈ vWS := vm_g (vm_t (vm_3 (List.mem_of_getElem? (i := 53) rfl))) rfl
theorem vw3_54 : (Jvm.Cond.instanceMethod ({ cls := "PackStore$PackReader", name := "readPack", desc := "()Z" } : Jvm.MethodName)) ∈ vWS := vm_g (vm_t (vm_3 (List.mem_of_getElem? (i := 54) rfl))) rfl
theorem vw3_55 : (Jvm.Cond.selects "PackStore$PackReader" ({ cls := "PackStore$PackReader", name := "readPack", desc := "()Z" } : Jvm.MethodName) ({ cls := "PackStore$PackReader", name := "readPack", desc := "()Z" } : Jvm.MethodName)) ∈ vWS := vm_g (vm_t (vm_3 (List.mem_of_getElem? (i := 55) rfl))) rfl
theorem vw3_56 : (Jvm.Cond.code ({ cls := "PackStore$PackReader", name := "readPack", desc := "()Z" } : Jvm.MethodName) prog_7_method_3_code (1 : Nat) (Option.some Jvm.ClassFile.FieldType.boolean)) ∈ vWS := vm_g (vm_t (vm_3 (List.mem_of_getElem? (i := 56) rfl))) rfl
theorem vw3_57 : (Jvm.Cond.methodLink "PackStore$PackReader" (36 : Nat) ({ cls := "PackStore$PackReader", name := "isNext", desc := "(I)Z" } : Jvm.MethodName)) ∈ vWS := vm_g (vm_t (vm_3 (List.mem_of_getElem? (i := 57) rfl))) rfl
theorem vw3_59 : (Jvm.Cond.instanceMethod ({ cls := "PackStore$PackReader", name := "isNext", desc := "(I)Z" } : Jvm.MethodName)) ∈ vWS := vm_g (vm_t (vm_3 (List.mem_of_getElem? (i := 59) rfl))) rfl
theorem vw3_60 : (Jvm.Cond.code ({ cls := "PackStore$PackReader", name := "isNext", desc := "(I)Z" } : Jvm.MethodName) prog_7_method_5_code (2 : Nat) (Option.some Jvm.ClassFile.FieldType.boolean)) ∈ vWS := vm_g (vm_t (vm_3 (List.mem_of_getElem? (i := 60) rfl))) rfl
theorem vw3_61 : (Jvm.Cond.methodLink "PackStore$PackReader" (56 : Nat) ({ cls := "PackStore$PackReader", name := "next", desc := "(II)I" } : Jvm.MethodName)) ∈ vWS := vm_g (vm_t (vm_3 (List.mem_of_getElem? (i := 61) rfl))) rfl
theorem vw3_63 : (Jvm.Cond.instanceMethod ({ cls := "PackStore$PackReader", name := "next", desc := "(II)I" } : Jvm.MethodName)) ∈ vWS := vm_g (vm_t (vm_3 (List.mem_of_getElem? (i := 63) rfl))) rfl
theorem vw3_64 : (Jvm.Cond.code ({ cls := "PackStore$PackReader", name := "next", desc := "(II)I" } : Jvm.MethodName) prog_7_method_4_code (4 : Nat) (Option.some Jvm.ClassFile.FieldType.int)) ∈ vWS := vm_g (vm_t (vm_3 (List.mem_of_getElem? (i := 64) rfl))) rfl
theorem vw3_65 : (Jvm.Cond.methodLink "PackStore$PackReader" (50 : Nat) ({ cls := "PackStore$Row", name := "get", desc := "(I)I" } : Jvm.MethodName)) ∈ vWS := vm_g (vm_t (vm_3 (List.mem_of_getElem? (i := 65) rfl))) rfl
theorem vw3_66 : (Jvm.Cond.methodLink "PackStore$PackReader" (40 : Nat) ({ cls := "PackStore$PackReader", name := "readEntries", desc := "()Z" } : Jvm.MethodName)) ∈ vWS := vm_g (vm_t (vm_3 (List.mem_of_getElem? (i := 66) rfl))) rfl
theorem vw3_68 : (Jvm.Cond.instanceMethod ({ cls := "PackStore$PackReader", name := "readEntries", desc := "()Z" } : Jvm.MethodName)) ∈ vWS := vm_g (vm_t (vm_3 (List.mem_of_getElem? (i := 68) rfl))) rfl
theorem vw3_69 : (Jvm.Cond.code ({ cls := "PackStore$PackReader", name := "readEntries", desc := "()Z" } : Jvm.MethodName) prog_7_method_7_code (4 : Nat) (Option.some Jvm.ClassFile.FieldType.boolean)) ∈ vWS := vm_g (vm_t (vm_3 (List.mem_of_getElem? (i := 69) rfl))) rfl
theorem vw3_70 : (Jvm.Cond.methodLink "PackStore$PackReader" (60 : Nat) ({ cls := "PackStore$PackReader", name := "readHead", desc := "(LPackStore$Entry;)Z" } : Jvm.MethodName)) ∈ vWS := vm_g (vm_t (vm_3 (List.mem_of_getElem? (i := 70) rfl))) rfl
theorem vw3_72 : (Jvm.Cond.instanceMethod ({ cls := "PackStore$PackReader", name := "readHead", desc := "(LPackStore$Entry;)Z" } : Jvm.MethodName)) ∈ vWS := vm_g (vm_t (vm_3 (List.mem_of_getElem? (i := 72) rfl))) rfl
theorem vw3_73 : (Jvm.Cond.code ({ cls := "PackStore$PackReader", name := "readHead", desc := "(LPackStore$Entry;)Z" } : Jvm.MethodName) prog_7_method_8_code (4 : Nat) (Option.some Jvm.ClassFile.FieldType.boolean)) ∈ vWS := vm_g (vm_t (vm_3 (List.mem_of_getElem? (i := 73) rfl))) rfl
theorem vw3_74 : (Jvm.Cond.methodLink "PackStore$PackReader" (79 : Nat) ({ cls := "PackStore$Entry", name := "hasKnownSort", desc := "()Z" } : Jvm.MethodName)) ∈ vWS := vm_g (vm_t (vm_3 (List.mem_of_getElem? (i := 74) rfl))) rfl
theorem vw3_75 : (Jvm.Cond.instanceMethod ({ cls := "PackStore$Entry", name := "hasKnownSort", desc := "()Z" } : Jvm.MethodName)) ∈ vWS := vm_g (vm_t (vm_3 (List.mem_of_getElem? (i := 75) rfl))) rfl
theorem vw3_76 : (Jvm.Cond.selects "PackStore$Entry" ({ cls := "PackStore$Entry", name := "hasKnownSort", desc := "()Z" } : Jvm.MethodName) ({ cls := "PackStore$Entry", name := "hasKnownSort", desc := "()Z" } : Jvm.MethodName)) ∈ vWS := vm_g (vm_t (vm_3 (List.mem_of_getElem? (i := 76) rfl))) rfl
theorem vw3_77 : (Jvm.Cond.code ({ cls := "PackStore$Entry", name := "hasKnownSort", desc := "()Z" } : Jvm.MethodName) prog_4_method_3_code (1 : Nat) (Option.some Jvm.ClassFile.FieldType.boolean)) ∈ vWS := vm_g (vm_t (vm_3 (List.mem_of_getElem? (i := 77) rfl))) rfl
theorem vw3_78 : (Jvm.Cond.methodLink "PackStore$PackReader" (82 : Nat) ({ cls := "PackStore$PackReader", name := "failAtLast", desc := "()Z" } : Jvm.MethodName)) ∈ vWS := vm_g (vm_t (vm_3 (List.mem_of_getElem? (i := 78) rfl))) rfl
theorem vw3_80 : (Jvm.Cond.instanceMethod ({ cls := "PackStore$PackReader", name := "failAtLast", desc := "()Z" } : Jvm.MethodName)) ∈ vWS := vm_g (vm_t (vm_3 (List.mem_of_getElem? (i := 80) rfl))) rfl
theorem vw3_81 : (Jvm.Cond.code ({ cls := "PackStore$PackReader", name := "failAtLast", desc := "()Z" } : Jvm.MethodName) prog_7_method_6_code (1 : Nat) (Option.some Jvm.ClassFile.FieldType.boolean)) ∈ vWS := vm_g (vm_t (vm_3 (List.mem_of_getElem? (i := 81) rfl))) rfl
theorem vw3_82 : (Jvm.Cond.methodLink "PackStore$PackReader" (85 : Nat) ({ cls := "PackStore$Entry", name := "isWhole", desc := "()Z" } : Jvm.MethodName)) ∈ vWS := vm_g (vm_t (vm_3 (List.mem_of_getElem? (i := 82) rfl))) rfl
theorem vw3_83 : (Jvm.Cond.instanceMethod ({ cls := "PackStore$Entry", name := "isWhole", desc := "()Z" } : Jvm.MethodName)) ∈ vWS := vm_g (vm_t (vm_3 (List.mem_of_getElem? (i := 83) rfl))) rfl
theorem vw3_84 : (Jvm.Cond.selects "PackStore$Entry" ({ cls := "PackStore$Entry", name := "isWhole", desc := "()Z" } : Jvm.MethodName) ({ cls := "PackStore$Entry", name := "isWhole", desc := "()Z" } : Jvm.MethodName)) ∈ vWS := vm_g (vm_t (vm_3 (List.mem_of_getElem? (i := 84) rfl))) rfl
theorem vw3_85 : (Jvm.Cond.code ({ cls := "PackStore$Entry", name := "isWhole", desc := "()Z" } : Jvm.MethodName) prog_4_method_2_code (1 : Nat) (Option.some Jvm.ClassFile.FieldType.boolean)) ∈ vWS := vm_g (vm_t (vm_3 (List.mem_of_getElem? (i := 85) rfl))) rfl
theorem vw3_86 : (Jvm.Cond.methodLink "PackStore$PackReader" (64 : Nat) ({ cls := "PackStore$PackReader", name := "readBase", desc := "(LPackStore$Entry;)Z" } : Jvm.MethodName)) ∈ vWS := vm_g (vm_t (vm_3 (List.mem_of_getElem? (i := 86) rfl))) rfl
theorem vw3_88 : (Jvm.Cond.instanceMethod ({ cls := "PackStore$PackReader", name := "readBase", desc := "(LPackStore$Entry;)Z" } : Jvm.MethodName)) ∈ vWS := vm_g (vm_t (vm_3 (List.mem_of_getElem? (i := 88) rfl))) rfl
theorem vw3_89 : (Jvm.Cond.code ({ cls := "PackStore$PackReader", name := "readBase", desc := "(LPackStore$Entry;)Z" } : Jvm.MethodName) prog_7_method_9_code (5 : Nat) (Option.some Jvm.ClassFile.FieldType.boolean)) ∈ vWS := vm_g (vm_t (vm_3 (List.mem_of_getElem? (i := 89) rfl))) rfl
theorem vw3_90 : (Jvm.Cond.methodLink "PackStore$PackReader" (91 : Nat) ({ cls := "PackStore$PackReader", name := "entryAt", desc := "(I)I" } : Jvm.MethodName)) ∈ vWS := vm_g (vm_t (vm_3 (List.mem_of_getElem? (i := 90) rfl))) rfl
theorem vw3_92 : (Jvm.Cond.instanceMethod ({ cls := "PackStore$PackReader", name := "entryAt", desc := "(I)I" } : Jvm.MethodName)) ∈ vWS := vm_g (vm_t (vm_3 (List.mem_of_getElem? (i := 92) rfl))) rfl
theorem vw3_93 : (Jvm.Cond.code ({ cls := "PackStore$PackReader", name := "entryAt", desc := "(I)I" } : Jvm.MethodName) prog_7_method_10_code (3 : Nat) (Option.some Jvm.ClassFile.FieldType.int)) ∈ vWS := vm_g (vm_t (vm_3 (List.mem_of_getElem? (i := 93) rfl))) rfl
theorem vw3_94 : (Jvm.Cond.methodLink "PackStore$PackReader" (67 : Nat) ({ cls := "PackStore$PackReader", name := "readRuns", desc := "(LPackStore$Entry;)Z" } : Jvm.MethodName)) ∈ vWS := vm_g (vm_t (vm_3 (List.mem_of_getElem? (i := 94) rfl))) rfl
theorem vw3_96 : (Jvm.Cond.instanceMethod ({ cls := "PackStore$PackReader", name := "readRuns", desc := "(LPackStore$Entry;)Z" } : Jvm.MethodName)) ∈ vWS := vm_g (vm_t (vm_3 (List.mem_of_getElem? (i := 96) rfl))) rfl
theorem vw3_97 : (Jvm.Cond.code ({ cls := "PackStore$PackReader", name := "readRuns", desc := "(LPackStore$Entry;)Z" } : Jvm.MethodName) prog_7_method_11_code (5 : Nat) (Option.some Jvm.ClassFile.FieldType.boolean)) ∈ vWS := vm_g (vm_t (vm_3 (List.mem_of_getElem? (i := 97) rfl))) rfl
theorem vw3_98 : (Jvm.Cond.methodLink "PackStore$PackReader" (97 : Nat) ({ cls := "PackStore$Row", name := "clear", desc := "()V" } : Jvm.MethodName)) ∈ vWS := vm_g (vm_t (vm_3 (List.mem_of_getElem? (i := 98) rfl))) rfl
theorem vw3_99 : (Jvm.Cond.methodLink "PackStore$PackReader" (100 : Nat) ({ cls := "PackStore$Packing", name := "runLength", desc := "(I)I" } : Jvm.MethodName)) ∈ vWS := vm_g (vm_t (vm_3 (List.mem_of_getElem? (i := 99) rfl))) rfl
theorem vw3_100 : (Jvm.Cond.static ({ cls := "PackStore$Packing", name := "runLength", desc := "(I)I" } : Jvm.MethodName)) ∈ vWS := vm_g (vm_t (vm_3 (List.mem_of_getElem? (i := 100) rfl))) rfl
theorem vw3_101 : (Jvm.Cond.code ({ cls := "PackStore$Packing", name := "runLength", desc := "(I)I" } : Jvm.MethodName) prog_9_method_2_code (1 : Nat) (Option.some Jvm.ClassFile.FieldType.int)) ∈ vWS := vm_g (vm_t (vm_3 (List.mem_of_getElem? (i := 101) rfl))) rfl
theorem vw3_102 : (Jvm.Cond.methodLink "PackStore$PackReader" (105 : Nat) ({ cls := "PackStore$PackReader", name := "readRun", desc := "(LPackStore$Row;IZ)Z" } : Jvm.MethodName)) ∈ vWS := vm_g (vm_t (vm_3 (List.mem_of_getElem? (i := 102) rfl))) rfl
theorem vw3_104 : (Jvm.Cond.instanceMethod ({ cls := "PackStore$PackReader", name := "readRun", desc := "(LPackStore$Row;IZ)Z" } : Jvm.MethodName)) ∈ vWS := vm_g (vm_t (vm_3 (List.mem_of_getElem? (i := 104) rfl))) rfl
theorem vw3_105 : (Jvm.Cond.code ({ cls := "PackStore$PackReader", name := "readRun", desc := "(LPackStore$Row;IZ)Z" } : Jvm.MethodName) prog_7_method_12_code (6 : Nat) (Option.some Jvm.ClassFile.FieldType.boolean)) ∈ vWS := vm_g (vm_t (vm_3 (List.mem_of_getElem? (i := 105) rfl))) rfl
theorem vw3_106 : (Jvm.Cond.methodLink "PackStore$PackReader" (109 : Nat) ({ cls := "PackStore$Row", name := "add", desc := "(I)V" } : Jvm.MethodName)) ∈ vWS := vm_g (vm_t (vm_3 (List.mem_of_getElem? (i := 106) rfl))) rfl
theorem vw3_107 : (Jvm.Cond.methodLink "PackStore$PackReader" (44 : Nat) ({ cls := "PackStore$PackReader", name := "readHash", desc := "()Z" } : Jvm.MethodName)) ∈ vWS := vm_g (vm_t (vm_3 (List.mem_of_getElem? (i := 107) rfl))) rfl
theorem vw3_109 : (Jvm.Cond.instanceMethod ({ cls := "PackStore$PackReader", name := "readHash", desc := "()Z" } : Jvm.MethodName)) ∈ vWS := vm_g (vm_t (vm_3 (List.mem_of_getElem? (i := 109) rfl))) rfl
theorem vw3_110 : (Jvm.Cond.code ({ cls := "PackStore$PackReader", name := "readHash", desc := "()Z" } : Jvm.MethodName) prog_7_method_13_code (2 : Nat) (Option.some Jvm.ClassFile.FieldType.boolean)) ∈ vWS := vm_g (vm_t (vm_3 (List.mem_of_getElem? (i := 110) rfl))) rfl
theorem vw3_111 : (Jvm.Cond.methodLink "PackStore$PackReader" (113 : Nat) ({ cls := "PackStore$Row", name := "hashOn", desc := "(II)I" } : Jvm.MethodName)) ∈ vWS := vm_g (vm_t (vm_3 (List.mem_of_getElem? (i := 111) rfl))) rfl
theorem vw3_112 : (Jvm.Cond.methodLink "PackStore$PackReader" (47 : Nat) ({ cls := "PackStore$PackReader", name := "readEnd", desc := "()Z" } : Jvm.MethodName)) ∈ vWS := vm_g (vm_t (vm_3 (List.mem_of_getElem? (i := 112) rfl))) rfl
theorem vw3_114 : (Jvm.Cond.instanceMethod ({ cls := "PackStore$PackReader", name := "readEnd", desc := "()Z" } : Jvm.MethodName)) ∈ vWS := vm_g (vm_t (vm_3 (List.mem_of_getElem? (i := 114) rfl))) rfl
theorem vw3_115 : (Jvm.Cond.code ({ cls := "PackStore$PackReader", name := "readEnd", desc := "()Z" } : Jvm.MethodName) prog_7_method_14_code (1 : Nat) (Option.some Jvm.ClassFile.FieldType.boolean)) ∈ vWS := vm_g (vm_t (vm_3 (List.mem_of_getElem? (i := 115) rfl))) rfl
theorem vw3_116 : (Jvm.Cond.methodLink "PackStore$PackReader" (116 : Nat) ({ cls := "PackStore$Row", name := "used", desc := "()I" } : Jvm.MethodName)) ∈ vWS := vm_g (vm_t (vm_3 (List.mem_of_getElem? (i := 116) rfl))) rfl
theorem vw3_117 : (Jvm.Cond.methodLink "PackStore" (159 : Nat) ({ cls := "PackStore$PackReader", name := "fault", desc := "()I" } : Jvm.MethodName)) ∈ vWS := vm_g (vm_t (vm_3 (List.mem_of_getElem? (i := 117) rfl))) rfl
theorem vw3_118 : (Jvm.Cond.instanceMethod ({ cls := "PackStore$PackReader", name := "fault", desc := "()I" } : Jvm.MethodName)) ∈ vWS := vm_g (vm_t (vm_3 (List.mem_of_getElem? (i := 118) rfl))) rfl
theorem vw3_119 : (Jvm.Cond.selects "PackStore$PackReader" ({ cls := "PackStore$PackReader", name := "fault", desc := "()I" } : Jvm.MethodName) ({ cls := "PackStore$PackReader", name := "fault", desc := "()I" } : Jvm.MethodName)) ∈ vWS := vm_g (vm_t (vm_3 (List.mem_of_getElem? (i := 119) rfl))) rfl
theorem vw3_120 : (Jvm.Cond.code ({ cls := "PackStore$PackReader", name := "fault", desc := "()I" } : Jvm.MethodName) prog_7_method_2_code (1 : Nat) (Option.some Jvm.ClassFile.FieldType.int)) ∈ vWS := vm_g (vm_t (vm_3 (List.mem_of_getElem? (i := 120) rfl))) rfl
theorem vw3_121 : (Jvm.Cond.methodLink "PackStore" (162 : Nat) ({ cls := "PackStore$PackReader", name := "workOut", desc := "()Z" } : Jvm.MethodName)) ∈ vWS := vm_g (vm_t (vm_3 (List.mem_of_getElem? (i := 121) rfl))) rfl
theorem vw3_122 : (Jvm.Cond.instanceMethod ({ cls := "PackStore$PackReader", name := "workOut", desc := "()Z" } : Jvm.MethodName)) ∈ vWS := vm_g (vm_t (vm_3 (List.mem_of_getElem? (i := 122) rfl))) rfl
theorem vw3_123 : (Jvm.Cond.selects "PackStore$PackReader" ({ cls := "PackStore$PackReader", name := "workOut", desc := "()Z" } : Jvm.MethodName) ({ cls := "PackStore$PackReader", name := "workOut", desc := "()Z" } : Jvm.MethodName)) ∈ vWS := vm_g (vm_t (vm_3 (List.mem_of_getElem? (i := 123) rfl))) rfl
theorem vw3_124 : (Jvm.Cond.code ({ cls := "PackStore$PackReader", name := "workOut", desc := "()Z" } : Jvm.MethodName) prog_7_method_15_code (4 : Nat) (Option.some Jvm.ClassFile.FieldType.boolean)) ∈ vWS := vm_g (vm_t (vm_3 (List.mem_of_getElem? (i := 124) rfl))) rfl
theorem vw3_125 : (Jvm.Cond.methodLink "PackStore$PackReader" (120 : Nat) ({ cls := "PackStore$Entry", name := "takeWhole", desc := "()V" } : Jvm.MethodName)) ∈ vWS := vm_g (vm_t (vm_3 (List.mem_of_getElem? (i := 125) rfl))) rfl
theorem vw3_126 : (Jvm.Cond.instanceMethod ({ cls := "PackStore$Entry", name := "takeWhole", desc := "()V" } : Jvm.MethodName)) ∈ vWS := vm_g (vm_t (vm_3 (List.mem_of_getElem? (i := 126) rfl))) rfl
theorem vw3_127 : (Jvm.Cond.selects "PackStore$Entry" ({ cls := "PackStore$Entry", name := "takeWhole", desc := "()V" } : Jvm.MethodName) ({ cls := "PackStore$Entry", name := "takeWhole", desc := "()V" } : Jvm.MethodName)) ∈ vWS := vm_g (vm_t (vm_3 (List.mem_of_getElem? (i := 127) rfl))) rfl
theorem vw3_128 : (Jvm.Cond.code ({ cls := "PackStore$Entry", name := "takeWhole", desc := "()V" } : Jvm.MethodName) prog_4_method_4_code (1 : Nat) (Option.none : Option Jvm.ClassFile.FieldType)) ∈ vWS := vm_g (vm_t (vm_3 (List.mem_of_getElem? (i := 128) rfl))) rfl
theorem vw3_129 : (Jvm.Cond.methodLink "PackStore$Entry" (31 : Nat) ({ cls := "PackStore$Entry", name := "isWhole", desc := "()Z" } : Jvm.MethodName)) ∈ vWS := vm_g (vm_t (vm_3 (List.mem_of_getElem? (i := 129) rfl))) rfl
theorem vw3_130 : (Jvm.Cond.methodLink "PackStore$Entry" (39 : Nat) ({ cls := "PackStore$Item", name := "fill", desc := "(ILPackStore$Row;)V" } : Jvm.MethodName)) ∈ vWS := vm_g (vm_t (vm_3 (List.mem_of_getElem? (i := 130) rfl))) rfl
theorem vw3_131 : (Jvm.Cond.methodLink "PackStore$PackReader" (127 : Nat) ({ cls := "PackStore$PackReader", name := "workRound", desc := "()I" } : Jvm.MethodName)) ∈ vWS := vm_g (vm_t (vm_3 (List.mem_of_getElem? (i := 131) rfl))) rfl
theorem vw3_133 : (Jvm.Cond.instanceMethod ({ cls := "PackStore$PackReader", name := "workRound", desc := "()I" } : Jvm.MethodName)) ∈ vWS := vm_g (vm_t (vm_3 (List.mem_of_getElem? (i := 133) rfl))) rfl
theorem vw3_134 : (Jvm.Cond.code ({ cls := "PackStore$PackReader", name := "workRound", desc := "()I" } : Jvm.MethodName) prog_7_method_16_code (5 : Nat) (Option.some Jvm.ClassFile.FieldType.int)) ∈ vWS := vm_g (vm_t (vm_3 (List.mem_of_getElem? (i := 134) rfl))) rfl
theorem vw3_135 : (Jvm.Cond.methodLink "PackStore$PackReader" (130 : Nat) ({ cls := "PackStore$PackReader", name := "baseOf", desc := "(LPackStore$Entry;)LPackStore$Item;" } : Jvm.MethodName)) ∈ vWS := vm_g (vm_t (vm_3 (List.mem_of_getElem? (i := 135) rfl))) rfl
theorem vw3_137 : (Jvm.Cond.instanceMethod ({ cls := "PackStore$PackReader", name := "baseOf", desc := "(LPackStore$Entry;)LPackStore$Item;" } : Jvm.MethodName)) ∈ vWS := vm_g (vm_t (vm_3 (List.mem_of_getElem? (i := 137) rfl))) rfl
theorem vw3_138 : (Jvm.Cond.code ({ cls := "PackStore$PackReader", name := "baseOf", desc := "(LPackStore$Entry;)LPackStore$Item;" } : Jvm.MethodName) prog_7_method_17_code (3 : Nat) (Option.some (Jvm.ClassFile.FieldType.object "PackStore$Item"))) ∈ vWS := vm_g (vm_t (vm_3 (List.mem_of_getElem? (i := 138) rfl))) rfl
theorem vw3_139 : (Jvm.Cond.methodLink "PackStore$PackReader" (155 : Nat) ({ cls := "PackStore$Item", name := "id", desc := "()I" } : Jvm.MethodName)) ∈ vWS := vm_g (vm_t (vm_3 (List.mem_of_getElem? (i := 139) rfl))) rfl
theorem vw3_140 : (Jvm.Cond.methodLink "PackStore$PackReader" (158 : Nat) ({ cls := "PackStore$Shelf", name := "find", desc := "(I)I" } : Jvm.MethodName)) ∈ vWS := vm_g (vm_t (vm_3 (List.mem_of_getElem? (i := 140) rfl))) rfl
theorem vw3_141 : (Jvm.Cond.methodLink "PackStore$PackReader" (163 : Nat) ({ cls := "PackStore$Shelf", name := "get", desc := "(I)LPackStore$Item;" } : Jvm.MethodName)) ∈ vWS := vm_g (vm_t (vm_3 (List.mem_of_getElem? (i := 141) rfl))) rfl
theorem vw3_142 : (Jvm.Cond.methodLink "PackStore$PackReader" (134 : Nat) ({ cls := "PackStore$Item", name := "bytes", desc := "()LPackStore$Row;" } : Jvm.MethodName)) ∈ vWS := vm_g (vm_t (vm_3 (List.mem_of_getElem? (i := 142) rfl))) rfl
theorem vw3_143 : (Jvm.Cond.methodLink "PackStore$PackReader" (144 : Nat) ({ cls := "PackStore$Difference", name := "apply", desc := "(LPackStore$Row;LPackStore$Row;LPackStore$Row;)Z" } : Jvm.MethodName)) ∈ vWS := vm_g (vm_t (vm_3 (List.mem_of_getElem? (i := 143) rfl))) rfl
theorem vw3_144 : (Jvm.Cond.static ({ cls := "PackStore$Difference", name := "apply", desc := "(LPackStore$Row;LPackStore$Row;LPackStore$Row;)Z" } : Jvm.MethodName)) ∈ vWS := vm_g (vm_t (vm_3 (List.mem_of_getElem? (i := 144) rfl))) rfl
theorem vw3_145 : (Jvm.Cond.code ({ cls := "PackStore$Difference", name := "apply", desc := "(LPackStore$Row;LPackStore$Row;LPackStore$Row;)Z" } : Jvm.MethodName) prog_3_method_5_code (6 : Nat) (Option.some Jvm.ClassFile.FieldType.boolean)) ∈ vWS := vm_g (vm_t (vm_3 (List.mem_of_getElem? (i := 145) rfl))) rfl
theorem vw3_146 : (Jvm.Cond.methodLink "PackStore$Difference" (38 : Nat) ({ cls := "PackStore$Row", name := "get", desc := "(I)I" } : Jvm.MethodName)) ∈ vWS := vm_g (vm_t (vm_3 (List.mem_of_getElem? (i := 146) rfl))) rfl
theorem vw3_147 : (Jvm.Cond.methodLink "PackStore$Difference" (42 : Nat) ({ cls := "PackStore$Difference", name := "applyStep", desc := "(LPackStore$Row;LPackStore$Row;ILPackStore$Row;)Z" } : Jvm.MethodName)) ∈ vWS := vm_g (vm_t (vm_3 (List.mem_of_getElem? (i := 147) rfl))) rfl
theorem vw3_148 : (Jvm.Cond.static ({ cls := "PackStore$Difference", name := "applyStep", desc := "(LPackStore$Row;LPackStore$Row;ILPackStore$Row;)Z" } : Jvm.MethodName)) ∈ vWS := vm_g (vm_t (vm_3 (List.mem_of_getElem? (i := 148) rfl))) rfl
theorem vw3_149 : (Jvm.Cond.code ({ cls := "PackStore$Difference", name := "applyStep", desc := "(LPackStore$Row;LPackStore$Row;ILPackStore$Row;)Z" } : Jvm.MethodName) prog_3_method_6_code (5 : Nat) (Option.some Jvm.ClassFile.FieldType.boolean)) ∈ vWS := vm_g (vm_t (vm_3 (List.mem_of_getElem? (i := 149) rfl))) rfl
theorem vw3_150 : (Jvm.Cond.methodLink "PackStore$PackReader" (150 : Nat) ({ cls := "PackStore$Item", name := "sort", desc := "()I" } : Jvm.MethodName)) ∈ vWS := vm_g (vm_t (vm_3 (List.mem_of_getElem? (i := 150) rfl))) rfl
theorem vw3_151 : (Jvm.Cond.methodLink "PackStore$PackReader" (152 : Nat) ({ cls := "PackStore$Item", name := "finish", desc := "(I)V" } : Jvm.MethodName)) ∈ vWS := vm_g (vm_t (vm_3 (List.mem_of_getElem? (i := 151) rfl))) rfl
theorem vw3_152 : (Jvm.Cond.methodLink "PackStore" (165 : Nat) ({ cls := "PackStore$PackReader", name := "isSound", desc := "()Z" } : Jvm.MethodName)) ∈ vWS := vm_g (vm_t (vm_3 (List.mem_of_getElem? (i := 152) rfl))) rfl
theorem vw3_153 : (Jvm.Cond.instanceMethod ({ cls := "PackStore$PackReader", name := "isSound", desc := "()Z" } : Jvm.MethodName)) ∈ vWS := vm_g (vm_t (vm_3 (List.mem_of_getElem? (i := 153) rfl))) rfl
theorem vw3_154 : (Jvm.Cond.selects "PackStore$PackReader" ({ cls := "PackStore$PackReader", name := "isSound", desc := "()Z" } : Jvm.MethodName) ({ cls := "PackStore$PackReader", name := "isSound", desc := "()Z" } : Jvm.MethodName)) ∈ vWS := vm_g (vm_t (vm_3 (List.mem_of_getElem? (i := 154) rfl))) rfl
theorem vw3_155 : (Jvm.Cond.code ({ cls := "PackStore$PackReader", name := "isSound", desc := "()Z" } : Jvm.MethodName) prog_7_method_18_code (2 : Nat) (Option.some Jvm.ClassFile.FieldType.boolean)) ∈ vWS := vm_g (vm_t (vm_3 (List.mem_of_getElem? (i := 155) rfl))) rfl
theorem vw3_156 : (Jvm.Cond.methodLink "PackStore$PackReader" (166 : Nat) ({ cls := "PackStore$Item", name := "isWellFormed", desc := "()Z" } : Jvm.MethodName)) ∈ vWS := vm_g (vm_t (vm_3 (List.mem_of_getElem? (i := 156) rfl))) rfl
theorem vw3_157 : (Jvm.Cond.methodLink "PackStore$PackReader" (169 : Nat) ({ cls := "PackStore$PackReader", name := "isClashing", desc := "(I)Z" } : Jvm.MethodName)) ∈ vWS := vm_g (vm_t (vm_3 (List.mem_of_getElem? (i := 157) rfl))) rfl
theorem vw3_159 : (Jvm.Cond.instanceMethod ({ cls := "PackStore$PackReader", name := "isClashing", desc := "(I)Z" } : Jvm.MethodName)) ∈ vWS := vm_g (vm_t (vm_3 (List.mem_of_getElem? (i := 159) rfl))) rfl
theorem vw3_160 : (Jvm.Cond.code ({ cls := "PackStore$PackReader", name := "isClashing", desc := "(I)Z" } : Jvm.MethodName) prog_7_method_19_code (4 : Nat) (Option.some Jvm.ClassFile.FieldType.boolean)) ∈ vWS := vm_g (vm_t (vm_3 (List.mem_of_getElem? (i := 160) rfl))) rfl
theorem vw3_161 : (Jvm.Cond.methodLink "PackStore$PackReader" (172 : Nat) ({ cls := "PackStore$Item", name := "clashesWith", desc := "(LPackStore$Item;)Z" } : Jvm.MethodName)) ∈ vWS := vm_g (vm_t (vm_3 (List.mem_of_getElem? (i := 161) rfl))) rfl
theorem vw3_162 : (Jvm.Cond.instanceMethod ({ cls := "PackStore$Item", name := "clashesWith", desc := "(LPackStore$Item;)Z" } : Jvm.MethodName)) ∈ vWS := vm_g (vm_t (vm_3 (List.mem_of_getElem? (i := 162) rfl))) rfl
theorem vw3_163 : (Jvm.Cond.selects "PackStore$Item" ({ cls := "PackStore$Item", name := "clashesWith", desc := "(LPackStore$Item;)Z" } : Jvm.MethodName) ({ cls := "PackStore$Item", name := "clashesWith", desc := "(LPackStore$Item;)Z" } : Jvm.MethodName)) ∈ vWS := vm_g (vm_t (vm_3 (List.mem_of_getElem? (i := 163) rfl))) rfl
theorem vw3_164 : (Jvm.Cond.code ({ cls := "PackStore$Item", name := "clashesWith", desc := "(LPackStore$Item;)Z" } : Jvm.MethodName) prog_6_method_8_code (2 : Nat) (Option.some Jvm.ClassFile.FieldType.boolean)) ∈ vWS := vm_g (vm_t (vm_3 (List.mem_of_getElem? (i := 164) rfl))) rfl
theorem vw3_165 : (Jvm.Cond.methodLink "PackStore$Item" (52 : Nat) ({ cls := "PackStore$Item", name := "isSame", desc := "(LPackStore$Item;)Z" } : Jvm.MethodName)) ∈ vWS := vm_g (vm_t (vm_3 (List.mem_of_getElem? (i := 165) rfl))) rfl
theorem vw3_166 : (Jvm.Cond.methodLink "PackStore" (168 : Nat) ({ cls := "PackStore$PackReader", name := "newItems", desc := "()I" } : Jvm.MethodName)) ∈ vWS := vm_g (vm_t (vm_3 (List.mem_of_getElem? (i := 166) rfl))) rfl
theorem vw3_167 : (Jvm.Cond.instanceMethod ({ cls := "PackStore$PackReader", name := "newItems", desc := "()I" } : Jvm.MethodName)) ∈ vWS := vm_g (vm_t (vm_3 (List.mem_of_getElem? (i := 167) rfl))) rfl
theorem vw3_168 : (Jvm.Cond.selects "PackStore$PackReader" ({ cls := "PackStore$PackReader", name := "newItems", desc := "()I" } : Jvm.MethodName) ({ cls := "PackStore$PackReader", name := "newItems", desc := "()I" } : Jvm.MethodName)) ∈ vWS := vm_g (vm_t (vm_3 (List.mem_of_getElem? (i := 168) rfl))) rfl
theorem vw3_169 : (Jvm.Cond.code ({ cls := "PackStore$PackReader", name := "newItems", desc := "()I" } : Jvm.MethodName) prog_7_method_20_code (3 : Nat) (Option.some Jvm.ClassFile.FieldType.int)) ∈ vWS := vm_g (vm_t (vm_3 (List.mem_of_getElem? (i := 169) rfl))) rfl
theorem vw3_170 : (Jvm.Cond.methodLink "PackStore$PackReader" (176 : Nat) ({ cls := "PackStore$PackReader", name := "isNew", desc := "(I)Z" } : Jvm.MethodName)) ∈ vWS := vm_g (vm_t (vm_3 (List.mem_of_getElem? (i := 170) rfl))) rfl
theorem vw3_172 : (Jvm.Cond.instanceMethod ({ cls := "PackStore$PackReader", name := "isNew", desc := "(I)Z" } : Jvm.MethodName)) ∈ vWS := vm_g (vm_t (vm_3 (List.mem_of_getElem? (i := 172) rfl))) rfl
theorem vw3_173 : (Jvm.Cond.code ({ cls := "PackStore$PackReader", name := "isNew", desc := "(I)Z" } : Jvm.MethodName) prog_7_method_21_code (4 : Nat) (Option.some Jvm.ClassFile.FieldType.boolean)) ∈ vWS := vm_g (vm_t (vm_3 (List.mem_of_getElem? (i := 173) rfl))) rfl
theorem vw3_174 : (Jvm.Cond.methodLink "PackStore" (171 : Nat) ({ cls := "PackStore$PackReader", name := "keepNew", desc := "()I" } : Jvm.MethodName)) ∈ vWS := vm_g (vm_t (vm_3 (List.mem_of_getElem? (i := 174) rfl))) rfl
theorem vw3_175 : (Jvm.Cond.instanceMethod ({ cls := "PackStore$PackReader", name := "keepNew", desc := "()I" } : Jvm.MethodName)) ∈ vWS := vm_g (vm_t (vm_3 (List.mem_of_getElem? (i := 175) rfl))) rfl
theorem vw3_176 : (Jvm.Cond.selects "PackStore$PackReader" ({ cls := "PackStore$PackReader", name := "keepNew", desc := "()I" } : Jvm.MethodName) ({ cls := "PackStore$PackReader", name := "keepNew", desc := "()I" } : Jvm.MethodName)) ∈ vWS := vm_g (vm_t (vm_3 (List.mem_of_getElem? (i := 176) rfl))) rfl
theorem vw3_177 : (Jvm.Cond.code ({ cls := "PackStore$PackReader", name := "keepNew", desc := "()I" } : Jvm.MethodName) prog_7_method_22_code (4 : Nat) (Option.some Jvm.ClassFile.FieldType.int)) ∈ vWS := vm_g (vm_t (vm_3 (List.mem_of_getElem? (i := 177) rfl))) rfl
theorem vw3_178 : (Jvm.Cond.methodLink "PackStore$PackReader" (179 : Nat) ({ cls := "PackStore$Shelf", name := "held", desc := "()I" } : Jvm.MethodName)) ∈ vWS := vm_g (vm_t (vm_3 (List.mem_of_getElem? (i := 178) rfl))) rfl
theorem vw3_179 : (Jvm.Cond.methodLink "PackStore$PackReader" (182 : Nat) ({ cls := "PackStore$Shelf", name := "keep", desc := "(LPackStore$Item;)V" } : Jvm.MethodName)) ∈ vWS := vm_g (vm_t (vm_3 (List.mem_of_getElem? (i := 179) rfl))) rfl
theorem vw3_180 : (Jvm.Cond.methodLink "PackStoreLaw" (65 : Nat) ({ cls := "PackStore", name := "forget", desc := "()I" } : Jvm.MethodName)) ∈ vWS := vm_g (vm_t (vm_3 (List.mem_of_getElem? (i := 180) rfl))) rfl
theorem vw3_181 : (Jvm.Cond.instanceMethod ({ cls := "PackStore", name := "forget", desc := "()I" } : Jvm.MethodName)) ∈ vWS := vm_g (vm_t (vm_3 (List.mem_of_getElem? (i := 181) rfl))) rfl
theorem vw3_182 : (Jvm.Cond.selects "PackStore" ({ cls := "PackStore", name := "forget", desc := "()I" } : Jvm.MethodName) ({ cls := "PackStore", name := "forget", desc := "()I" } : Jvm.MethodName)) ∈ vWS := vm_g (vm_t (vm_3 (List.mem_of_getElem? (i := 182) rfl))) rfl
theorem vw3_183 : (Jvm.Cond.code ({ cls := "PackStore", name := "forget", desc := "()I" } : Jvm.MethodName) prog_1_method_14_code (2 : Nat) (Option.some Jvm.ClassFile.FieldType.int)) ∈ vWS := vm_g (vm_t (vm_3 (List.mem_of_getElem? (i := 183) rfl))) rfl
theorem vw3_184 : (Jvm.Cond.methodLink "PackStore" (174 : Nat) ({ cls := "PackStore$Shelf", name := "held", desc := "()I" } : Jvm.MethodName)) ∈ vWS := vm_g (vm_t (vm_3 (List.mem_of_getElem? (i := 184) rfl))) rfl
theorem vw3_185 : (Jvm.Cond.methodLink "PackStore" (177 : Nat) ({ cls := "PackStore$Shelf", name := "clear", desc := "()V" } : Jvm.MethodName)) ∈ vWS := vm_g (vm_t (vm_3 (List.mem_of_getElem? (i := 185) rfl))) rfl
theorem vw3_186 : (Jvm.Cond.instanceMethod ({ cls := "PackStore$Shelf", name := "clear", desc := "()V" } : Jvm.MethodName)) ∈ vWS := vm_g (vm_t (vm_3 (List.mem_of_getElem? (i := 186) rfl))) rfl
theorem vw3_187 : (Jvm.Cond.selects "PackStore$Shelf" ({ cls := "PackStore$Shelf", name := "clear", desc := "()V" } : Jvm.MethodName) ({ cls := "PackStore$Shelf", name := "clear", desc := "()V" } : Jvm.MethodName)) ∈ vWS := vm_g (vm_t (vm_3 (List.mem_of_getElem? (i := 187) rfl))) rfl
theorem vw3_188 : (Jvm.Cond.code ({ cls := "PackStore$Shelf", name := "clear", desc := "()V" } : Jvm.MethodName) prog_11_method_5_code (1 : Nat) (Option.none : Option Jvm.ClassFile.FieldType)) ∈ vWS := vm_g (vm_t (vm_3 (List.mem_of_getElem? (i := 188) rfl))) rfl
theorem vw3_189 : (Jvm.Cond.methodLink "PackStoreLaw" (69 : Nat) ({ cls := "PackStore", name := "kind", desc := "(II)I" } : Jvm.MethodName)) ∈ vWS := vm_g (vm_t (vm_3 (List.mem_of_getElem? (i := 189) rfl))) rfl
theorem vw3_190 : (Jvm.Cond.instanceMethod ({ cls := "PackStore", name := "kind", desc := "(II)I" } : Jvm.MethodName)) ∈ vWS := vm_g (vm_t (vm_3 (List.mem_of_getElem? (i := 190) rfl))) rfl
theorem vw3_191 : (Jvm.Cond.selects "PackStore" ({ cls := "PackStore", name := "kind", desc := "(II)I" } : Jvm.MethodName) ({ cls := "PackStore", name := "kind", desc := "(II)I" } : Jvm.MethodName)) ∈ vWS := vm_g (vm_t (vm_3 (List.mem_of_getElem? (i := 191) rfl))) rfl
theorem vw3_192 : (Jvm.Cond.code ({ cls := "PackStore", name := "kind", desc := "(II)I" } : Jvm.MethodName) prog_1_method_15_code (4 : Nat) (Option.some Jvm.ClassFile.FieldType.int)) ∈ vWS := vm_g (vm_t (vm_3 (List.mem_of_getElem? (i := 192) rfl))) rfl
theorem vw3_193 : (Jvm.Cond.methodLink "PackStore" (178 : Nat) ({ cls := "PackStore", name := "itemOn", desc := "(II)LPackStore$Item;" } : Jvm.MethodName)) ∈ vWS := vm_g (vm_t (vm_3 (List.mem_of_getElem? (i := 193) rfl))) rfl
theorem vw3_195 : (Jvm.Cond.instanceMethod ({ cls := "PackStore", name := "itemOn", desc := "(II)LPackStore$Item;" } : Jvm.MethodName)) ∈ vWS := vm_g (vm_t (vm_3 (List.mem_of_getElem? (i := 195) rfl))) rfl
theorem vw3_196 : (Jvm.Cond.code ({ cls := "PackStore", name := "itemOn", desc := "(II)LPackStore$Item;" } : Jvm.MethodName) prog_1_method_22_code (5 : Nat) (Option.some (Jvm.ClassFile.FieldType.object "PackStore$Item"))) ∈ vWS := vm_g (vm_t (vm_3 (List.mem_of_getElem? (i := 196) rfl))) rfl
theorem vw3_197 : (Jvm.Cond.methodLink "PackStore" (186 : Nat) ({ cls := "PackStore", name := "shelfOf", desc := "(I)LPackStore$Shelf;" } : Jvm.MethodName)) ∈ vWS := vm_g (vm_t (vm_3 (List.mem_of_getElem? (i := 197) rfl))) rfl
theorem vw3_199 : (Jvm.Cond.instanceMethod ({ cls := "PackStore", name := "shelfOf", desc := "(I)LPackStore$Shelf;" } : Jvm.MethodName)) ∈ vWS := vm_g (vm_t (vm_3 (List.mem_of_getElem? (i := 199) rfl))) rfl
theorem vw3_200 : (Jvm.Cond.code ({ cls := "PackStore", name := "shelfOf", desc := "(I)LPackStore$Shelf;" } : Jvm.MethodName) prog_1_method_21_code (2 : Nat) (Option.some (Jvm.ClassFile.FieldType.object "PackStore$Shelf"))) ∈ vWS := vm_g (vm_t (vm_3 (List.mem_of_getElem? (i := 200) rfl))) rfl
theorem vw3_201 : (Jvm.Cond.methodLink "PackStoreLaw" (74 : Nat) ({ cls := "PackStore", name := "length", desc := "(II)I" } : Jvm.MethodName)) ∈ vWS := vm_g (vm_t (vm_3 (List.mem_of_getElem? (i := 201) rfl))) rfl
theorem vw3_202 : (Jvm.Cond.instanceMethod ({ cls := "PackStore", name := "length", desc := "(II)I" } : Jvm.MethodName)) ∈ vWS := vm_g (vm_t (vm_3 (List.mem_of_getElem? (i := 202) rfl))) rfl
theorem vw3_203 : (Jvm.Cond.selects "PackStore" ({ cls := "PackStore", name := "length", desc := "(II)I" } : Jvm.MethodName) ({ cls := "PackStore", name := "length", desc := "(II)I" } : Jvm.MethodName)) ∈ vWS := vm_g (vm_t (vm_3 (List.mem_of_getElem? (i := 203) rfl))) rfl
theorem vw3_204 : (Jvm.Cond.code ({ cls := "PackStore", name := "length", desc := "(II)I" } : Jvm.MethodName) prog_1_method_16_code (4 : Nat) (Option.some Jvm.ClassFile.FieldType.int)) ∈ vWS := vm_g (vm_t (vm_3 (List.mem_of_getElem? (i := 204) rfl))) rfl
theorem vw3_205 : (Jvm.Cond.methodLink "PackStore" (182 : Nat) ({ cls := "PackStore$Item", name := "bytes", desc := "()LPackStore$Row;" } : Jvm.MethodName)) ∈ vWS := vm_g (vm_t (vm_3 (List.mem_of_getElem? (i := 205) rfl))) rfl
theorem vw3_206 : (Jvm.Cond.methodLink "PackStoreLaw" (78 : Nat) ({ cls := "PackStore", name := "content", desc := "(III)I" } : Jvm.MethodName)) ∈ vWS := vm_g (vm_t (vm_3 (List.mem_of_getElem? (i := 206) rfl))) rfl
theorem vw3_207 : (Jvm.Cond.instanceMethod ({ cls := "PackStore", name := "content", desc := "(III)I" } : Jvm.MethodName)) ∈ vWS := vm_g (vm_t (vm_3 (List.mem_of_getElem? (i := 207) rfl))) rfl
theorem vw3_208 : (Jvm.Cond.selects "PackStore" ({ cls := "PackStore", name := "content", desc := "(III)I" } : Jvm.MethodName) ({ cls := "PackStore", name := "content", desc := "(III)I" } : Jvm.MethodName)) ∈ vWS := vm_g (vm_t (vm_3 (List.mem_of_getElem? (i := 208) rfl))) rfl
theorem vw3_209 : (Jvm.Cond.code ({ cls := "PackStore", name := "content", desc := "(III)I" } : Jvm.MethodName) prog_1_method_17_code (5 : Nat) (Option.some Jvm.ClassFile.FieldType.int)) ∈ vWS := vm_g (vm_t (vm_3 (List.mem_of_getElem? (i := 209) rfl))) rfl
theorem vw3_210 : (Jvm.Cond.methodLink "PackStoreLaw" (83 : Nat) ({ cls := "PackStore", name := "closure", desc := "(II)I" } : Jvm.MethodName)) ∈ vWS := vm_g (vm_t (vm_3 (List.mem_of_getElem? (i := 210) rfl))) rfl
theorem vw3_211 : (Jvm.Cond.instanceMethod ({ cls := "PackStore", name := "closure", desc := "(II)I" } : Jvm.MethodName)) ∈ vWS := vm_g (vm_t (vm_3 (List.mem_of_getElem? (i := 211) rfl))) rfl
theorem vw3_212 : (Jvm.Cond.selects "PackStore" ({ cls := "PackStore", name := "closure", desc := "(II)I" } : Jvm.MethodName) ({ cls := "PackStore", name := "closure", desc := "(II)I" } : Jvm.MethodName)) ∈ vWS := vm_g (vm_t (vm_3 (List.mem_of_getElem? (i := 212) rfl))) rfl
theorem vw3_213 : (Jvm.Cond.code ({ cls := "PackStore", name := "closure", desc := "(II)I" } : Jvm.MethodName) prog_1_method_18_code (4 : Nat) (Option.some Jvm.ClassFile.FieldType.int)) ∈ vWS := vm_g (vm_t (vm_3 (List.mem_of_getElem? (i := 213) rfl))) rfl
theorem vw3_214 : (Jvm.Cond.methodLink "PackStore" (190 : Nat) ({ cls := "PackStore$Closure", name := "found", desc := "()I" } : Jvm.MethodName)) ∈ vWS := vm_g (vm_t (vm_3 (List.mem_of_getElem? (i := 214) rfl))) rfl
theorem vw3_215 : (Jvm.Cond.instanceMethod ({ cls := "PackStore$Closure", name := "found", desc := "()I" } : Jvm.MethodName)) ∈ vWS := vm_g (vm_t (vm_3 (List.mem_of_getElem? (i := 215) rfl))) rfl
theorem vw3_216 : (Jvm.Cond.selects "PackStore$Closure" ({ cls := "PackStore$Closure", name := "found", desc := "()I" } : Jvm.MethodName) ({ cls := "PackStore$Closure", name := "found", desc := "()I" } : Jvm.MethodName)) ∈ vWS := vm_g (vm_t (vm_3 (List.mem_of_getElem? (i := 216) rfl))) rfl
theorem vw3_217 : (Jvm.Cond.code ({ cls := "PackStore$Closure", name := "found", desc := "()I" } : Jvm.MethodName) prog_2_method_2_code (1 : Nat) (Option.some Jvm.ClassFile.FieldType.int)) ∈ vWS := vm_g (vm_t (vm_3 (List.mem_of_getElem? (i := 217) rfl))) rfl
theorem vw3_218 : (Jvm.Cond.methodLink "PackStoreLaw" (87 : Nat) ({ cls := "PackStore", name := "count", desc := "(I)I" } : Jvm.MethodName)) ∈ vWS := vm_g (vm_t (vm_3 (List.mem_of_getElem? (i := 218) rfl))) rfl
theorem vw3_219 : (Jvm.Cond.instanceMethod ({ cls := "PackStore", name := "count", desc := "(I)I" } : Jvm.MethodName)) ∈ vWS := vm_g (vm_t (vm_3 (List.mem_of_getElem? (i := 219) rfl))) rfl
theorem vw3_220 : (Jvm.Cond.selects "PackStore" ({ cls := "PackStore", name := "count", desc := "(I)I" } : Jvm.MethodName) ({ cls := "PackStore", name := "count", desc := "(I)I" } : Jvm.MethodName)) ∈ vWS := vm_g (vm_t (vm_3 (List.mem_of_getElem? (i := 220) rfl))) rfl
theorem vw3_221 : (Jvm.Cond.code ({ cls := "PackStore", name := "count", desc := "(I)I" } : Jvm.MethodName) prog_1_method_19_code (3 : Nat) (Option.some Jvm.ClassFile.FieldType.int)) ∈ vWS := vm_g (vm_t (vm_3 (List.mem_of_getElem? (i := 221) rfl))) rfl
theorem vw3_222 : (Jvm.Cond.classLink "PackStoreLaw" (10 : Nat) "PackStoreModel") ∈ vWS := vm_g (vm_t (vm_3 (List.mem_of_getElem? (i := 222) rfl))) rfl
theorem vw3_223 : (Jvm.Cond.instantiable "PackStoreModel" (25 : Nat)) ∈ vWS := vm_g (vm_t (vm_3 (List.mem_of_getElem? (i := 223) rfl))) rfl
theorem vw3_224 : (Jvm.Cond.methodLink "PackStoreLaw" (12 : Nat) ({ cls := "PackStoreModel", name := "<init>", desc := "()V" } : Jvm.MethodName)) ∈ vWS := vm_g (vm_t (vm_3 (List.mem_of_getElem? (i := 224) rfl))) rfl
theorem vw3_225 : (Jvm.Cond.instanceMethod ({ cls := "PackStoreModel", name := "<init>", desc := "()V" } : Jvm.MethodName)) ∈ vWS := vm_g (vm_t (vm_3 (List.mem_of_getElem? (i := 225) rfl))) rfl
theorem vw3_226 : (Jvm.Cond.code ({ cls := "PackStoreModel", name := "<init>", desc := "()V" } : Jvm.MethodName) prog_13_method_1_code (2 : Nat) (Option.none : Option Jvm.ClassFile.FieldType)) ∈ vWS := vm_g (vm_t (vm_3 (List.mem_of_getElem? (i := 226) rfl))) rfl
theorem vw3_227 : (Jvm.Cond.methodLink "PackStoreModel" (1 : Nat) ({ cls := "java/lang/Object", name := "<init>", desc := "()V" } : Jvm.MethodName)) ∈ vWS := vm_g (vm_t (vm_3 (List.mem_of_getElem? (i := 227) rfl))) rfl
theorem vw3_228 : (Jvm.Cond.fieldLink "PackStoreModel" (7 : Nat) "PackStoreModel" "buffer" "[I") ∈ vWS := vm_g (vm_t (vm_3 (List.mem_of_getElem? (i := 228) rfl))) rfl
theorem vw3_229 : (Jvm.Cond.fieldLink "PackStoreModel" (67 : Nat) "PackStoreModel" "size" "I") ∈ vWS := vm_g (vm_t (vm_3 (List.mem_of_getElem? (i := 229) rfl))) rfl
theorem vw3_230 : (Jvm.Cond.fieldLink "PackStoreModel" (13 : Nat) "PackStoreModel" "held" "[I") ∈ vWS := vm_g (vm_t (vm_3 (List.mem_of_getElem? (i := 230) rfl))) rfl
theorem vw3_231 : (Jvm.Cond.fieldLink "PackStoreModel" (16 : Nat) "PackStoreModel" "kinds" "[I") ∈ vWS := vm_g (vm_t (vm_3 (List.mem_of_getElem? (i := 231) rfl))) rfl
theorem vw3_232 : (Jvm.Cond.fieldLink "PackStoreModel" (19 : Nat) "PackStoreModel" "sizes" "[I") ∈ vWS := vm_g (vm_t (vm_3 (List.mem_of_getElem? (i := 232) rfl))) rfl
theorem vw3_233 : (Jvm.Cond.fieldLink "PackStoreModel" (22 : Nat) "PackStoreModel" "bytes" "[I") ∈ vWS := vm_g (vm_t (vm_3 (List.mem_of_getElem? (i := 233) rfl))) rfl
theorem vw3_234 : (Jvm.Cond.fieldLink "PackStoreModel" (25 : Nat) "PackStoreModel" "mark" "[Z") ∈ vWS := vm_g (vm_t (vm_3 (List.mem_of_getElem? (i := 234) rfl))) rfl
theorem vw3_235 : (Jvm.Cond.fieldLink "PackStoreModel" (85 : Nat) "PackStoreModel" "whole" "Z") ∈ vWS := vm_g (vm_t (vm_3 (List.mem_of_getElem? (i := 235) rfl))) rfl
theorem vw3_236 : (Jvm.Cond.fieldLink "PackStoreModel" (29 : Nat) "PackStoreModel" "refs" "[I") ∈ vWS := vm_g (vm_t (vm_3 (List.mem_of_getElem? (i := 236) rfl))) rfl
theorem vw3_237 : (Jvm.Cond.fieldLink "PackStoreModel" (32 : Nat) "PackStoreModel" "wanted" "[Z") ∈ vWS := vm_g (vm_t (vm_3 (List.mem_of_getElem? (i := 237) rfl))) rfl
theorem vw3_238 : (Jvm.Cond.fieldLink "PackStoreModel" (108 : Nat) "PackStoreModel" "someWanted" "Z") ∈ vWS := vm_g (vm_t (vm_3 (List.mem_of_getElem? (i := 238) rfl))) rfl
theorem vw3_239 : (Jvm.Cond.fieldLink "PackStoreModel" (111 : Nat) "PackStoreModel" "haves" "I") ∈ vWS := vm_g (vm_t (vm_3 (List.mem_of_getElem? (i := 239) rfl))) rfl
theorem vw4_0 : (Jvm.Cond.fieldLink "PackStoreModel" (35 : Nat) "PackStoreModel" "have" "[I") ∈ vWS := vm_g (vm_t (vm_4 (List.mem_of_getElem? (i := 0) rfl))) rfl
theorem vw4_1 : (Jvm.Cond.fieldLink "PackStoreModel" (133 : Nat) "PackStoreModel" "many" "I") ∈ vWS := vm_g (vm_t (vm_4 (List.mem_of_getElem? (i := 1) rfl))) rfl
theorem vw4_2 : (Jvm.Cond.fieldLink "PackStoreModel" (38 : Nat) "PackStoreModel" "order" "[I") ∈ vWS := vm_g (vm_t (vm_4 (List.mem_of_getElem? (i := 2) rfl))) rfl
theorem vw4_3 : (Jvm.Cond.fieldLink "PackStoreModel" (41 : Nat) "PackStoreModel" "headAt" "[I") ∈ vWS := vm_g (vm_t (vm_4 (List.mem_of_getElem? (i := 3) rfl))) rfl
theorem vw4_4 : (Jvm.Cond.fieldLink "PackStoreModel" (114 : Nat) "PackStoreModel" "rowSize" "I") ∈ vWS := vm_g (vm_t (vm_4 (List.mem_of_getElem? (i := 4) rfl))) rfl
theorem vw4_5 : (Jvm.Cond.fieldLink "PackStoreModel" (44 : Nat) "PackStoreModel" "row" "[I") ∈ vWS := vm_g (vm_t (vm_4 (List.mem_of_getElem? (i := 5) rfl))) rfl
theorem vw4_6 : (Jvm.Cond.fieldLink "PackStoreModel" (154 : Nat) "PackStoreModel" "at" "I") ∈ vWS := vm_g (vm_t (vm_4 (List.mem_of_getElem? (i := 6) rfl))) rfl
theorem vw4_7 : (Jvm.Cond.fieldLink "PackStoreModel" (165 : Nat) "PackStoreModel" "entries" "I") ∈ vWS := vm_g (vm_t (vm_4 (List.mem_of_getElem? (i := 7) rfl))) rfl
theorem vw4_8 : (Jvm.Cond.fieldLink "PackStoreModel" (47 : Nat) "PackStoreModel" "eSort" "[I") ∈ vWS := vm_g (vm_t (vm_4 (List.mem_of_getElem? (i := 8) rfl))) rfl
theorem vw4_9 : (Jvm.Cond.fieldLink "PackStoreModel" (50 : Nat) "PackStoreModel" "eSize" "[I") ∈ vWS := vm_g (vm_t (vm_4 (List.mem_of_getElem? (i := 9) rfl))) rfl
theorem vw4_10 : (Jvm.Cond.fieldLink "PackStoreModel" (53 : Nat) "PackStoreModel" "eBase" "[I") ∈ vWS := vm_g (vm_t (vm_4 (List.mem_of_getElem? (i := 10) rfl))) rfl
theorem vw4_11 : (Jvm.Cond.fieldLink "PackStoreModel" (56 : Nat) "PackStoreModel" "eBytes" "[I") ∈ vWS := vm_g (vm_t (vm_4 (List.mem_of_getElem? (i := 11) rfl))) rfl
theorem vw4_12 : (Jvm.Cond.fieldLink "PackStoreModel" (59 : Nat) "PackStoreModel" "done" "[Z") ∈ vWS := vm_g (vm_t (vm_4 (List.mem_of_getElem? (i := 12) rfl))) rfl
theorem vw4_13 : (Jvm.Cond.lays "PackStoreModel" "PackStoreModel" "buffer" "[I") ∈ vWS := vm_g (vm_t (vm_4 (List.mem_of_getElem? (i := 13) rfl))) rfl
theorem vw4_15 : (Jvm.Cond.lays "PackStoreModel" "PackStoreModel" "size" "I") ∈ vWS := vm_g (vm_t (vm_4 (List.mem_of_getElem? (i := 15) rfl))) rfl
theorem vw4_17 : (Jvm.Cond.lays "PackStoreModel" "PackStoreModel" "held" "[I") ∈ vWS := vm_g (vm_t (vm_4 (List.mem_of_getElem? (i := 17) rfl))) rfl
theorem vw4_19 : (Jvm.Cond.lays "PackStoreModel" "PackStoreModel" "kinds" "[I") ∈ vWS := vm_g (vm_t (vm_4 (List.mem_of_getElem? (i := 19) rfl))) rfl
theorem vw4_21 : (Jvm.Cond.lays "PackStoreModel" "PackStoreModel" "sizes" "[I") ∈ vWS := vm_g (vm_t (vm_4 (List.mem_of_getElem? (i := 21) rfl))) rfl
theorem vw4_23 : (Jvm.Cond.lays "PackStoreModel" "PackStoreModel" "bytes" "[I") ∈ vWS := vm_g (vm_t (vm_4 (List.mem_of_getElem? (i := 23) rfl))) rfl
theorem vw4_25 : (Jvm.Cond.lays "PackStoreModel" "PackStoreModel" "mark" "[Z") ∈ vWS := vm_g (vm_t (vm_4 (List.mem_of_getElem? (i := 25) rfl))) rfl
theorem vw4_27 : (Jvm.Cond.lays "PackStoreModel" "PackStoreModel" "whole" "Z") ∈ vWS := vm_g (vm_t (vm_4 (List.mem_of_getElem? (i := 27) rfl))) rfl
theorem vw4_29 : (Jvm.Cond.lays "PackStoreModel" "PackStoreModel" "refs" "[I") ∈ vWS := vm_g (vm_t (vm_4 (List.mem_of_getElem? (i := 29) rfl))) rfl
theorem vw4_31 : (Jvm.Cond.lays "PackStoreModel" "PackStoreModel" "wanted" "[Z") ∈ vWS := vm_g (vm_t (vm_4 (List.mem_of_getElem? (i := 31) rfl))) rfl
theorem vw4_33 : (Jvm.Cond.lays "PackStoreModel" "PackStoreModel" "someWanted" "Z") ∈ vWS := vm_g (vm_t (vm_4 (List.mem_of_getElem? (i := 33) rfl))) rfl
theorem vw4_35 : (Jvm.Cond.lays "PackStoreModel" "PackStoreModel" "haves" "I") ∈ vWS := vm_g (vm_t (vm_4 (List.mem_of_getElem? (i := 35) rfl))) rfl
theorem vw4_37 : (Jvm.Cond.lays "PackStoreModel" "PackStoreModel" "have" "[I") ∈ vWS := vm_g (vm_t (vm_4 (List.mem_of_getElem? (i := 37) rfl))) rfl
theorem vw4_39 : (Jvm.Cond.lays "PackStoreModel" "PackStoreModel" "many" "I") ∈ vWS := vm_g (vm_t (vm_4 (List.mem_of_getElem? (i := 39) rfl))) rfl
theorem vw4_41 : (Jvm.Cond.lays "PackStoreModel" "PackStoreModel" "order" "[I") ∈ vWS := vm_g (vm_t (vm_4 (List.mem_of_getElem? (i := 41) rfl))) rfl
theorem vw4_43 : (Jvm.Cond.lays "PackStoreModel" "PackStoreModel" "headAt" "[I") ∈ vWS := vm_g (vm_t (vm_4 (List.mem_of_getElem? (i := 43) rfl))) rfl
theorem vw4_45 : (Jvm.Cond.lays "PackStoreModel" "PackStoreModel" "rowSize" "I") ∈ vWS := vm_g (vm_t (vm_4 (List.mem_of_getElem? (i := 45) rfl))) rfl
theorem vw4_47 : (Jvm.Cond.lays "PackStoreModel" "PackStoreModel" "row" "[I") ∈ vWS := vm_g (vm_t (vm_4 (List.mem_of_getElem? (i := 47) rfl))) rfl
theorem vw4_49 : (Jvm.Cond.lays "PackStoreModel" "PackStoreModel" "at" "I") ∈ vWS := vm_g (vm_t (vm_4 (List.mem_of_getElem? (i := 49) rfl))) rfl
theorem vw4_51 : (Jvm.Cond.lays "PackStoreModel" "PackStoreModel" "entries" "I") ∈ vWS := vm_g (vm_t (vm_4 (List.mem_of_getElem? (i := 51) rfl))) rfl
theorem vw4_53 : (Jvm.Cond.lays "PackStoreModel" "PackStoreModel" "eSort" "[I") ∈ vWS := vm_g (vm_t (vm_4 (List.mem_of_getElem? (i := 53) rfl))) rfl
theorem vw4_55 : (Jvm.Cond.lays "PackStoreModel" "PackStoreModel" "eSize" "[I") ∈ vWS := vm_g (vm_t (vm_4 (List.mem_of_getElem? (i := 55) rfl))) rfl
theorem vw4_57 : (Jvm.Cond.lays "PackStoreModel" "PackStoreModel" "eBase" "[I") ∈ vWS := vm_g (vm_t (vm_4 (List.mem_of_getElem? (i := 57) rfl))) rfl
theorem vw4_59 : (Jvm.Cond.lays "PackStoreModel" "PackStoreModel" "eBytes" "[I") ∈ vWS := vm_g (vm_t (vm_4 (List.mem_of_getElem? (i := 59) rfl))) rfl
theorem vw4_61 : (Jvm.Cond.lays "PackStoreModel" "PackStoreModel" "done" "[Z") ∈ vWS := vm_g (vm_t (vm_4 (List.mem_of_getElem? (i := 61) rfl))) rfl
theorem vw4_64 : (Jvm.Cond.methodLink "PackStoreLaw" (17 : Nat) ({ cls := "PackStoreModel", name := "put", desc := "(II)Z" } : Jvm.MethodName)) ∈ vWS := vm_g (vm_t (vm_4 (List.mem_of_getElem? (i := 64) rfl))) rfl
theorem vw4_65 : (Jvm.Cond.instanceMethod ({ cls := "PackStoreModel", name := "put", desc := "(II)Z" } : Jvm.MethodName)) ∈ vWS := vm_g (vm_t (vm_4 (List.mem_of_getElem? (i := 65) rfl))) rfl
theorem vw4_66 : (Jvm.Cond.selects "PackStoreModel" ({ cls := "PackStoreModel", name := "put", desc := "(II)Z" } : Jvm.MethodName) ({ cls := "PackStoreModel", name := "put", desc := "(II)Z" } : Jvm.MethodName)) ∈ vWS := vm_g (vm_t (vm_4 (List.mem_of_getElem? (i := 66) rfl))) rfl
theorem vw4_67 : (Jvm.Cond.code ({ cls := "PackStoreModel", name := "put", desc := "(II)Z" } : Jvm.MethodName) prog_13_method_4_code (4 : Nat) (Option.some Jvm.ClassFile.FieldType.boolean)) ∈ vWS := vm_g (vm_t (vm_4 (List.mem_of_getElem? (i := 67) rfl))) rfl
theorem vw4_68 : (Jvm.Cond.methodLink "PackStoreModel" (63 : Nat) ({ cls := "PackStoreModel", name := "in", desc := "(III)Z" } : Jvm.MethodName)) ∈ vWS := vm_g (vm_t (vm_4 (List.mem_of_getElem? (i := 68) rfl))) rfl
theorem vw4_69 : (Jvm.Cond.static ({ cls := "PackStoreModel", name := "in", desc := "(III)Z" } : Jvm.MethodName)) ∈ vWS := vm_g (vm_t (vm_4 (List.mem_of_getElem? (i := 69) rfl))) rfl
theorem vw4_70 : (Jvm.Cond.code ({ cls := "PackStoreModel", name := "in", desc := "(III)Z" } : Jvm.MethodName) prog_13_method_2_code (3 : Nat) (Option.some Jvm.ClassFile.FieldType.boolean)) ∈ vWS := vm_g (vm_t (vm_4 (List.mem_of_getElem? (i := 70) rfl))) rfl
theorem vw4_71 : (Jvm.Cond.methodLink "PackStoreLaw" (21 : Nat) ({ cls := "PackStoreModel", name := "set", desc := "(II)Z" } : Jvm.MethodName)) ∈ vWS := vm_g (vm_t (vm_4 (List.mem_of_getElem? (i := 71) rfl))) rfl
theorem vw4_72 : (Jvm.Cond.instanceMethod ({ cls := "PackStoreModel", name := "set", desc := "(II)Z" } : Jvm.MethodName)) ∈ vWS := vm_g (vm_t (vm_4 (List.mem_of_getElem? (i := 72) rfl))) rfl
theorem vw4_73 : (Jvm.Cond.selects "PackStoreModel" ({ cls := "PackStoreModel", name := "set", desc := "(II)Z" } : Jvm.MethodName) ({ cls := "PackStoreModel", name := "set", desc := "(II)Z" } : Jvm.MethodName)) ∈ vWS := vm_g (vm_t (vm_4 (List.mem_of_getElem? (i := 73) rfl))) rfl
theorem vw4_74 : (Jvm.Cond.code ({ cls := "PackStoreModel", name := "set", desc := "(II)Z" } : Jvm.MethodName) prog_13_method_5_code (3 : Nat) (Option.some Jvm.ClassFile.FieldType.boolean)) ∈ vWS := vm_g (vm_t (vm_4 (List.mem_of_getElem? (i := 74) rfl))) rfl
theorem vw4_75 : (Jvm.Cond.methodLink "PackStoreLaw" (26 : Nat) ({ cls := "PackStoreModel", name := "cut", desc := "(I)Z" } : Jvm.MethodName)) ∈ vWS := vm_g (vm_t (vm_4 (List.mem_of_getElem? (i := 75) rfl))) rfl
theorem vw4_76 : (Jvm.Cond.instanceMethod ({ cls := "PackStoreModel", name := "cut", desc := "(I)Z" } : Jvm.MethodName)) ∈ vWS := vm_g (vm_t (vm_4 (List.mem_of_getElem? (i := 76) rfl))) rfl
theorem vw4_77 : (Jvm.Cond.selects "PackStoreModel" ({ cls := "PackStoreModel", name := "cut", desc := "(I)Z" } : Jvm.MethodName) ({ cls := "PackStoreModel", name := "cut", desc := "(I)Z" } : Jvm.MethodName)) ∈ vWS := vm_g (vm_t (vm_4 (List.mem_of_getElem? (i := 77) rfl))) rfl
theorem vw4_78 : (Jvm.Cond.code ({ cls := "PackStoreModel", name := "cut", desc := "(I)Z" } : Jvm.MethodName) prog_13_method_6_code (2 : Nat) (Option.some Jvm.ClassFile.FieldType.boolean)) ∈ vWS := vm_g (vm_t (vm_4 (List.mem_of_getElem? (i := 78) rfl))) rfl
theorem vw4_79 : (Jvm.Cond.methodLink "PackStoreLaw" (31 : Nat) ({ cls := "PackStoreModel", name := "size", desc := "()I" } : Jvm.MethodName)) ∈ vWS := vm_g (vm_t (vm_4 (List.mem_of_getElem? (i := 79) rfl))) rfl
theorem vw4_80 : (Jvm.Cond.instanceMethod ({ cls := "PackStoreModel", name := "size", desc := "()I" } : Jvm.MethodName)) ∈ vWS := vm_g (vm_t (vm_4 (List.mem_of_getElem? (i := 80) rfl))) rfl
theorem vw4_81 : (Jvm.Cond.selects "PackStoreModel" ({ cls := "PackStoreModel", name := "size", desc := "()I" } : Jvm.MethodName) ({ cls := "PackStoreModel", name := "size", desc := "()I" } : Jvm.MethodName)) ∈ vWS := vm_g (vm_t (vm_4 (List.mem_of_getElem? (i := 81) rfl))) rfl
theorem vw4_82 : (Jvm.Cond.code ({ cls := "PackStoreModel", name := "size", desc := "()I" } : Jvm.MethodName) prog_13_method_7_code (1 : Nat) (Option.some Jvm.ClassFile.FieldType.int)) ∈ vWS := vm_g (vm_t (vm_4 (List.mem_of_getElem? (i := 82) rfl))) rfl
theorem vw4_83 : (Jvm.Cond.methodLink "PackStoreLaw" (36 : Nat) ({ cls := "PackStoreModel", name := "at", desc := "(I)I" } : Jvm.MethodName)) ∈ vWS := vm_g (vm_t (vm_4 (List.mem_of_getElem? (i := 83) rfl))) rfl
theorem vw4_84 : (Jvm.Cond.instanceMethod ({ cls := "PackStoreModel", name := "at", desc := "(I)I" } : Jvm.MethodName)) ∈ vWS := vm_g (vm_t (vm_4 (List.mem_of_getElem? (i := 84) rfl))) rfl
theorem vw4_85 : (Jvm.Cond.selects "PackStoreModel" ({ cls := "PackStoreModel", name := "at", desc := "(I)I" } : Jvm.MethodName) ({ cls := "PackStoreModel", name := "at", desc := "(I)I" } : Jvm.MethodName)) ∈ vWS := vm_g (vm_t (vm_4 (List.mem_of_getElem? (i := 85) rfl))) rfl
theorem vw4_86 : (Jvm.Cond.code ({ cls := "PackStoreModel", name := "at", desc := "(I)I" } : Jvm.MethodName) prog_13_method_8_code (2 : Nat) (Option.some Jvm.ClassFile.FieldType.int)) ∈ vWS := vm_g (vm_t (vm_4 (List.mem_of_getElem? (i := 86) rfl))) rfl
theorem vw4_87 : (Jvm.Cond.methodLink "PackStoreLaw" (40 : Nat) ({ cls := "PackStoreModel", name := "store", desc := "(I)I" } : Jvm.MethodName)) ∈ vWS := vm_g (vm_t (vm_4 (List.mem_of_getElem? (i := 87) rfl))) rfl
theorem vw4_88 : (Jvm.Cond.instanceMethod ({ cls := "PackStoreModel", name := "store", desc := "(I)I" } : Jvm.MethodName)) ∈ vWS := vm_g (vm_t (vm_4 (List.mem_of_getElem? (i := 88) rfl))) rfl
theorem vw4_89 : (Jvm.Cond.selects "PackStoreModel" ({ cls := "PackStoreModel", name := "store", desc := "(I)I" } : Jvm.MethodName) ({ cls := "PackStoreModel", name := "store", desc := "(I)I" } : Jvm.MethodName)) ∈ vWS := vm_g (vm_t (vm_4 (List.mem_of_getElem? (i := 89) rfl))) rfl
theorem vw4_90 : (Jvm.Cond.code ({ cls := "PackStoreModel", name := "store", desc := "(I)I" } : Jvm.MethodName) prog_13_method_18_code (7 : Nat) (Option.some Jvm.ClassFile.FieldType.int)) ∈ vWS := vm_g (vm_t (vm_4 (List.mem_of_getElem? (i := 90) rfl))) rfl
theorem vw4_91 : (Jvm.Cond.methodLink "PackStoreModel" (79 : Nat) ({ cls := "PackStoreModel", name := "idOf", desc := "(I)I" } : Jvm.MethodName)) ∈ vWS := vm_g (vm_t (vm_4 (List.mem_of_getElem? (i := 91) rfl))) rfl
theorem vw4_93 : (Jvm.Cond.instanceMethod ({ cls := "PackStoreModel", name := "idOf", desc := "(I)I" } : Jvm.MethodName)) ∈ vWS := vm_g (vm_t (vm_4 (List.mem_of_getElem? (i := 93) rfl))) rfl
theorem vw4_94 : (Jvm.Cond.code ({ cls := "PackStoreModel", name := "idOf", desc := "(I)I" } : Jvm.MethodName) prog_13_method_9_code (4 : Nat) (Option.some Jvm.ClassFile.FieldType.int)) ∈ vWS := vm_g (vm_t (vm_4 (List.mem_of_getElem? (i := 94) rfl))) rfl
theorem vw4_95 : (Jvm.Cond.methodLink "PackStoreModel" (71 : Nat) ({ cls := "PackStoreModel", name := "fold", desc := "(II)I" } : Jvm.MethodName)) ∈ vWS := vm_g (vm_t (vm_4 (List.mem_of_getElem? (i := 95) rfl))) rfl
theorem vw4_96 : (Jvm.Cond.static ({ cls := "PackStoreModel", name := "fold", desc := "(II)I" } : Jvm.MethodName)) ∈ vWS := vm_g (vm_t (vm_4 (List.mem_of_getElem? (i := 96) rfl))) rfl
theorem vw4_97 : (Jvm.Cond.code ({ cls := "PackStoreModel", name := "fold", desc := "(II)I" } : Jvm.MethodName) prog_13_method_3_code (2 : Nat) (Option.some Jvm.ClassFile.FieldType.int)) ∈ vWS := vm_g (vm_t (vm_4 (List.mem_of_getElem? (i := 97) rfl))) rfl
theorem vw4_98 : (Jvm.Cond.constant "PackStoreModel" (62 : Nat) (65521 : Int32)) ∈ vWS := vm_g (vm_t (vm_4 (List.mem_of_getElem? (i := 98) rfl))) rfl
theorem vw4_99 : (Jvm.Cond.methodLink "PackStoreModel" (82 : Nat) ({ cls := "PackStoreModel", name := "find", desc := "(II)I" } : Jvm.MethodName)) ∈ vWS := vm_g (vm_t (vm_4 (List.mem_of_getElem? (i := 99) rfl))) rfl
theorem vw4_101 : (Jvm.Cond.instanceMethod ({ cls := "PackStoreModel", name := "find", desc := "(II)I" } : Jvm.MethodName)) ∈ vWS := vm_g (vm_t (vm_4 (List.mem_of_getElem? (i := 101) rfl))) rfl
theorem vw4_102 : (Jvm.Cond.code ({ cls := "PackStoreModel", name := "find", desc := "(II)I" } : Jvm.MethodName) prog_13_method_11_code (5 : Nat) (Option.some Jvm.ClassFile.FieldType.int)) ∈ vWS := vm_g (vm_t (vm_4 (List.mem_of_getElem? (i := 102) rfl))) rfl
theorem vw4_103 : (Jvm.Cond.methodLink "PackStoreModel" (75 : Nat) ({ cls := "PackStoreModel", name := "start", desc := "(I)I" } : Jvm.MethodName)) ∈ vWS := vm_g (vm_t (vm_4 (List.mem_of_getElem? (i := 103) rfl))) rfl
theorem vw4_104 : (Jvm.Cond.static ({ cls := "PackStoreModel", name := "start", desc := "(I)I" } : Jvm.MethodName)) ∈ vWS := vm_g (vm_t (vm_4 (List.mem_of_getElem? (i := 104) rfl))) rfl
theorem vw4_105 : (Jvm.Cond.code ({ cls := "PackStoreModel", name := "start", desc := "(I)I" } : Jvm.MethodName) prog_13_method_10_code (1 : Nat) (Option.some Jvm.ClassFile.FieldType.int)) ∈ vWS := vm_g (vm_t (vm_4 (List.mem_of_getElem? (i := 105) rfl))) rfl
theorem vw4_106 : (Jvm.Cond.methodLink "PackStoreModel" (96 : Nat) ({ cls := "PackStoreModel", name := "wellFormed", desc := "(I)Z" } : Jvm.MethodName)) ∈ vWS := vm_g (vm_t (vm_4 (List.mem_of_getElem? (i := 106) rfl))) rfl
theorem vw4_108 : (Jvm.Cond.instanceMethod ({ cls := "PackStoreModel", name := "wellFormed", desc := "(I)Z" } : Jvm.MethodName)) ∈ vWS := vm_g (vm_t (vm_4 (List.mem_of_getElem? (i := 108) rfl))) rfl
theorem vw4_109 : (Jvm.Cond.code ({ cls := "PackStoreModel", name := "wellFormed", desc := "(I)Z" } : Jvm.MethodName) prog_13_method_13_code (5 : Nat) (Option.some Jvm.ClassFile.FieldType.boolean)) ∈ vWS := vm_g (vm_t (vm_4 (List.mem_of_getElem? (i := 109) rfl))) rfl
theorem vw4_110 : (Jvm.Cond.methodLink "PackStoreModel" (100 : Nat) ({ cls := "PackStoreModel", name := "same", desc := "(II)Z" } : Jvm.MethodName)) ∈ vWS := vm_g (vm_t (vm_4 (List.mem_of_getElem? (i := 110) rfl))) rfl
theorem vw4_112 : (Jvm.Cond.instanceMethod ({ cls := "PackStoreModel", name := "same", desc := "(II)Z" } : Jvm.MethodName)) ∈ vWS := vm_g (vm_t (vm_4 (List.mem_of_getElem? (i := 112) rfl))) rfl
theorem vw4_113 : (Jvm.Cond.code ({ cls := "PackStoreModel", name := "same", desc := "(II)Z" } : Jvm.MethodName) prog_13_method_12_code (5 : Nat) (Option.some Jvm.ClassFile.FieldType.boolean)) ∈ vWS := vm_g (vm_t (vm_4 (List.mem_of_getElem? (i := 113) rfl))) rfl
theorem vw4_114 : (Jvm.Cond.methodLink "PackStoreModel" (89 : Nat) ({ cls := "PackStoreModel", name := "names", desc := "(I)I" } : Jvm.MethodName)) ∈ vWS := vm_g (vm_t (vm_4 (List.mem_of_getElem? (i := 114) rfl))) rfl
theorem vw4_116 : (Jvm.Cond.instanceMethod ({ cls := "PackStoreModel", name := "names", desc := "(I)I" } : Jvm.MethodName)) ∈ vWS := vm_g (vm_t (vm_4 (List.mem_of_getElem? (i := 116) rfl))) rfl
theorem vw4_117 : (Jvm.Cond.code ({ cls := "PackStoreModel", name := "names", desc := "(I)I" } : Jvm.MethodName) prog_13_method_14_code (2 : Nat) (Option.some Jvm.ClassFile.FieldType.int)) ∈ vWS := vm_g (vm_t (vm_4 (List.mem_of_getElem? (i := 117) rfl))) rfl
theorem vw4_118 : (Jvm.Cond.methodLink "PackStoreModel" (92 : Nat) ({ cls := "PackStoreModel", name := "named", desc := "(III)I" } : Jvm.MethodName)) ∈ vWS := vm_g (vm_t (vm_4 (List.mem_of_getElem? (i := 118) rfl))) rfl
theorem vw4_120 : (Jvm.Cond.instanceMethod ({ cls := "PackStoreModel", name := "named", desc := "(III)I" } : Jvm.MethodName)) ∈ vWS := vm_g (vm_t (vm_4 (List.mem_of_getElem? (i := 120) rfl))) rfl
theorem vw4_121 : (Jvm.Cond.code ({ cls := "PackStoreModel", name := "named", desc := "(III)I" } : Jvm.MethodName) prog_13_method_15_code (7 : Nat) (Option.some Jvm.ClassFile.FieldType.int)) ∈ vWS := vm_g (vm_t (vm_4 (List.mem_of_getElem? (i := 121) rfl))) rfl
theorem vw4_122 : (Jvm.Cond.methodLink "PackStoreModel" (104 : Nat) ({ cls := "PackStoreModel", name := "copy", desc := "(II)V" } : Jvm.MethodName)) ∈ vWS := vm_g (vm_t (vm_4 (List.mem_of_getElem? (i := 122) rfl))) rfl
theorem vw4_124 : (Jvm.Cond.instanceMethod ({ cls := "PackStoreModel", name := "copy", desc := "(II)V" } : Jvm.MethodName)) ∈ vWS := vm_g (vm_t (vm_4 (List.mem_of_getElem? (i := 124) rfl))) rfl
theorem vw4_125 : (Jvm.Cond.code ({ cls := "PackStoreModel", name := "copy", desc := "(II)V" } : Jvm.MethodName) prog_13_method_19_code (4 : Nat) (Option.none : Option Jvm.ClassFile.FieldType)) ∈ vWS := vm_g (vm_t (vm_4 (List.mem_of_getElem? (i := 125) rfl))) rfl
theorem vw4_126 : (Jvm.Cond.methodLink "PackStoreLaw" (44 : Nat) ({ cls := "PackStoreModel", name := "point", desc := "(II)Z" } : Jvm.MethodName)) ∈ vWS := vm_g (vm_t (vm_4 (List.mem_of_getElem? (i := 126) rfl))) rfl
theorem vw4_127 : (Jvm.Cond.instanceMethod ({ cls := "PackStoreModel", name := "point", desc := "(II)Z" } : Jvm.MethodName)) ∈ vWS := vm_g (vm_t (vm_4 (List.mem_of_getElem? (i := 127) rfl))) rfl
theorem vw4_128 : (Jvm.Cond.selects "PackStoreModel" ({ cls := "PackStoreModel", name := "point", desc := "(II)Z" } : Jvm.MethodName) ({ cls := "PackStoreModel", name := "point", desc := "(II)Z" } : Jvm.MethodName)) ∈ vWS := vm_g (vm_t (vm_4 (List.mem_of_getElem? (i := 128) rfl))) rfl
theorem vw4_129 : (Jvm.Cond.code ({ cls := "PackStoreModel", name := "point", desc := "(II)Z" } : Jvm.MethodName) prog_13_method_20_code (4 : Nat) (Option.some Jvm.ClassFile.FieldType.boolean)) ∈ vWS := vm_g (vm_t (vm_4 (List.mem_of_getElem? (i := 129) rfl))) rfl
theorem vw4_130 : (Jvm.Cond.methodLink "PackStoreLaw" (48 : Nat) ({ cls := "PackStoreModel", name := "ref", desc := "(I)I" } : Jvm.MethodName)) ∈ vWS := vm_g (vm_t (vm_4 (List.mem_of_getElem? (i := 130) rfl))) rfl
theorem vw4_131 : (Jvm.Cond.instanceMethod ({ cls := "PackStoreModel", name := "ref", desc := "(I)I" } : Jvm.MethodName)) ∈ vWS := vm_g (vm_t (vm_4 (List.mem_of_getElem? (i := 131) rfl))) rfl
theorem vw4_132 : (Jvm.Cond.selects "PackStoreModel" ({ cls := "PackStoreModel", name := "ref", desc := "(I)I" } : Jvm.MethodName) ({ cls := "PackStoreModel", name := "ref", desc := "(I)I" } : Jvm.MethodName)) ∈ vWS := vm_g (vm_t (vm_4 (List.mem_of_getElem? (i := 132) rfl))) rfl
theorem vw4_133 : (Jvm.Cond.code ({ cls := "PackStoreModel", name := "ref", desc := "(I)I" } : Jvm.MethodName) prog_13_method_21_code (2 : Nat) (Option.some Jvm.ClassFile.FieldType.int)) ∈ vWS := vm_g (vm_t (vm_4 (List.mem_of_getElem? (i := 133) rfl))) rfl
theorem vw4_134 : (Jvm.Cond.methodLink "PackStoreLaw" (52 : Nat) ({ cls := "PackStoreModel", name := "want", desc := "(I)Z" } : Jvm.MethodName)) ∈ vWS := vm_g (vm_t (vm_4 (List.mem_of_getElem? (i := 134) rfl))) rfl
theorem vw4_135 : (Jvm.Cond.instanceMethod ({ cls := "PackStoreModel", name := "want", desc := "(I)Z" } : Jvm.MethodName)) ∈ vWS := vm_g (vm_t (vm_4 (List.mem_of_getElem? (i := 135) rfl))) rfl
theorem vw4_136 : (Jvm.Cond.selects "PackStoreModel" ({ cls := "PackStoreModel", name := "want", desc := "(I)Z" } : Jvm.MethodName) ({ cls := "PackStoreModel", name := "want", desc := "(I)Z" } : Jvm.MethodName)) ∈ vWS := vm_g (vm_t (vm_4 (List.mem_of_getElem? (i := 136) rfl))) rfl
theorem vw4_137 : (Jvm.Cond.code ({ cls := "PackStoreModel", name := "want", desc := "(I)Z" } : Jvm.MethodName) prog_13_method_22_code (4 : Nat) (Option.some Jvm.ClassFile.FieldType.boolean)) ∈ vWS := vm_g (vm_t (vm_4 (List.mem_of_getElem? (i := 137) rfl))) rfl
theorem vw4_138 : (Jvm.Cond.methodLink "PackStoreLaw" (56 : Nat) ({ cls := "PackStoreModel", name := "have", desc := "(I)Z" } : Jvm.MethodName)) ∈ vWS := vm_g (vm_t (vm_4 (List.mem_of_getElem? (i := 138) rfl))) rfl
theorem vw4_139 : (Jvm.Cond.instanceMethod ({ cls := "PackStoreModel", name := "have", desc := "(I)Z" } : Jvm.MethodName)) ∈ vWS := vm_g (vm_t (vm_4 (List.mem_of_getElem? (i := 139) rfl))) rfl
theorem vw4_140 : (Jvm.Cond.selects "PackStoreModel" ({ cls := "PackStoreModel", name := "have", desc := "(I)Z" } : Jvm.MethodName) ({ cls := "PackStoreModel", name := "have", desc := "(I)Z" } : Jvm.MethodName)) ∈ vWS := vm_g (vm_t (vm_4 (List.mem_of_getElem? (i := 140) rfl))) rfl
theorem vw4_141 : (Jvm.Cond.code ({ cls := "PackStoreModel", name := "have", desc := "(I)Z" } : Jvm.MethodName) prog_13_method_23_code (4 : Nat) (Option.some Jvm.ClassFile.FieldType.boolean)) ∈ vWS := vm_g (vm_t (vm_4 (List.mem_of_getElem? (i := 141) rfl))) rfl
theorem vw4_142 : (Jvm.Cond.methodLink "PackStoreLaw" (60 : Nat) ({ cls := "PackStoreModel", name := "serve", desc := "()I" } : Jvm.MethodName)) ∈ vWS := vm_g (vm_t (vm_4 (List.mem_of_getElem? (i := 142) rfl))) rfl
theorem vw4_143 : (Jvm.Cond.instanceMethod ({ cls := "PackStoreModel", name := "serve", desc := "()I" } : Jvm.MethodName)) ∈ vWS := vm_g (vm_t (vm_4 (List.mem_of_getElem? (i := 143) rfl))) rfl
theorem vw4_144 : (Jvm.Cond.selects "PackStoreModel" ({ cls := "PackStoreModel", name := "serve", desc := "()I" } : Jvm.MethodName) ({ cls := "PackStoreModel", name := "serve", desc := "()I" } : Jvm.MethodName)) ∈ vWS := vm_g (vm_t (vm_4 (List.mem_of_getElem? (i := 144) rfl))) rfl
theorem vw4_145 : (Jvm.Cond.code ({ cls := "PackStoreModel", name := "serve", desc := "()I" } : Jvm.MethodName) prog_13_method_33_code (5 : Nat) (Option.some Jvm.ClassFile.FieldType.int)) ∈ vWS := vm_g (vm_t (vm_4 (List.mem_of_getElem? (i := 145) rfl))) rfl
theorem vw4_146 : (Jvm.Cond.methodLink "PackStoreModel" (142 : Nat) ({ cls := "PackStoreModel", name := "select", desc := "()V" } : Jvm.MethodName)) ∈ vWS := vm_g (vm_t (vm_4 (List.mem_of_getElem? (i := 146) rfl))) rfl
theorem vw4_148 : (Jvm.Cond.instanceMethod ({ cls := "PackStoreModel", name := "select", desc := "()V" } : Jvm.MethodName)) ∈ vWS := vm_g (vm_t (vm_4 (List.mem_of_getElem? (i := 148) rfl))) rfl
theorem vw4_149 : (Jvm.Cond.code ({ cls := "PackStoreModel", name := "select", desc := "()V" } : Jvm.MethodName) prog_13_method_32_code (3 : Nat) (Option.none : Option Jvm.ClassFile.FieldType)) ∈ vWS := vm_g (vm_t (vm_4 (List.mem_of_getElem? (i := 149) rfl))) rfl
theorem vw4_150 : (Jvm.Cond.methodLink "PackStoreModel" (136 : Nat) ({ cls := "PackStoreModel", name := "unmark", desc := "()V" } : Jvm.MethodName)) ∈ vWS := vm_g (vm_t (vm_4 (List.mem_of_getElem? (i := 150) rfl))) rfl
theorem vw4_152 : (Jvm.Cond.instanceMethod ({ cls := "PackStoreModel", name := "unmark", desc := "()V" } : Jvm.MethodName)) ∈ vWS := vm_g (vm_t (vm_4 (List.mem_of_getElem? (i := 152) rfl))) rfl
theorem vw4_153 : (Jvm.Cond.code ({ cls := "PackStoreModel", name := "unmark", desc := "()V" } : Jvm.MethodName) prog_13_method_17_code (2 : Nat) (Option.none : Option Jvm.ClassFile.FieldType)) ∈ vWS := vm_g (vm_t (vm_4 (List.mem_of_getElem? (i := 153) rfl))) rfl
theorem vw4_154 : (Jvm.Cond.methodLink "PackStoreModel" (139 : Nat) ({ cls := "PackStoreModel", name := "close", desc := "(II)V" } : Jvm.MethodName)) ∈ vWS := vm_g (vm_t (vm_4 (List.mem_of_getElem? (i := 154) rfl))) rfl
theorem vw4_156 : (Jvm.Cond.instanceMethod ({ cls := "PackStoreModel", name := "close", desc := "(II)V" } : Jvm.MethodName)) ∈ vWS := vm_g (vm_t (vm_4 (List.mem_of_getElem? (i := 156) rfl))) rfl
theorem vw4_157 : (Jvm.Cond.code ({ cls := "PackStoreModel", name := "close", desc := "(II)V" } : Jvm.MethodName) prog_13_method_16_code (8 : Nat) (Option.none : Option Jvm.ClassFile.FieldType)) ∈ vWS := vm_g (vm_t (vm_4 (List.mem_of_getElem? (i := 157) rfl))) rfl
theorem vw4_158 : (Jvm.Cond.methodLink "PackStoreModel" (145 : Nat) ({ cls := "PackStoreModel", name := "choose", desc := "()V" } : Jvm.MethodName)) ∈ vWS := vm_g (vm_t (vm_4 (List.mem_of_getElem? (i := 158) rfl))) rfl
theorem vw4_160 : (Jvm.Cond.instanceMethod ({ cls := "PackStoreModel", name := "choose", desc := "()V" } : Jvm.MethodName)) ∈ vWS := vm_g (vm_t (vm_4 (List.mem_of_getElem? (i := 160) rfl))) rfl
theorem vw4_161 : (Jvm.Cond.code ({ cls := "PackStoreModel", name := "choose", desc := "()V" } : Jvm.MethodName) prog_13_method_30_code (3 : Nat) (Option.none : Option Jvm.ClassFile.FieldType)) ∈ vWS := vm_g (vm_t (vm_4 (List.mem_of_getElem? (i := 161) rfl))) rfl
theorem vw4_162 : (Jvm.Cond.methodLink "PackStoreModel" (120 : Nat) ({ cls := "PackStoreModel", name := "write", desc := "(I)V" } : Jvm.MethodName)) ∈ vWS := vm_g (vm_t (vm_4 (List.mem_of_getElem? (i := 162) rfl))) rfl
theorem vw4_164 : (Jvm.Cond.instanceMethod ({ cls := "PackStoreModel", name := "write", desc := "(I)V" } : Jvm.MethodName)) ∈ vWS := vm_g (vm_t (vm_4 (List.mem_of_getElem? (i := 164) rfl))) rfl
theorem vw4_165 : (Jvm.Cond.code ({ cls := "PackStoreModel", name := "write", desc := "(I)V" } : Jvm.MethodName) prog_13_method_24_code (2 : Nat) (Option.none : Option Jvm.ClassFile.FieldType)) ∈ vWS := vm_g (vm_t (vm_4 (List.mem_of_getElem? (i := 165) rfl))) rfl
theorem vw4_166 : (Jvm.Cond.methodLink "PackStoreModel" (148 : Nat) ({ cls := "PackStoreModel", name := "writeEntry", desc := "(II)V" } : Jvm.MethodName)) ∈ vWS := vm_g (vm_t (vm_4 (List.mem_of_getElem? (i := 166) rfl))) rfl
theorem vw4_168 : (Jvm.Cond.instanceMethod ({ cls := "PackStoreModel", name := "writeEntry", desc := "(II)V" } : Jvm.MethodName)) ∈ vWS := vm_g (vm_t (vm_4 (List.mem_of_getElem? (i := 168) rfl))) rfl
theorem vw4_169 : (Jvm.Cond.code ({ cls := "PackStoreModel", name := "writeEntry", desc := "(II)V" } : Jvm.MethodName) prog_13_method_29_code (6 : Nat) (Option.none : Option Jvm.ClassFile.FieldType)) ∈ vWS := vm_g (vm_t (vm_4 (List.mem_of_getElem? (i := 169) rfl))) rfl
theorem vw4_170 : (Jvm.Cond.methodLink "PackStoreModel" (127 : Nat) ({ cls := "PackStoreModel", name := "difference", desc := "(II)V" } : Jvm.MethodName)) ∈ vWS := vm_g (vm_t (vm_4 (List.mem_of_getElem? (i := 170) rfl))) rfl
theorem vw4_172 : (Jvm.Cond.instanceMethod ({ cls := "PackStoreModel", name := "difference", desc := "(II)V" } : Jvm.MethodName)) ∈ vWS := vm_g (vm_t (vm_4 (List.mem_of_getElem? (i := 172) rfl))) rfl
theorem vw4_173 : (Jvm.Cond.code ({ cls := "PackStoreModel", name := "difference", desc := "(II)V" } : Jvm.MethodName) prog_13_method_28_code (9 : Nat) (Option.none : Option Jvm.ClassFile.FieldType)) ∈ vWS := vm_g (vm_t (vm_4 (List.mem_of_getElem? (i := 173) rfl))) rfl
theorem vw4_174 : (Jvm.Cond.methodLink "PackStoreModel" (124 : Nat) ({ cls := "PackStoreModel", name := "addRow", desc := "(I)V" } : Jvm.MethodName)) ∈ vWS := vm_g (vm_t (vm_4 (List.mem_of_getElem? (i := 174) rfl))) rfl
theorem vw4_176 : (Jvm.Cond.instanceMethod ({ cls := "PackStoreModel", name := "addRow", desc := "(I)V" } : Jvm.MethodName)) ∈ vWS := vm_g (vm_t (vm_4 (List.mem_of_getElem? (i := 176) rfl))) rfl
theorem vw4_177 : (Jvm.Cond.code ({ cls := "PackStoreModel", name := "addRow", desc := "(I)V" } : Jvm.MethodName) prog_13_method_27_code (2 : Nat) (Option.none : Option Jvm.ClassFile.FieldType)) ∈ vWS := vm_g (vm_t (vm_4 (List.mem_of_getElem? (i := 177) rfl))) rfl
theorem vw4_178 : (Jvm.Cond.methodLink "PackStoreModel" (130 : Nat) ({ cls := "PackStoreModel", name := "writePacked", desc := "()V" } : Jvm.MethodName)) ∈ vWS := vm_g (vm_t (vm_4 (List.mem_of_getElem? (i := 178) rfl))) rfl
theorem vw4_180 : (Jvm.Cond.instanceMethod ({ cls := "PackStoreModel", name := "writePacked", desc := "()V" } : Jvm.MethodName)) ∈ vWS := vm_g (vm_t (vm_4 (List.mem_of_getElem? (i := 180) rfl))) rfl
theorem vw4_181 : (Jvm.Cond.code ({ cls := "PackStoreModel", name := "writePacked", desc := "()V" } : Jvm.MethodName) prog_13_method_26_code (5 : Nat) (Option.none : Option Jvm.ClassFile.FieldType)) ∈ vWS := vm_g (vm_t (vm_4 (List.mem_of_getElem? (i := 181) rfl))) rfl
theorem vw4_182 : (Jvm.Cond.methodLink "PackStoreModel" (117 : Nat) ({ cls := "PackStoreModel", name := "times", desc := "(I)I" } : Jvm.MethodName)) ∈ vWS := vm_g (vm_t (vm_4 (List.mem_of_getElem? (i := 182) rfl))) rfl
theorem vw4_184 : (Jvm.Cond.instanceMethod ({ cls := "PackStoreModel", name := "times", desc := "(I)I" } : Jvm.MethodName)) ∈ vWS := vm_g (vm_t (vm_4 (List.mem_of_getElem? (i := 184) rfl))) rfl
theorem vw4_185 : (Jvm.Cond.code ({ cls := "PackStoreModel", name := "times", desc := "(I)I" } : Jvm.MethodName) prog_13_method_25_code (3 : Nat) (Option.some Jvm.ClassFile.FieldType.int)) ∈ vWS := vm_g (vm_t (vm_4 (List.mem_of_getElem? (i := 185) rfl))) rfl
theorem vw4_186 : (Jvm.Cond.methodLink "PackStoreModel" (151 : Nat) ({ cls := "PackStoreModel", name := "hashTo", desc := "(I)I" } : Jvm.MethodName)) ∈ vWS := vm_g (vm_t (vm_4 (List.mem_of_getElem? (i := 186) rfl))) rfl
theorem vw4_188 : (Jvm.Cond.instanceMethod ({ cls := "PackStoreModel", name := "hashTo", desc := "(I)I" } : Jvm.MethodName)) ∈ vWS := vm_g (vm_t (vm_4 (List.mem_of_getElem? (i := 188) rfl))) rfl
theorem vw4_189 : (Jvm.Cond.code ({ cls := "PackStoreModel", name := "hashTo", desc := "(I)I" } : Jvm.MethodName) prog_13_method_31_code (4 : Nat) (Option.some Jvm.ClassFile.FieldType.int)) ∈ vWS := vm_g (vm_t (vm_4 (List.mem_of_getElem? (i := 189) rfl))) rfl
theorem vw4_190 : (Jvm.Cond.methodLink "PackStoreLaw" (64 : Nat) ({ cls := "PackStoreModel", name := "receive", desc := "()I" } : Jvm.MethodName)) ∈ vWS := vm_g (vm_t (vm_4 (List.mem_of_getElem? (i := 190) rfl))) rfl
theorem vw4_191 : (Jvm.Cond.instanceMethod ({ cls := "PackStoreModel", name := "receive", desc := "()I" } : Jvm.MethodName)) ∈ vWS := vm_g (vm_t (vm_4 (List.mem_of_getElem? (i := 191) rfl))) rfl
theorem vw4_192 : (Jvm.Cond.selects "PackStoreModel" ({ cls := "PackStoreModel", name := "receive", desc := "()I" } : Jvm.MethodName) ({ cls := "PackStoreModel", name := "receive", desc := "()I" } : Jvm.MethodName)) ∈ vWS := vm_g (vm_t (vm_4 (List.mem_of_getElem? (i := 192) rfl))) rfl
theorem vw4_193 : (Jvm.Cond.code ({ cls := "PackStoreModel", name := "receive", desc := "()I" } : Jvm.MethodName) prog_13_method_45_code (6 : Nat) (Option.some Jvm.ClassFile.FieldType.int)) ∈ vWS := vm_g (vm_t (vm_4 (List.mem_of_getElem? (i := 193) rfl))) rfl
theorem vw4_194 : (Jvm.Cond.methodLink "PackStoreModel" (186 : Nat) ({ cls := "PackStoreModel", name := "readPack", desc := "()Z" } : Jvm.MethodName)) ∈ vWS := vm_g (vm_t (vm_4 (List.mem_of_getElem? (i := 194) rfl))) rfl
theorem vw4_196 : (Jvm.Cond.instanceMethod ({ cls := "PackStoreModel", name := "readPack", desc := "()Z" } : Jvm.MethodName)) ∈ vWS := vm_g (vm_t (vm_4 (List.mem_of_getElem? (i := 196) rfl))) rfl
theorem vw4_197 : (Jvm.Cond.code ({ cls := "PackStoreModel", name := "readPack", desc := "()Z" } : Jvm.MethodName) prog_13_method_39_code (2 : Nat) (Option.some Jvm.ClassFile.FieldType.boolean)) ∈ vWS := vm_g (vm_t (vm_4 (List.mem_of_getElem? (i := 197) rfl))) rfl
theorem vw4_198 : (Jvm.Cond.methodLink "PackStoreModel" (157 : Nat) ({ cls := "PackStoreModel", name := "look", desc := "()I" } : Jvm.MethodName)) ∈ vWS := vm_g (vm_t (vm_4 (List.mem_of_getElem? (i := 198) rfl))) rfl
theorem vw4_200 : (Jvm.Cond.instanceMethod ({ cls := "PackStoreModel", name := "look", desc := "()I" } : Jvm.MethodName)) ∈ vWS := vm_g (vm_t (vm_4 (List.mem_of_getElem? (i := 200) rfl))) rfl
theorem vw4_201 : (Jvm.Cond.code ({ cls := "PackStoreModel", name := "look", desc := "()I" } : Jvm.MethodName) prog_13_method_34_code (1 : Nat) (Option.some Jvm.ClassFile.FieldType.int)) ∈ vWS := vm_g (vm_t (vm_4 (List.mem_of_getElem? (i := 201) rfl))) rfl
theorem vw4_202 : (Jvm.Cond.methodLink "PackStoreModel" (161 : Nat) ({ cls := "PackStoreModel", name := "on", desc := "(Z)Z" } : Jvm.MethodName)) ∈ vWS := vm_g (vm_t (vm_4 (List.mem_of_getElem? (i := 202) rfl))) rfl
theorem vw4_204 : (Jvm.Cond.instanceMethod ({ cls := "PackStoreModel", name := "on", desc := "(Z)Z" } : Jvm.MethodName)) ∈ vWS := vm_g (vm_t (vm_4 (List.mem_of_getElem? (i := 204) rfl))) rfl
theorem vw4_205 : (Jvm.Cond.code ({ cls := "PackStoreModel", name := "on", desc := "(Z)Z" } : Jvm.MethodName) prog_13_method_35_code (2 : Nat) (Option.some Jvm.ClassFile.FieldType.boolean)) ∈ vWS := vm_g (vm_t (vm_4 (List.mem_of_getElem? (i := 205) rfl))) rfl
theorem vw4_206 : (Jvm.Cond.methodLink "PackStoreModel" (168 : Nat) ({ cls := "PackStoreModel", name := "readHead", desc := "(I)Z" } : Jvm.MethodName)) ∈ vWS := vm_g (vm_t (vm_4 (List.mem_of_getElem? (i := 206) rfl))) rfl
theorem vw4_208 : (Jvm.Cond.instanceMethod ({ cls := "PackStoreModel", name := "readHead", desc := "(I)Z" } : Jvm.MethodName)) ∈ vWS := vm_g (vm_t (vm_4 (List.mem_of_getElem? (i := 208) rfl))) rfl
theorem vw4_209 : (Jvm.Cond.code ({ cls := "PackStoreModel", name := "readHead", desc := "(I)Z" } : Jvm.MethodName) prog_13_method_36_code (9 : Nat) (Option.some Jvm.ClassFile.FieldType.boolean)) ∈ vWS := vm_g (vm_t (vm_4 (List.mem_of_getElem? (i := 209) rfl))) rfl
theorem vw4_210 : (Jvm.Cond.methodLink "PackStoreModel" (171 : Nat) ({ cls := "PackStoreModel", name := "readBase", desc := "(I)Z" } : Jvm.MethodName)) ∈ vWS := vm_g (vm_t (vm_4 (List.mem_of_getElem? (i := 210) rfl))) rfl
theorem vw4_212 : (Jvm.Cond.instanceMethod ({ cls := "PackStoreModel", name := "readBase", desc := "(I)Z" } : Jvm.MethodName)) ∈ vWS := vm_g (vm_t (vm_4 (List.mem_of_getElem? (i := 212) rfl))) rfl
theorem vw4_213 : (Jvm.Cond.code ({ cls := "PackStoreModel", name := "readBase", desc := "(I)Z" } : Jvm.MethodName) prog_13_method_37_code (7 : Nat) (Option.some Jvm.ClassFile.FieldType.boolean)) ∈ vWS := vm_g (vm_t (vm_4 (List.mem_of_getElem? (i := 213) rfl))) rfl
theorem vw4_214 : (Jvm.Cond.methodLink "PackStoreModel" (174 : Nat) ({ cls := "PackStoreModel", name := "readRuns", desc := "(I)Z" } : Jvm.MethodName)) ∈ vWS := vm_g (vm_t (vm_4 (List.mem_of_getElem? (i := 214) rfl))) rfl
theorem vw4_216 : (Jvm.Cond.instanceMethod ({ cls := "PackStoreModel", name := "readRuns", desc := "(I)Z" } : Jvm.MethodName)) ∈ vWS := vm_g (vm_t (vm_4 (List.mem_of_getElem? (i := 216) rfl))) rfl
theorem vw4_217 : (Jvm.Cond.code ({ cls := "PackStoreModel", name := "readRuns", desc := "(I)Z" } : Jvm.MethodName) prog_13_method_38_code (8 : Nat) (Option.some Jvm.ClassFile.FieldType.boolean)) ∈ vWS := vm_g (vm_t (vm_4 (List.mem_of_getElem? (i := 217) rfl))) rfl
theorem vw4_218 : (Jvm.Cond.methodLink "PackStoreModel" (190 : Nat) ({ cls := "PackStoreModel", name := "workOut", desc := "()Z" } : Jvm.MethodName)) ∈ vWS := vm_g (vm_t (vm_4 (List.mem_of_getElem? (i := 218) rfl))) rfl
theorem vw4_220 : (Jvm.Cond.instanceMethod ({ cls := "PackStoreModel", name := "workOut", desc := "()Z" } : Jvm.MethodName)) ∈ vWS := vm_g (vm_t (vm_4 (List.mem_of_getElem? (i := 220) rfl))) rfl
theorem vw4_221 : (Jvm.Cond.code ({ cls := "PackStoreModel", name := "workOut", desc := "()Z" } : Jvm.MethodName) prog_13_method_43_code (6 : Nat) (Option.some Jvm.ClassFile.FieldType.boolean)) ∈ vWS := vm_g (vm_t (vm_4 (List.mem_of_getElem? (i := 221) rfl))) rfl
theorem vw4_222 : (Jvm.Cond.methodLink "PackStoreModel" (177 : Nat) ({ cls := "PackStoreModel", name := "takeWhole", desc := "(I)V" } : Jvm.MethodName)) ∈ vWS := vm_g (vm_t (vm_4 (List.mem_of_getElem? (i := 222) rfl))) rfl
theorem vw4_224 : (Jvm.Cond.instanceMethod ({ cls := "PackStoreModel", name := "takeWhole", desc := "(I)V" } : Jvm.MethodName)) ∈ vWS := vm_g (vm_t (vm_4 (List.mem_of_getElem? (i := 224) rfl))) rfl
theorem vw4_225 : (Jvm.Cond.code ({ cls := "PackStoreModel", name := "takeWhole", desc := "(I)V" } : Jvm.MethodName) prog_13_method_42_code (3 : Nat) (Option.none : Option Jvm.ClassFile.FieldType)) ∈ vWS := vm_g (vm_t (vm_4 (List.mem_of_getElem? (i := 225) rfl))) rfl
theorem vw4_226 : (Jvm.Cond.methodLink "PackStoreModel" (180 : Nat) ({ cls := "PackStoreModel", name := "baseOf", desc := "(I)I" } : Jvm.MethodName)) ∈ vWS := vm_g (vm_t (vm_4 (List.mem_of_getElem? (i := 226) rfl))) rfl
theorem vw4_228 : (Jvm.Cond.instanceMethod ({ cls := "PackStoreModel", name := "baseOf", desc := "(I)I" } : Jvm.MethodName)) ∈ vWS := vm_g (vm_t (vm_4 (List.mem_of_getElem? (i := 228) rfl))) rfl
theorem vw4_229 : (Jvm.Cond.code ({ cls := "PackStoreModel", name := "baseOf", desc := "(I)I" } : Jvm.MethodName) prog_13_method_41_code (4 : Nat) (Option.some Jvm.ClassFile.FieldType.int)) ∈ vWS := vm_g (vm_t (vm_4 (List.mem_of_getElem? (i := 229) rfl))) rfl
theorem vw4_230 : (Jvm.Cond.methodLink "PackStoreModel" (183 : Nat) ({ cls := "PackStoreModel", name := "apply", desc := "(II)Z" } : Jvm.MethodName)) ∈ vWS := vm_g (vm_t (vm_4 (List.mem_of_getElem? (i := 230) rfl))) rfl
theorem vw4_232 : (Jvm.Cond.instanceMethod ({ cls := "PackStoreModel", name := "apply", desc := "(II)Z" } : Jvm.MethodName)) ∈ vWS := vm_g (vm_t (vm_4 (List.mem_of_getElem? (i := 232) rfl))) rfl
theorem vw4_233 : (Jvm.Cond.code ({ cls := "PackStoreModel", name := "apply", desc := "(II)Z" } : Jvm.MethodName) prog_13_method_40_code (13 : Nat) (Option.some Jvm.ClassFile.FieldType.boolean)) ∈ vWS := vm_g (vm_t (vm_4 (List.mem_of_getElem? (i := 233) rfl))) rfl
theorem vw4_234 : (Jvm.Cond.methodLink "PackStoreModel" (193 : Nat) ({ cls := "PackStoreModel", name := "sound", desc := "()Z" } : Jvm.MethodName)) ∈ vWS := vm_g (vm_t (vm_4 (List.mem_of_getElem? (i := 234) rfl))) rfl
theorem vw4_236 : (Jvm.Cond.instanceMethod ({ cls := "PackStoreModel", name := "sound", desc := "()Z" } : Jvm.MethodName)) ∈ vWS := vm_g (vm_t (vm_4 (List.mem_of_getElem? (i := 236) rfl))) rfl
theorem vw4_237 : (Jvm.Cond.code ({ cls := "PackStoreModel", name := "sound", desc := "()Z" } : Jvm.MethodName) prog_13_method_44_code (6 : Nat) (Option.some Jvm.ClassFile.FieldType.boolean)) ∈ vWS := vm_g (vm_t (vm_4 (List.mem_of_getElem? (i := 237) rfl))) rfl
theorem vw4_238 : (Jvm.Cond.methodLink "PackStoreLaw" (68 : Nat) ({ cls := "PackStoreModel", name := "forget", desc := "()I" } : Jvm.MethodName)) ∈ vWS := vm_g (vm_t (vm_4 (List.mem_of_getElem? (i := 238) rfl))) rfl
theorem vw4_239 : (Jvm.Cond.instanceMethod ({ cls := "PackStoreModel", name := "forget", desc := "()I" } : Jvm.MethodName)) ∈ vWS := vm_g (vm_t (vm_4 (List.mem_of_getElem? (i := 239) rfl))) rfl
theorem vw5_0 : (Jvm.Cond.selects "PackStoreModel" ({ cls := "PackStoreModel", name := "forget", desc := "()I" } : Jvm.MethodName) ({ cls := "PackStoreModel", name := "forget", desc := "()I" } : Jvm.MethodName)) ∈ vWS := vm_g (vm_t (vm_5 (List.mem_of_getElem? (i := 0) rfl))) rfl
theorem vw5_1 : (Jvm.Cond.code ({ cls := "PackStoreModel", name := "forget", desc := "()I" } : Jvm.MethodName) prog_13_method_46_code (2 : Nat) (Option.some Jvm.ClassFile.FieldType.int)) ∈ vWS := vm_g (vm_t (vm_5 (List.mem_of_getElem? (i := 1) rfl))) rfl
theorem vw5_2 : (Jvm.Cond.methodLink "PackStoreLaw" (73 : Nat) ({ cls := "PackStoreModel", name := "kind", desc := "(II)I" } : Jvm.MethodName)) ∈ vWS := vm_g (vm_t (vm_5 (List.mem_of_getElem? (i := 2) rfl))) rfl
theorem vw5_3 : (Jvm.Cond.instanceMethod ({ cls := "PackStoreModel", name := "kind", desc := "(II)I" } : Jvm.MethodName)) ∈ vWS := vm_g (vm_t (vm_5 (List.mem_of_getElem? (i := 3) rfl))) rfl
theorem vw5_4 : (Jvm.Cond.selects "PackStoreModel" ({ cls := "PackStoreModel", name := "kind", desc := "(II)I" } : Jvm.MethodName) ({ cls := "PackStoreModel", name := "kind", desc := "(II)I" } : Jvm.MethodName)) ∈ vWS := vm_g (vm_t (vm_5 (List.mem_of_getElem? (i := 4) rfl))) rfl
theorem vw5_5 : (Jvm.Cond.code ({ cls := "PackStoreModel", name := "kind", desc := "(II)I" } : Jvm.MethodName) prog_13_method_48_code (4 : Nat) (Option.some Jvm.ClassFile.FieldType.int)) ∈ vWS := vm_g (vm_t (vm_5 (List.mem_of_getElem? (i := 5) rfl))) rfl
theorem vw5_6 : (Jvm.Cond.methodLink "PackStoreModel" (196 : Nat) ({ cls := "PackStoreModel", name := "seek", desc := "(II)I" } : Jvm.MethodName)) ∈ vWS := vm_g (vm_t (vm_5 (List.mem_of_getElem? (i := 6) rfl))) rfl
theorem vw5_8 : (Jvm.Cond.instanceMethod ({ cls := "PackStoreModel", name := "seek", desc := "(II)I" } : Jvm.MethodName)) ∈ vWS := vm_g (vm_t (vm_5 (List.mem_of_getElem? (i := 8) rfl))) rfl
theorem vw5_9 : (Jvm.Cond.code ({ cls := "PackStoreModel", name := "seek", desc := "(II)I" } : Jvm.MethodName) prog_13_method_47_code (3 : Nat) (Option.some Jvm.ClassFile.FieldType.int)) ∈ vWS := vm_g (vm_t (vm_5 (List.mem_of_getElem? (i := 9) rfl))) rfl
theorem vw5_10 : (Jvm.Cond.methodLink "PackStoreLaw" (77 : Nat) ({ cls := "PackStoreModel", name := "length", desc := "(II)I" } : Jvm.MethodName)) ∈ vWS := vm_g (vm_t (vm_5 (List.mem_of_getElem? (i := 10) rfl))) rfl
theorem vw5_11 : (Jvm.Cond.instanceMethod ({ cls := "PackStoreModel", name := "length", desc := "(II)I" } : Jvm.MethodName)) ∈ vWS := vm_g (vm_t (vm_5 (List.mem_of_getElem? (i := 11) rfl))) rfl
theorem vw5_12 : (Jvm.Cond.selects "PackStoreModel" ({ cls := "PackStoreModel", name := "length", desc := "(II)I" } : Jvm.MethodName) ({ cls := "PackStoreModel", name := "length", desc := "(II)I" } : Jvm.MethodName)) ∈ vWS := vm_g (vm_t (vm_5 (List.mem_of_getElem? (i := 12) rfl))) rfl
theorem vw5_13 : (Jvm.Cond.code ({ cls := "PackStoreModel", name := "length", desc := "(II)I" } : Jvm.MethodName) prog_13_method_49_code (4 : Nat) (Option.some Jvm.ClassFile.FieldType.int)) ∈ vWS := vm_g (vm_t (vm_5 (List.mem_of_getElem? (i := 13) rfl))) rfl
theorem vw5_14 : (Jvm.Cond.methodLink "PackStoreLaw" (82 : Nat) ({ cls := "PackStoreModel", name := "content", desc := "(III)I" } : Jvm.MethodName)) ∈ vWS := vm_g (vm_t (vm_5 (List.mem_of_getElem? (i := 14) rfl))) rfl
theorem vw5_15 : (Jvm.Cond.instanceMethod ({ cls := "PackStoreModel", name := "content", desc := "(III)I" } : Jvm.MethodName)) ∈ vWS := vm_g (vm_t (vm_5 (List.mem_of_getElem? (i := 15) rfl))) rfl
theorem vw5_16 : (Jvm.Cond.selects "PackStoreModel" ({ cls := "PackStoreModel", name := "content", desc := "(III)I" } : Jvm.MethodName) ({ cls := "PackStoreModel", name := "content", desc := "(III)I" } : Jvm.MethodName)) ∈ vWS := vm_g (vm_t (vm_5 (List.mem_of_getElem? (i := 16) rfl))) rfl
theorem vw5_17 : (Jvm.Cond.code ({ cls := "PackStoreModel", name := "content", desc := "(III)I" } : Jvm.MethodName) prog_13_method_50_code (5 : Nat) (Option.some Jvm.ClassFile.FieldType.int)) ∈ vWS := vm_g (vm_t (vm_5 (List.mem_of_getElem? (i := 17) rfl))) rfl
theorem vw5_18 : (Jvm.Cond.methodLink "PackStoreLaw" (86 : Nat) ({ cls := "PackStoreModel", name := "closure", desc := "(II)I" } : Jvm.MethodName)) ∈ vWS := vm_g (vm_t (vm_5 (List.mem_of_getElem? (i := 18) rfl))) rfl
theorem vw5_19 : (Jvm.Cond.instanceMethod ({ cls := "PackStoreModel", name := "closure", desc := "(II)I" } : Jvm.MethodName)) ∈ vWS := vm_g (vm_t (vm_5 (List.mem_of_getElem? (i := 19) rfl))) rfl
theorem vw5_20 : (Jvm.Cond.selects "PackStoreModel" ({ cls := "PackStoreModel", name := "closure", desc := "(II)I" } : Jvm.MethodName) ({ cls := "PackStoreModel", name := "closure", desc := "(II)I" } : Jvm.MethodName)) ∈ vWS := vm_g (vm_t (vm_5 (List.mem_of_getElem? (i := 20) rfl))) rfl
theorem vw5_21 : (Jvm.Cond.code ({ cls := "PackStoreModel", name := "closure", desc := "(II)I" } : Jvm.MethodName) prog_13_method_51_code (6 : Nat) (Option.some Jvm.ClassFile.FieldType.int)) ∈ vWS := vm_g (vm_t (vm_5 (List.mem_of_getElem? (i := 21) rfl))) rfl
theorem vw5_22 : (Jvm.Cond.methodLink "PackStoreLaw" (90 : Nat) ({ cls := "PackStoreModel", name := "count", desc := "(I)I" } : Jvm.MethodName)) ∈ vWS := vm_g (vm_t (vm_5 (List.mem_of_getElem? (i := 22) rfl))) rfl
theorem vw5_23 : (Jvm.Cond.instanceMethod ({ cls := "PackStoreModel", name := "count", desc := "(I)I" } : Jvm.MethodName)) ∈ vWS := vm_g (vm_t (vm_5 (List.mem_of_getElem? (i := 23) rfl))) rfl
theorem vw5_24 : (Jvm.Cond.selects "PackStoreModel" ({ cls := "PackStoreModel", name := "count", desc := "(I)I" } : Jvm.MethodName) ({ cls := "PackStoreModel", name := "count", desc := "(I)I" } : Jvm.MethodName)) ∈ vWS := vm_g (vm_t (vm_5 (List.mem_of_getElem? (i := 24) rfl))) rfl
theorem vw5_25 : (Jvm.Cond.code ({ cls := "PackStoreModel", name := "count", desc := "(I)I" } : Jvm.MethodName) prog_13_method_52_code (2 : Nat) (Option.some Jvm.ClassFile.FieldType.int)) ∈ vWS := vm_g (vm_t (vm_5 (List.mem_of_getElem? (i := 25) rfl))) rfl
theorem vp0 : Cond.selects "PackStore$Item" (⟨"PackStore$Item", "hasRisingNames", "()Z"⟩ : MethodName) (⟨"PackStore$Item", "hasRisingNames", "()Z"⟩ : MethodName) ∈ vWS := vm_g (List.mem_append_left _ (List.mem_of_getElem? (i := 0) rfl)) rfl
theorem vp1 : Cond.selects "PackStore" (⟨"PackStore", "isLedTo", "(I)Z"⟩ : MethodName) (⟨"PackStore", "isLedTo", "(I)Z"⟩ : MethodName) ∈ vWS := vm_g (List.mem_append_left _ (List.mem_of_getElem? (i := 1) rfl)) rfl
theorem vp2 : Cond.selects "PackStore$Closure" (⟨"PackStore$Closure", "mark", "(I)V"⟩ : MethodName) (⟨"PackStore$Closure", "mark", "(I)V"⟩ : MethodName) ∈ vWS := vm_g (List.mem_append_left _ (List.mem_of_getElem? (i := 2) rfl)) rfl
theorem vp3 : Cond.selects "PackStore$Closure" (⟨"PackStore$Closure", "markNamed", "(LPackStore$Shelf;LPackStore$Item;)Z"⟩ : MethodName) (⟨"PackStore$Closure", "markNamed", "(LPackStore$Shelf;LPackStore$Item;)Z"⟩ : MethodName) ∈ vWS := vm_g (List.mem_append_left _ (List.mem_of_getElem? (i := 3) rfl)) rfl
theorem vp4 : Cond.selects "PackStore$PackWriter" (⟨"PackStore$PackWriter", "pick", "(ILPackStore$Closure;LPackStore$Closure;)V"⟩ : MethodName) (⟨"PackStore$PackWriter", "pick", "(ILPackStore$Closure;LPackStore$Closure;)V"⟩ : MethodName) ∈ vWS := vm_g (List.mem_append_left _ (List.mem_of_getElem? (i := 4) rfl)) rfl
theorem vp5 : Cond.selects "PackStore$PackWriter" (⟨"PackStore$PackWriter", "writeEntry", "(I)V"⟩ : MethodName) (⟨"PackStore$PackWriter", "writeEntry", "(I)V"⟩ : MethodName) ∈ vWS := vm_g (List.mem_append_left _ (List.mem_of_getElem? (i := 5) rfl)) rfl
theorem vp6 : Cond.selects "PackStore$PackWriter" (⟨"PackStore$PackWriter", "writeByBack", "(LPackStore$Item;LPackStore$Item;I)V"⟩ : MethodName) (⟨"PackStore$PackWriter", "writeByBack", "(LPackStore$Item;LPackStore$Item;I)V"⟩ : MethodName) ∈ vWS := vm_g (List.mem_append_left _ (List.mem_of_getElem? (i := 6) rfl)) rfl
theorem vp7 : Cond.selects "PackStore$PackWriter" (⟨"PackStore$PackWriter", "keepIfShorter", "()V"⟩ : MethodName) (⟨"PackStore$PackWriter", "keepIfShorter", "()V"⟩ : MethodName) ∈ vWS := vm_g (List.mem_append_left _ (List.mem_of_getElem? (i := 7) rfl)) rfl
theorem vp8 : Cond.selects "PackStore$PackReader" (⟨"PackStore$PackReader", "isNext", "(I)Z"⟩ : MethodName) (⟨"PackStore$PackReader", "isNext", "(I)Z"⟩ : MethodName) ∈ vWS := vm_g (List.mem_append_left _ (List.mem_of_getElem? (i := 8) rfl)) rfl
theorem vp9 : Cond.selects "PackStore$PackReader" (⟨"PackStore$PackReader", "next", "(II)I"⟩ : MethodName) (⟨"PackStore$PackReader", "next", "(II)I"⟩ : MethodName) ∈ vWS := vm_g (List.mem_append_left _ (List.mem_of_getElem? (i := 9) rfl)) rfl
theorem vp10 : Cond.selects "PackStore$PackReader" (⟨"PackStore$PackReader", "readEntries", "()Z"⟩ : MethodName) (⟨"PackStore$PackReader", "readEntries", "()Z"⟩ : MethodName) ∈ vWS := vm_g (List.mem_append_left _ (List.mem_of_getElem? (i := 10) rfl)) rfl
theorem vp11 : Cond.selects "PackStore$PackReader" (⟨"PackStore$PackReader", "readHead", "(LPackStore$Entry;)Z"⟩ : MethodName) (⟨"PackStore$PackReader", "readHead", "(LPackStore$Entry;)Z"⟩ : MethodName) ∈ vWS := vm_g (List.mem_append_left _ (List.mem_of_getElem? (i := 11) rfl)) rfl
theorem vp12 : Cond.selects "PackStore$PackReader" (⟨"PackStore$PackReader", "failAtLast", "()Z"⟩ : MethodName) (⟨"PackStore$PackReader", "failAtLast", "()Z"⟩ : MethodName) ∈ vWS := vm_g (List.mem_append_left _ (List.mem_of_getElem? (i := 12) rfl)) rfl
theorem vp13 : Cond.selects "PackStore$PackReader" (⟨"PackStore$PackReader", "readBase", "(LPackStore$Entry;)Z"⟩ : MethodName) (⟨"PackStore$PackReader", "readBase", "(LPackStore$Entry;)Z"⟩ : MethodName) ∈ vWS := vm_g (List.mem_append_left _ (List.mem_of_getElem? (i := 13) rfl)) rfl
theorem vp14 : Cond.selects "PackStore$PackReader" (⟨"PackStore$PackReader", "entryAt", "(I)I"⟩ : MethodName) (⟨"PackStore$PackReader", "entryAt", "(I)I"⟩ : MethodName) ∈ vWS := vm_g (List.mem_append_left _ (List.mem_of_getElem? (i := 14) rfl)) rfl
theorem vp15 : Cond.selects "PackStore$PackReader" (⟨"PackStore$PackReader", "readRuns", "(LPackStore$Entry;)Z"⟩ : MethodName) (⟨"PackStore$PackReader", "readRuns", "(LPackStore$Entry;)Z"⟩ : MethodName) ∈ vWS := vm_g (List.mem_append_left _ (List.mem_of_getElem? (i := 15) rfl)) rfl
theorem vp16 : Cond.selects "PackStore$PackReader" (⟨"PackStore$PackReader", "readRun", "(LPackStore$Row;IZ)Z"⟩ : MethodName) (⟨"PackStore$PackReader", "readRun", "(LPackStore$Row;IZ)Z"⟩ : MethodName) ∈ vWS := vm_g (List.mem_append_left _ (List.mem_of_getElem? (i := 16) rfl)) rfl
theorem vp17 : Cond.selects "PackStore$PackReader" (⟨"PackStore$PackReader", "readHash", "()Z"⟩ : MethodName) (⟨"PackStore$PackReader", "readHash", "()Z"⟩ : MethodName) ∈ vWS := vm_g (List.mem_append_left _ (List.mem_of_getElem? (i := 17) rfl)) rfl
theorem vp18 : Cond.selects "PackStore$PackReader" (⟨"PackStore$PackReader", "readEnd", "()Z"⟩ : MethodName) (⟨"PackStore$PackReader", "readEnd", "()Z"⟩ : MethodName) ∈ vWS := vm_g (List.mem_append_left _ (List.mem_of_getElem? (i := 18) rfl)) rfl
theorem vp19 : Cond.selects "PackStore$PackReader" (⟨"PackStore$PackReader", "workRound", "()I"⟩ : MethodName) (⟨"PackStore$PackReader", "workRound", "()I"⟩ : MethodName) ∈ vWS := vm_g (List.mem_append_left _ (List.mem_of_getElem? (i := 19) rfl)) rfl
theorem vp20 : Cond.selects "PackStore$PackReader" (⟨"PackStore$PackReader", "baseOf", "(LPackStore$Entry;)LPackStore$Item;"⟩ : MethodName) (⟨"PackStore$PackReader", "baseOf", "(LPackStore$Entry;)LPackStore$Item;"⟩ : MethodName) ∈ vWS := vm_g (List.mem_append_left _ (List.mem_of_getElem? (i := 20) rfl)) rfl
theorem vp21 : Cond.selects "PackStore$PackReader" (⟨"PackStore$PackReader", "isClashing", "(I)Z"⟩ : MethodName) (⟨"PackStore$PackReader", "isClashing", "(I)Z"⟩ : MethodName) ∈ vWS := vm_g (List.mem_append_left _ (List.mem_of_getElem? (i := 21) rfl)) rfl
theorem vp22 : Cond.selects "PackStore$PackReader" (⟨"PackStore$PackReader", "isNew", "(I)Z"⟩ : MethodName) (⟨"PackStore$PackReader", "isNew", "(I)Z"⟩ : MethodName) ∈ vWS := vm_g (List.mem_append_left _ (List.mem_of_getElem? (i := 22) rfl)) rfl
theorem vp23 : Cond.selects "PackStore" (⟨"PackStore", "itemOn", "(II)LPackStore$Item;"⟩ : MethodName) (⟨"PackStore", "itemOn", "(II)LPackStore$Item;"⟩ : MethodName) ∈ vWS := vm_g (List.mem_append_left _ (List.mem_of_getElem? (i := 23) rfl)) rfl
theorem vp24 : Cond.selects "PackStore" (⟨"PackStore", "shelfOf", "(I)LPackStore$Shelf;"⟩ : MethodName) (⟨"PackStore", "shelfOf", "(I)LPackStore$Shelf;"⟩ : MethodName) ∈ vWS := vm_g (List.mem_append_left _ (List.mem_of_getElem? (i := 24) rfl)) rfl
theorem vp25 : Cond.selects "PackStoreModel" (⟨"PackStoreModel", "idOf", "(I)I"⟩ : MethodName) (⟨"PackStoreModel", "idOf", "(I)I"⟩ : MethodName) ∈ vWS := vm_g (List.mem_append_left _ (List.mem_of_getElem? (i := 25) rfl)) rfl
theorem vp26 : Cond.selects "PackStoreModel" (⟨"PackStoreModel", "find", "(II)I"⟩ : MethodName) (⟨"PackStoreModel", "find", "(II)I"⟩ : MethodName) ∈ vWS := vm_g (List.mem_append_left _ (List.mem_of_getElem? (i := 26) rfl)) rfl
theorem vp27 : Cond.selects "PackStoreModel" (⟨"PackStoreModel", "wellFormed", "(I)Z"⟩ : MethodName) (⟨"PackStoreModel", "wellFormed", "(I)Z"⟩ : MethodName) ∈ vWS := vm_g (List.mem_append_left _ (List.mem_of_getElem? (i := 27) rfl)) rfl
theorem vp28 : Cond.selects "PackStoreModel" (⟨"PackStoreModel", "same", "(II)Z"⟩ : MethodName) (⟨"PackStoreModel", "same", "(II)Z"⟩ : MethodName) ∈ vWS := vm_g (List.mem_append_left _ (List.mem_of_getElem? (i := 28) rfl)) rfl
theorem vp29 : Cond.selects "PackStoreModel" (⟨"PackStoreModel", "names", "(I)I"⟩ : MethodName) (⟨"PackStoreModel", "names", "(I)I"⟩ : MethodName) ∈ vWS := vm_g (List.mem_append_left _ (List.mem_of_getElem? (i := 29) rfl)) rfl
theorem vp30 : Cond.selects "PackStoreModel" (⟨"PackStoreModel", "named", "(III)I"⟩ : MethodName) (⟨"PackStoreModel", "named", "(III)I"⟩ : MethodName) ∈ vWS := vm_g (List.mem_append_left _ (List.mem_of_getElem? (i := 30) rfl)) rfl
theorem vp31 : Cond.selects "PackStoreModel" (⟨"PackStoreModel", "copy", "(II)V"⟩ : MethodName) (⟨"PackStoreModel", "copy", "(II)V"⟩ : MethodName) ∈ vWS := vm_g (List.mem_append_left _ (List.mem_of_getElem? (i := 31) rfl)) rfl
theorem vp32 : Cond.selects "PackStoreModel" (⟨"PackStoreModel", "select", "()V"⟩ : MethodName) (⟨"PackStoreModel", "select", "()V"⟩ : MethodName) ∈ vWS := vm_g (List.mem_append_left _ (List.mem_of_getElem? (i := 32) rfl)) rfl
theorem vp33 : Cond.selects "PackStoreModel" (⟨"PackStoreModel", "unmark", "()V"⟩ : MethodName) (⟨"PackStoreModel", "unmark", "()V"⟩ : MethodName) ∈ vWS := vm_g (List.mem_append_left _ (List.mem_of_getElem? (i := 33) rfl)) rfl
theorem vp34 : Cond.selects "PackStoreModel" (⟨"PackStoreModel", "close", "(II)V"⟩ : MethodName) (⟨"PackStoreModel", "close", "(II)V"⟩ : MethodName) ∈ vWS := vm_g (List.mem_append_left _ (List.mem_of_getElem? (i := 34) rfl)) rfl
theorem vp35 : Cond.selects "PackStoreModel" (⟨"PackStoreModel", "choose", "()V"⟩ : MethodName) (⟨"PackStoreModel", "choose", "()V"⟩ : MethodName) ∈ vWS := vm_g (List.mem_append_left _ (List.mem_of_getElem? (i := 35) rfl)) rfl
theorem vp36 : Cond.selects "PackStoreModel" (⟨"PackStoreModel", "write", "(I)V"⟩ : MethodName) (⟨"PackStoreModel", "write", "(I)V"⟩ : MethodName) ∈ vWS := vm_g (List.mem_append_left _ (List.mem_of_getElem? (i := 36) rfl)) rfl
theorem vp37 : Cond.selects "PackStoreModel" (⟨"PackStoreModel", "writeEntry", "(II)V"⟩ : MethodName) (⟨"PackStoreModel", "writeEntry", "(II)V"⟩ : MethodName) ∈ vWS := vm_g (List.mem_append_left _ (List.mem_of_getElem? (i := 37) rfl)) rfl
theorem vp38 : Cond.selects "PackStoreModel" (⟨"PackStoreModel", "difference", "(II)V"⟩ : MethodName) (⟨"PackStoreModel", "difference", "(II)V"⟩ : MethodName) ∈ vWS := vm_g (List.mem_append_left _ (List.mem_of_getElem? (i := 38) rfl)) rfl
theorem vp39 : Cond.selects "PackStoreModel" (⟨"PackStoreModel", "addRow", "(I)V"⟩ : MethodName) (⟨"PackStoreModel", "addRow", "(I)V"⟩ : MethodName) ∈ vWS := vm_g (List.mem_append_left _ (List.mem_of_getElem? (i := 39) rfl)) rfl
theorem vp40 : Cond.selects "PackStoreModel" (⟨"PackStoreModel", "writePacked", "()V"⟩ : MethodName) (⟨"PackStoreModel", "writePacked", "()V"⟩ : MethodName) ∈ vWS := vm_g (List.mem_append_left _ (List.mem_of_getElem? (i := 40) rfl)) rfl
theorem vp41 : Cond.selects "PackStoreModel" (⟨"PackStoreModel", "times", "(I)I"⟩ : MethodName) (⟨"PackStoreModel", "times", "(I)I"⟩ : MethodName) ∈ vWS := vm_g (List.mem_append_left _ (List.mem_of_getElem? (i := 41) rfl)) rfl
theorem vp42 : Cond.selects "PackStoreModel" (⟨"PackStoreModel", "hashTo", "(I)I"⟩ : MethodName) (⟨"PackStoreModel", "hashTo", "(I)I"⟩ : MethodName) ∈ vWS := vm_g (List.mem_append_left _ (List.mem_of_getElem? (i := 42) rfl)) rfl
theorem vp43 : Cond.selects "PackStoreModel" (⟨"PackStoreModel", "readPack", "()Z"⟩ : MethodName) (⟨"PackStoreModel", "readPack", "()Z"⟩ : MethodName) ∈ vWS := vm_g (List.mem_append_left _ (List.mem_of_getElem? (i := 43) rfl)) rfl
theorem vp44 : Cond.selects "PackStoreModel" (⟨"PackStoreModel", "look", "()I"⟩ : MethodName) (⟨"PackStoreModel", "look", "()I"⟩ : MethodName) ∈ vWS := vm_g (List.mem_append_left _ (List.mem_of_getElem? (i := 44) rfl)) rfl
theorem vp45 : Cond.selects "PackStoreModel" (⟨"PackStoreModel", "on", "(Z)Z"⟩ : MethodName) (⟨"PackStoreModel", "on", "(Z)Z"⟩ : MethodName) ∈ vWS := vm_g (List.mem_append_left _ (List.mem_of_getElem? (i := 45) rfl)) rfl
theorem vp46 : Cond.selects "PackStoreModel" (⟨"PackStoreModel", "readHead", "(I)Z"⟩ : MethodName) (⟨"PackStoreModel", "readHead", "(I)Z"⟩ : MethodName) ∈ vWS := vm_g (List.mem_append_left _ (List.mem_of_getElem? (i := 46) rfl)) rfl
theorem vp47 : Cond.selects "PackStoreModel" (⟨"PackStoreModel", "readBase", "(I)Z"⟩ : MethodName) (⟨"PackStoreModel", "readBase", "(I)Z"⟩ : MethodName) ∈ vWS := vm_g (List.mem_append_left _ (List.mem_of_getElem? (i := 47) rfl)) rfl
theorem vp48 : Cond.selects "PackStoreModel" (⟨"PackStoreModel", "readRuns", "(I)Z"⟩ : MethodName) (⟨"PackStoreModel", "readRuns", "(I)Z"⟩ : MethodName) ∈ vWS := vm_g (List.mem_append_left _ (List.mem_of_getElem? (i := 48) rfl)) rfl
theorem vp49 : Cond.selects "PackStoreModel" (⟨"PackStoreModel", "workOut", "()Z"⟩ : MethodName) (⟨"PackStoreModel", "workOut", "()Z"⟩ : MethodName) ∈ vWS := vm_g (List.mem_append_left _ (List.mem_of_getElem? (i := 49) rfl)) rfl
theorem vp50 : Cond.selects "PackStoreModel" (⟨"PackStoreModel", "takeWhole", "(I)V"⟩ : MethodName) (⟨"PackStoreModel", "takeWhole", "(I)V"⟩ : MethodName) ∈ vWS := vm_g (List.mem_append_left _ (List.mem_of_getElem? (i := 50) rfl)) rfl
theorem vp51 : Cond.selects "PackStoreModel" (⟨"PackStoreModel", "baseOf", "(I)I"⟩ : MethodName) (⟨"PackStoreModel", "baseOf", "(I)I"⟩ : MethodName) ∈ vWS := vm_g (List.mem_append_left _ (List.mem_of_getElem? (i := 51) rfl)) rfl
theorem vp52 : Cond.selects "PackStoreModel" (⟨"PackStoreModel", "apply", "(II)Z"⟩ : MethodName) (⟨"PackStoreModel", "apply", "(II)Z"⟩ : MethodName) ∈ vWS := vm_g (List.mem_append_left _ (List.mem_of_getElem? (i := 52) rfl)) rfl
theorem vp53 : Cond.selects "PackStoreModel" (⟨"PackStoreModel", "sound", "()Z"⟩ : MethodName) (⟨"PackStoreModel", "sound", "()Z"⟩ : MethodName) ∈ vWS := vm_g (List.mem_append_left _ (List.mem_of_getElem? (i := 53) rfl)) rfl
theorem vp54 : Cond.selects "PackStoreModel" (⟨"PackStoreModel", "seek", "(II)I"⟩ : MethodName) (⟨"PackStoreModel", "seek", "(II)I"⟩ : MethodName) ∈ vWS := vm_g (List.mem_append_left _ (List.mem_of_getElem? (i := 54) rfl)) rfl
end
section
/-! what the tables say of each link and each method (by program) -/
def vlinkF (own : String) (idx : Nat) (q : vw_C) (k : Nat) : Prop := Cond.fieldLink own idx (q.2.1 k).1 (q.2.1 k).2.1 (q.2.1 k).2.2.1 ∈ vWS ∨ ∃ host, Cond.fieldLinkNest own idx (q.2.1 k).1 (q.2.1 k).2.1 (q.2.1 k).2.2.1 host ∈ lw_tbl
def vlinkM (own : String) (idx : Nat) (y : MethodName) : Prop := Cond.methodLink own idx y ∈ vWS ∨ ∃ host, Cond.methodLinkNest own idx y host ∈ lw_tbl
def vfOk (e : Nat × Nat × Nat × Nat) : Prop := ∃ q, vcl[e.2.2.1]? = some q ∧ e.2.2.2 < q.2.2 ∧ vlinkF (vcname e.1) e.2.1 q e.2.2.2
theorem vf_0_14 : vfOk (0, 14, 0, 0) := ⟨_, rfl, by decide, Or.inl vw1_200⟩
theorem vf_0_21 : vfOk (0, 21, 0, 1) := ⟨_, rfl, by decide, Or.inl vw1_201⟩
theorem vf_0_25 : vfOk (0, 25, 0, 2) := ⟨_, rfl, by decide, Or.inl vw1_202⟩
theorem vf_0_31 : vfOk (0, 31, 0, 3) := ⟨_, rfl, by decide, Or.inl vw1_203⟩
theorem vf_0_35 : vfOk (0, 35, 0, 4) := ⟨_, rfl, by decide, Or.inl vw1_204⟩
theorem vf_0_48 : vfOk (0, 48, 0, 5) := ⟨_, rfl, by decide, Or.inl vw1_205⟩
theorem vf_0_52 : vfOk (0, 52, 0, 6) := ⟨_, rfl, by decide, Or.inl vw1_206⟩
theorem vf_0_58 : vfOk (0, 58, 0, 7) := ⟨_, rfl, by decide, Or.inl vw1_207⟩
theorem vf_0_62 : vfOk (0, 62, 0, 8) := ⟨_, rfl, by decide, Or.inl vw1_208⟩
theorem vf_0_70 : vfOk (0, 70, 0, 9) := ⟨_, rfl, by decide, Or.inl vw1_209⟩
theorem vf_0_79 : vfOk (0, 79, 0, 10) := ⟨_, rfl, by decide, Or.inl vw1_210⟩
theorem vf_1_7 : vfOk (1, 7, 1, 0) := ⟨_, rfl, by decide, Or.inl vw1_30⟩
theorem vf_1_13 : vfOk (1, 13, 1, 1) := ⟨_, rfl, by decide, Or.inl vw1_31⟩
theorem vf_2_7 : vfOk (2, 7, 2, 0) := ⟨_, rfl, by decide, Or.inl vw1_81⟩
theorem vf_2_13 : vfOk (2, 13, 2, 1) := ⟨_, rfl, by decide, Or.inl vw1_82⟩
theorem vf_3_14 : vfOk (3, 14, 3, 0) := ⟨_, rfl, by decide, Or.inl vw1_53⟩
theorem vf_3_20 : vfOk (3, 20, 3, 1) := ⟨_, rfl, by decide, Or.inl vw1_54⟩
theorem vf_3_24 : vfOk (3, 24, 3, 2) := ⟨_, rfl, by decide, Or.inl vw1_55⟩
theorem vf_4_9 : vfOk (4, 9, 4, 0) := ⟨_, rfl, by decide, Or.inl vw1_63⟩
theorem vf_4_16 : vfOk (4, 16, 4, 1) := ⟨_, rfl, by decide, Or.inl vw1_64⟩
theorem vf_5_7 : vfOk (5, 7, 5, 0) := ⟨_, rfl, by decide, Or.inl vw1_94⟩
theorem vf_5_13 : vfOk (5, 13, 5, 1) := ⟨_, rfl, by decide, Or.inl vw1_95⟩
theorem vf_5_17 : vfOk (5, 17, 5, 2) := ⟨_, rfl, by decide, Or.inl vw1_96⟩
theorem vf_6_9 : vfOk (6, 9, 6, 0) := ⟨_, rfl, by decide, Or.inl vw1_113⟩
theorem vf_6_15 : vfOk (6, 15, 6, 1) := ⟨_, rfl, by decide, Or.inl vw1_114⟩
theorem vf_6_19 : vfOk (6, 19, 6, 2) := ⟨_, rfl, by decide, Or.inl vw1_115⟩
theorem vf_6_23 : vfOk (6, 23, 6, 3) := ⟨_, rfl, by decide, Or.inl vw1_116⟩
theorem vf_6_26 : vfOk (6, 26, 6, 4) := ⟨_, rfl, by decide, Or.inl vw1_117⟩
theorem vf_6_35 : vfOk (6, 35, 6, 5) := ⟨_, rfl, by decide, Or.inl vw1_118⟩
theorem vf_6_38 : vfOk (6, 38, 6, 6) := ⟨_, rfl, by decide, Or.inl vw1_119⟩
theorem vf_6_41 : vfOk (6, 41, 6, 7) := ⟨_, rfl, by decide, Or.inl vw1_120⟩
theorem vf_7_14 : vfOk (7, 14, 7, 0) := ⟨_, rfl, by decide, Or.inl vw1_155⟩
theorem vf_7_23 : vfOk (7, 23, 7, 1) := ⟨_, rfl, by decide, Or.inl vw1_157⟩
theorem vf_7_27 : vfOk (7, 27, 7, 3) := ⟨_, rfl, by decide, Or.inl vw1_160⟩
theorem vf_7_35 : vfOk (7, 35, 7, 6) := ⟨_, rfl, by decide, Or.inl vw1_164⟩
theorem vf_8_9 : vfOk (8, 9, 8, 0) := ⟨_, rfl, by decide, Or.inl vw1_181⟩
theorem vf_8_15 : vfOk (8, 15, 8, 1) := ⟨_, rfl, by decide, Or.inl vw1_182⟩
theorem vf_8_21 : vfOk (8, 21, 8, 2) := ⟨_, rfl, by decide, Or.inl vw1_183⟩
theorem vf_8_26 : vfOk (8, 26, 8, 3) := ⟨_, rfl, by decide, Or.inl vw1_184⟩
theorem vf_8_30 : vfOk (8, 30, 8, 4) := ⟨_, rfl, by decide, Or.inl vw1_185⟩
theorem vf_8_33 : vfOk (8, 33, 8, 5) := ⟨_, rfl, by decide, Or.inl vw1_186⟩
theorem vf_8_70 : vfOk (8, 70, 7, 2) := ⟨_, rfl, by decide, Or.inr ⟨_, vw1_159⟩⟩
theorem vf_8_73 : vfOk (8, 73, 7, 3) := ⟨_, rfl, by decide, Or.inr ⟨_, vw1_161⟩⟩
theorem vf_8_76 : vfOk (8, 76, 7, 4) := ⟨_, rfl, by decide, Or.inr ⟨_, vw1_162⟩⟩
theorem vf_8_88 : vfOk (8, 88, 7, 5) := ⟨_, rfl, by decide, Or.inr ⟨_, vw1_163⟩⟩
theorem vf_8_94 : vfOk (8, 94, 7, 0) := ⟨_, rfl, by decide, Or.inr ⟨_, vw1_156⟩⟩
theorem vf_8_123 : vfOk (8, 123, 7, 6) := ⟨_, rfl, by decide, Or.inr ⟨_, vw1_165⟩⟩
theorem vf_8_140 : vfOk (8, 140, 7, 1) := ⟨_, rfl, by decide, Or.inr ⟨_, vw1_158⟩⟩
theorem vf_9_7 : vfOk (9, 7, 9, 0) := ⟨_, rfl, by decide, Or.inl vw3_228⟩
theorem vf_9_13 : vfOk (9, 13, 9, 2) := ⟨_, rfl, by decide, Or.inl vw3_230⟩
theorem vf_9_16 : vfOk (9, 16, 9, 3) := ⟨_, rfl, by decide, Or.inl vw3_231⟩
theorem vf_9_19 : vfOk (9, 19, 9, 4) := ⟨_, rfl, by decide, Or.inl vw3_232⟩
theorem vf_9_22 : vfOk (9, 22, 9, 5) := ⟨_, rfl, by decide, Or.inl vw3_233⟩
theorem vf_9_25 : vfOk (9, 25, 9, 6) := ⟨_, rfl, by decide, Or.inl vw3_234⟩
theorem vf_9_29 : vfOk (9, 29, 9, 8) := ⟨_, rfl, by decide, Or.inl vw3_236⟩
theorem vf_9_32 : vfOk (9, 32, 9, 9) := ⟨_, rfl, by decide, Or.inl vw3_237⟩
theorem vf_9_35 : vfOk (9, 35, 9, 12) := ⟨_, rfl, by decide, Or.inl vw4_0⟩
theorem vf_9_38 : vfOk (9, 38, 9, 14) := ⟨_, rfl, by decide, Or.inl vw4_2⟩
theorem vf_9_41 : vfOk (9, 41, 9, 15) := ⟨_, rfl, by decide, Or.inl vw4_3⟩
theorem vf_9_44 : vfOk (9, 44, 9, 17) := ⟨_, rfl, by decide, Or.inl vw4_5⟩
theorem vf_9_47 : vfOk (9, 47, 9, 20) := ⟨_, rfl, by decide, Or.inl vw4_8⟩
theorem vf_9_50 : vfOk (9, 50, 9, 21) := ⟨_, rfl, by decide, Or.inl vw4_9⟩
theorem vf_9_53 : vfOk (9, 53, 9, 22) := ⟨_, rfl, by decide, Or.inl vw4_10⟩
theorem vf_9_56 : vfOk (9, 56, 9, 23) := ⟨_, rfl, by decide, Or.inl vw4_11⟩
theorem vf_9_59 : vfOk (9, 59, 9, 24) := ⟨_, rfl, by decide, Or.inl vw4_12⟩
theorem vf_9_67 : vfOk (9, 67, 9, 1) := ⟨_, rfl, by decide, Or.inl vw3_229⟩
theorem vf_9_85 : vfOk (9, 85, 9, 7) := ⟨_, rfl, by decide, Or.inl vw3_235⟩
theorem vf_9_108 : vfOk (9, 108, 9, 10) := ⟨_, rfl, by decide, Or.inl vw3_238⟩
theorem vf_9_111 : vfOk (9, 111, 9, 11) := ⟨_, rfl, by decide, Or.inl vw3_239⟩
theorem vf_9_114 : vfOk (9, 114, 9, 16) := ⟨_, rfl, by decide, Or.inl vw4_4⟩
theorem vf_9_133 : vfOk (9, 133, 9, 13) := ⟨_, rfl, by decide, Or.inl vw4_1⟩
theorem vf_9_154 : vfOk (9, 154, 9, 18) := ⟨_, rfl, by decide, Or.inl vw4_6⟩
theorem vf_9_165 : vfOk (9, 165, 9, 19) := ⟨_, rfl, by decide, Or.inl vw4_7⟩
set_option maxRecDepth 100000 in
theorem vfl_ok : ∀ e ∈ vfl, vfOk e := List.forall_mem_cons.mpr ⟨vf_0_14, List.forall_mem_cons.mpr ⟨vf_0_21, List.forall_mem_cons.mpr ⟨vf_0_25, List.forall_mem_cons.mpr ⟨vf_0_31, List.forall_mem_cons.mpr ⟨vf_0_35, List.forall_mem_cons.mpr ⟨vf_0_48, List.forall_mem_cons.mpr ⟨vf_0_52, List.forall_mem_cons.mpr ⟨vf_0_58, List.forall_mem_cons.mpr ⟨vf_0_62, List.forall_mem_cons.mpr ⟨vf_0_70, List.forall_mem_cons.mpr ⟨vf_0_79, List.forall_mem_cons.mpr ⟨vf_1_7, List.forall_mem_cons.mpr ⟨vf_1_13, List.forall_mem_cons.mpr ⟨vf_2_7, List.forall_mem_cons.mpr ⟨vf_2_13, List.forall_mem_cons.mpr ⟨vf_3_14, List.forall_mem_cons.mpr ⟨vf_3_20, List.forall_mem_cons.mpr ⟨vf_3_24, List.forall_mem_cons.mpr ⟨vf_4_9, List.forall_mem_cons.mpr ⟨vf_4_16, List.forall_mem_cons.mpr ⟨vf_5_7, List.forall_mem_cons.mpr ⟨vf_5_13, List.forall_mem_cons.mpr ⟨vf_5_17, List.forall_mem_cons.mpr ⟨vf_6_9, List.forall_mem_cons.mpr ⟨vf_6_15, List.forall_mem_cons.mpr ⟨vf_6_19, List.forall_mem_cons.mpr ⟨vf_6_23, List.forall_mem_cons.mpr ⟨vf_6_26, List.forall_mem_cons.mpr ⟨vf_6_35, List.forall_mem_cons.mpr ⟨vf_6_38, List.forall_mem_cons.mpr ⟨vf_6_41, List.forall_mem_cons.mpr ⟨vf_7_14, List.forall_mem_cons.mpr ⟨vf_7_23, List.forall_mem_cons.mpr ⟨vf_7_27, List.forall_mem_cons.mpr ⟨vf_7_35, List.forall_mem_cons.mpr ⟨vf_8_9, List.forall_mem_cons.mpr ⟨vf_8_15, List.forall_mem_cons.mpr ⟨vf_8_21, List.forall_mem_cons.mpr ⟨vf_8_26, List.forall_mem_cons.mpr ⟨vf_8_30, List.forall_mem_cons.mpr ⟨vf_8_33, List.forall_mem_cons.mpr ⟨vf_8_70, List.forall_mem_cons.mpr ⟨vf_8_73, List.forall_mem_cons.mpr ⟨vf_8_76, List.forall_mem_cons.mpr ⟨vf_8_88, List.forall_mem_cons.mpr ⟨vf_8_94, List.forall_mem_cons.mpr ⟨vf_8_123, List.forall_mem_cons.mpr ⟨vf_8_140, List.forall_mem_cons.mpr ⟨vf_9_7, List.forall_mem_cons.mpr ⟨vf_9_13, List.forall_mem_cons.mpr ⟨vf_9_16, List.forall_mem_cons.mpr ⟨vf_9_19, List.forall_mem_cons.mpr ⟨vf_9_22, List.forall_mem_cons.mpr ⟨vf_9_25, List.forall_mem_cons.mpr ⟨vf_9_29, List.forall_mem_cons.mpr ⟨vf_9_32, List.forall_mem_cons.mpr ⟨vf_9_35, List.forall_mem_cons.mpr ⟨vf_9_38, List.forall_mem_cons.mpr ⟨vf_9_41, List.forall_mem_cons.mpr ⟨vf_9_44, List.forall_mem_cons.mpr ⟨vf_9_47, List.forall_mem_cons.mpr ⟨vf_9_50, List.forall_mem_cons.mpr ⟨vf_9_53, List.forall_mem_cons.mpr ⟨vf_9_56, List.forall_mem_cons.mpr ⟨vf_9_59, List.forall_mem_cons.mpr ⟨vf_9_67, List.forall_mem_cons.mpr ⟨vf_9_85, List.forall_mem_cons.mpr ⟨vf_9_108, List.forall_mem_cons.mpr ⟨vf_9_111, List.forall_mem_cons.mpr ⟨vf_9_114, List.forall_mem_cons.mpr ⟨vf_9_133, List.forall_mem_cons.mpr ⟨vf_9_154, List.forall_mem_cons.mpr ⟨vf_9_165, fun _ h => absurd h List.not_mem_nil⟩⟩⟩⟩⟩⟩⟩⟩⟩⟩⟩⟩⟩⟩⟩⟩⟩⟩⟩⟩⟩⟩⟩⟩⟩⟩⟩⟩⟩⟩⟩⟩⟩⟩⟩⟩⟩⟩⟩⟩⟩⟩⟩⟩⟩⟩⟩⟩⟩⟩⟩⟩⟩⟩⟩⟩⟩⟩⟩⟩⟩⟩⟩⟩⟩⟩⟩⟩⟩⟩⟩⟩⟩
def vmOk (e : Nat × Nat × Nat) : Prop := vlinkM (vcname e.1) e.2.1 (vy e.2.2)
theorem vm_0_11 : vmOk (0, 11, 141) := Or.inl vw1_26
theorem vm_0_20 : vmOk (0, 20, 157) := Or.inl vw1_40
theorem vm_0_30 : vmOk (0, 30, 96) := Or.inr ⟨_, vw1_71⟩
theorem vm_0_39 : vmOk (0, 39, 167) := Or.inl vw1_72
theorem vm_0_47 : vmOk (0, 47, 91) := Or.inl vw1_77
theorem vm_0_57 : vmOk (0, 57, 75) := Or.inl vw1_90
theorem vm_0_67 : vmOk (0, 67, 131) := Or.inl vw1_107
theorem vm_0_76 : vmOk (0, 76, 109) := Or.inl vw1_140
theorem vm_0_83 : vmOk (0, 83, 143) := Or.inl vw1_238
theorem vm_0_87 : vmOk (0, 87, 147) := Or.inl vw2_2
theorem vm_0_90 : vmOk (0, 90, 151) := Or.inl vw2_10
theorem vm_0_94 : vmOk (0, 94, 152) := Or.inl vw2_18
theorem vm_0_98 : vmOk (0, 98, 142) := Or.inl vw2_26
theorem vm_0_101 : vmOk (0, 101, 144) := Or.inl vw2_34
theorem vm_0_105 : vmOk (0, 105, 100) := Or.inl vw2_42
theorem vm_0_108 : vmOk (0, 108, 98) := Or.inl vw2_75
theorem vm_0_111 : vmOk (0, 111, 162) := Or.inl vw2_79
theorem vm_0_114 : vmOk (0, 114, 160) := Or.inl vw2_84
theorem vm_0_117 : vmOk (0, 117, 102) := Or.inl vw2_88
theorem vm_0_121 : vmOk (0, 121, 159) := Or.inl vw2_96
theorem vm_0_122 : vmOk (0, 122, 104) := Or.inl vw2_100
theorem vm_0_126 : vmOk (0, 126, 165) := Or.inl vw2_109
theorem vm_0_129 : vmOk (0, 129, 163) := Or.inl vw2_139
theorem vm_0_133 : vmOk (0, 133, 146) := Or.inl vw2_148
theorem vm_0_136 : vmOk (0, 136, 97) := Or.inl vw2_153
theorem vm_0_139 : vmOk (0, 139, 19) := Or.inl vw2_162
theorem vm_0_142 : vmOk (0, 142, 95) := Or.inl vw2_166
theorem vm_0_144 : vmOk (0, 144, 92) := Or.inl vw2_178
theorem vm_0_145 : vmOk (0, 145, 78) := Or.inl vw2_182
theorem vm_0_146 : vmOk (0, 146, 93) := Or.inl vw2_186
theorem vm_0_147 : vmOk (0, 147, 79) := Or.inl vw2_190
theorem vm_0_151 : vmOk (0, 151, 94) := Or.inl vw2_206
theorem vm_0_152 : vmOk (0, 152, 132) := Or.inl vw2_210
theorem vm_0_156 : vmOk (0, 156, 111) := Or.inl vw3_53
theorem vm_0_159 : vmOk (0, 159, 110) := Or.inl vw3_117
theorem vm_0_162 : vmOk (0, 162, 123) := Or.inl vw3_121
theorem vm_0_165 : vmOk (0, 165, 126) := Or.inl vw3_152
theorem vm_0_168 : vmOk (0, 168, 128) := Or.inl vw3_166
theorem vm_0_171 : vmOk (0, 171, 130) := Or.inl vw3_174
theorem vm_0_174 : vmOk (0, 174, 158) := Or.inl vw3_184
theorem vm_0_177 : vmOk (0, 177, 161) := Or.inl vw3_185
theorem vm_0_178 : vmOk (0, 178, 21) := Or.inl vw3_193
theorem vm_0_182 : vmOk (0, 182, 99) := Or.inl vw3_205
theorem vm_0_186 : vmOk (0, 186, 20) := Or.inl vw3_197
theorem vm_0_190 : vmOk (0, 190, 76) := Or.inl vw3_214
theorem vm_1_17 : vmOk (1, 17, 144) := Or.inl vw2_129
theorem vm_1_21 : vmOk (1, 21, 147) := Or.inl vw3_42
theorem vm_1_31 : vmOk (1, 31, 149) := Or.inl vw2_54
theorem vm_1_35 : vmOk (1, 35, 22) := Or.inr ⟨_, vw2_74⟩
theorem vm_3_11 : vmOk (3, 11, 141) := Or.inl vw1_52
theorem vm_3_27 : vmOk (3, 27, 146) := Or.inl vw2_46
theorem vm_3_30 : vmOk (3, 30, 150) := Or.inl vw2_50
theorem vm_3_34 : vmOk (3, 34, 101) := Or.inl vw2_61
theorem vm_3_37 : vmOk (3, 37, 22) := Or.inr ⟨_, vw2_65⟩
theorem vm_3_41 : vmOk (3, 41, 142) := Or.inl vw2_69
theorem vm_3_45 : vmOk (3, 45, 154) := Or.inl vw2_70
theorem vm_3_48 : vmOk (3, 48, 153) := Or.inl vw2_92
theorem vm_3_52 : vmOk (3, 52, 102) := Or.inl vw3_165
theorem vm_3_55 : vmOk (3, 55, 105) := Or.inl vw2_104
theorem vm_3_59 : vmOk (3, 59, 144) := Or.inl vw2_108
theorem vm_3_63 : vmOk (3, 63, 145) := Or.inl vw2_125
theorem vm_4_15 : vmOk (4, 15, 96) := Or.inr ⟨_, vw1_47⟩
theorem vm_4_20 : vmOk (4, 20, 98) := Or.inl vw2_83
theorem vm_4_24 : vmOk (4, 24, 97) := Or.inl vw2_131
theorem vm_4_27 : vmOk (4, 27, 99) := Or.inl vw2_143
theorem vm_4_31 : vmOk (4, 31, 100) := Or.inl vw2_147
theorem vm_4_35 : vmOk (4, 35, 107) := Or.inl vw2_121
theorem vm_4_39 : vmOk (4, 39, 162) := Or.inl vw2_130
theorem vm_4_42 : vmOk (4, 42, 108) := Or.inl vw2_135
theorem vm_4_46 : vmOk (4, 46, 106) := Or.inl vw2_113
theorem vm_4_49 : vmOk (4, 49, 164) := Or.inl vw2_117
theorem vm_5_21 : vmOk (5, 21, 162) := Or.inl vw2_194
theorem vm_5_27 : vmOk (5, 27, 81) := Or.inl vw2_195
theorem vm_5_31 : vmOk (5, 31, 160) := Or.inl vw2_199
theorem vm_5_35 : vmOk (5, 35, 80) := Or.inl vw2_200
theorem vm_5_39 : vmOk (5, 39, 106) := Or.inl vw2_204
theorem vm_5_45 : vmOk (5, 45, 164) := Or.inl vw2_205
theorem vm_6_32 : vmOk (6, 32, 141) := Or.inl vw1_112
theorem vm_6_44 : vmOk (6, 44, 133) := Or.inl vw2_214
theorem vm_6_48 : vmOk (6, 48, 146) := Or.inl vw2_228
theorem vm_6_51 : vmOk (6, 51, 147) := Or.inl vw2_229
theorem vm_6_54 : vmOk (6, 54, 134) := Or.inl vw2_230
theorem vm_6_57 : vmOk (6, 57, 142) := Or.inl vw2_234
theorem vm_6_61 : vmOk (6, 61, 154) := Or.inl vw3_48
theorem vm_6_65 : vmOk (6, 65, 148) := Or.inl vw3_38
theorem vm_6_68 : vmOk (6, 68, 158) := Or.inl vw2_218
theorem vm_6_73 : vmOk (6, 73, 77) := Or.inl vw2_222
theorem vm_6_79 : vmOk (6, 79, 160) := Or.inl vw2_226
theorem vm_6_83 : vmOk (6, 83, 97) := Or.inl vw2_227
theorem vm_6_88 : vmOk (6, 88, 99) := Or.inl vw2_235
theorem vm_6_92 : vmOk (6, 92, 137) := Or.inl vw2_236
theorem vm_6_96 : vmOk (6, 96, 139) := Or.inl vw2_239
theorem vm_6_102 : vmOk (6, 102, 135) := Or.inl vw3_16
theorem vm_6_106 : vmOk (6, 106, 136) := Or.inl vw3_43
theorem vm_6_109 : vmOk (6, 109, 150) := Or.inl vw3_47
theorem vm_6_113 : vmOk (6, 113, 82) := Or.inl vw3_20
theorem vm_7_11 : vmOk (7, 11, 141) := Or.inl vw1_152
theorem vm_7_22 : vmOk (7, 22, 96) := Or.inr ⟨_, vw1_154⟩
theorem vm_7_31 : vmOk (7, 31, 88) := Or.inl vw3_129
theorem vm_7_39 : vmOk (7, 39, 100) := Or.inl vw3_130
theorem vm_8_25 : vmOk (8, 25, 87) := Or.inr ⟨_, vw1_147⟩
theorem vm_8_36 : vmOk (8, 36, 113) := Or.inl vw3_57
theorem vm_8_40 : vmOk (8, 40, 115) := Or.inl vw3_66
theorem vm_8_44 : vmOk (8, 44, 121) := Or.inl vw3_107
theorem vm_8_47 : vmOk (8, 47, 122) := Or.inl vw3_112
theorem vm_8_50 : vmOk (8, 50, 144) := Or.inl vw3_65
theorem vm_8_56 : vmOk (8, 56, 112) := Or.inl vw3_61
theorem vm_8_60 : vmOk (8, 60, 116) := Or.inl vw3_70
theorem vm_8_64 : vmOk (8, 64, 117) := Or.inl vw3_86
theorem vm_8_67 : vmOk (8, 67, 119) := Or.inl vw3_94
theorem vm_8_79 : vmOk (8, 79, 89) := Or.inl vw3_74
theorem vm_8_82 : vmOk (8, 82, 114) := Or.inl vw3_78
theorem vm_8_85 : vmOk (8, 85, 88) := Or.inl vw3_82
theorem vm_8_91 : vmOk (8, 91, 118) := Or.inl vw3_90
theorem vm_8_97 : vmOk (8, 97, 146) := Or.inl vw3_98
theorem vm_8_100 : vmOk (8, 100, 138) := Or.inl vw3_99
theorem vm_8_105 : vmOk (8, 105, 120) := Or.inl vw3_102
theorem vm_8_109 : vmOk (8, 109, 147) := Or.inl vw3_106
theorem vm_8_113 : vmOk (8, 113, 154) := Or.inl vw3_111
theorem vm_8_116 : vmOk (8, 116, 142) := Or.inl vw3_116
theorem vm_8_120 : vmOk (8, 120, 90) := Or.inl vw3_125
theorem vm_8_127 : vmOk (8, 127, 124) := Or.inl vw3_131
theorem vm_8_130 : vmOk (8, 130, 125) := Or.inl vw3_135
theorem vm_8_134 : vmOk (8, 134, 99) := Or.inl vw3_142
theorem vm_8_144 : vmOk (8, 144, 85) := Or.inl vw3_143
theorem vm_8_150 : vmOk (8, 150, 97) := Or.inl vw3_150
theorem vm_8_152 : vmOk (8, 152, 101) := Or.inl vw3_151
theorem vm_8_155 : vmOk (8, 155, 98) := Or.inl vw3_139
theorem vm_8_158 : vmOk (8, 158, 162) := Or.inl vw3_140
theorem vm_8_163 : vmOk (8, 163, 160) := Or.inl vw3_141
theorem vm_8_166 : vmOk (8, 166, 104) := Or.inl vw3_156
theorem vm_8_169 : vmOk (8, 169, 127) := Or.inl vw3_157
theorem vm_8_172 : vmOk (8, 172, 103) := Or.inl vw3_161
theorem vm_8_176 : vmOk (8, 176, 129) := Or.inl vw3_170
theorem vm_8_179 : vmOk (8, 179, 158) := Or.inl vw3_178
theorem vm_8_182 : vmOk (8, 182, 163) := Or.inl vw3_179
theorem vm_9_63 : vmOk (9, 63, 24) := Or.inl vw4_68
theorem vm_9_71 : vmOk (9, 71, 25) := Or.inl vw4_95
theorem vm_9_75 : vmOk (9, 75, 32) := Or.inl vw4_103
theorem vm_9_79 : vmOk (9, 79, 31) := Or.inl vw4_91
theorem vm_9_82 : vmOk (9, 82, 33) := Or.inl vw4_99
theorem vm_9_89 : vmOk (9, 89, 36) := Or.inl vw4_114
theorem vm_9_92 : vmOk (9, 92, 37) := Or.inl vw4_118
theorem vm_9_96 : vmOk (9, 96, 35) := Or.inl vw4_106
theorem vm_9_100 : vmOk (9, 100, 34) := Or.inl vw4_110
theorem vm_9_104 : vmOk (9, 104, 41) := Or.inl vw4_122
theorem vm_9_117 : vmOk (9, 117, 47) := Or.inl vw4_182
theorem vm_9_120 : vmOk (9, 120, 46) := Or.inl vw4_162
theorem vm_9_124 : vmOk (9, 124, 49) := Or.inl vw4_174
theorem vm_9_127 : vmOk (9, 127, 50) := Or.inl vw4_170
theorem vm_9_130 : vmOk (9, 130, 48) := Or.inl vw4_178
theorem vm_9_136 : vmOk (9, 136, 39) := Or.inl vw4_150
theorem vm_9_139 : vmOk (9, 139, 38) := Or.inl vw4_154
theorem vm_9_142 : vmOk (9, 142, 54) := Or.inl vw4_146
theorem vm_9_145 : vmOk (9, 145, 52) := Or.inl vw4_158
theorem vm_9_148 : vmOk (9, 148, 51) := Or.inl vw4_166
theorem vm_9_151 : vmOk (9, 151, 53) := Or.inl vw4_186
theorem vm_9_157 : vmOk (9, 157, 56) := Or.inl vw4_198
theorem vm_9_161 : vmOk (9, 161, 57) := Or.inl vw4_202
theorem vm_9_168 : vmOk (9, 168, 58) := Or.inl vw4_206
theorem vm_9_171 : vmOk (9, 171, 59) := Or.inl vw4_210
theorem vm_9_174 : vmOk (9, 174, 60) := Or.inl vw4_214
theorem vm_9_177 : vmOk (9, 177, 64) := Or.inl vw4_222
theorem vm_9_180 : vmOk (9, 180, 63) := Or.inl vw4_226
theorem vm_9_183 : vmOk (9, 183, 62) := Or.inl vw4_230
theorem vm_9_186 : vmOk (9, 186, 61) := Or.inl vw4_194
theorem vm_9_190 : vmOk (9, 190, 65) := Or.inl vw4_218
theorem vm_9_193 : vmOk (9, 193, 66) := Or.inl vw4_234
theorem vm_9_196 : vmOk (9, 196, 69) := Or.inl vw5_6
theorem vm_10_9 : vmOk (10, 9, 142) := Or.inl vw3_2
theorem vm_10_15 : vmOk (10, 15, 155) := Or.inl vw3_3
theorem vm_10_25 : vmOk (10, 25, 147) := Or.inl vw3_10
theorem vm_10_29 : vmOk (10, 29, 144) := Or.inl vw3_11
theorem vm_10_32 : vmOk (10, 32, 140) := Or.inl vw3_12
theorem vm_10_36 : vmOk (10, 36, 149) := Or.inl vw3_15
theorem vm_11_7 : vmOk (11, 7, 146) := Or.inl vw3_23
theorem vm_11_12 : vmOk (11, 12, 142) := Or.inl vw3_24
theorem vm_11_16 : vmOk (11, 16, 147) := Or.inl vw3_25
theorem vm_11_20 : vmOk (11, 20, 84) := Or.inl vw3_26
theorem vm_11_26 : vmOk (11, 26, 156) := Or.inl vw3_29
theorem vm_11_30 : vmOk (11, 30, 83) := Or.inl vw3_34
theorem vm_11_34 : vmOk (11, 34, 149) := Or.inl vw3_37
theorem vm_11_38 : vmOk (11, 38, 144) := Or.inl vw3_146
theorem vm_11_42 : vmOk (11, 42, 86) := Or.inl vw3_147
theorem vm_12_9 : vmOk (12, 9, 0) := Or.inl vw1_18
theorem vm_12_12 : vmOk (12, 12, 23) := Or.inl vw3_224
theorem vm_12_13 : vmOk (12, 13, 1) := Or.inl vw1_234
theorem vm_12_17 : vmOk (12, 17, 26) := Or.inl vw4_64
theorem vm_12_18 : vmOk (12, 18, 2) := Or.inl vw2_6
theorem vm_12_21 : vmOk (12, 21, 27) := Or.inl vw4_71
theorem vm_12_22 : vmOk (12, 22, 3) := Or.inl vw2_14
theorem vm_12_26 : vmOk (12, 26, 28) := Or.inl vw4_75
theorem vm_12_27 : vmOk (12, 27, 4) := Or.inl vw2_22
theorem vm_12_31 : vmOk (12, 31, 29) := Or.inl vw4_79
theorem vm_12_32 : vmOk (12, 32, 5) := Or.inl vw2_30
theorem vm_12_36 : vmOk (12, 36, 30) := Or.inl vw4_83
theorem vm_12_37 : vmOk (12, 37, 6) := Or.inl vw2_38
theorem vm_12_40 : vmOk (12, 40, 40) := Or.inl vw4_87
theorem vm_12_41 : vmOk (12, 41, 7) := Or.inl vw2_149
theorem vm_12_44 : vmOk (12, 44, 42) := Or.inl vw4_126
theorem vm_12_45 : vmOk (12, 45, 8) := Or.inl vw2_154
theorem vm_12_48 : vmOk (12, 48, 43) := Or.inl vw4_130
theorem vm_12_49 : vmOk (12, 49, 9) := Or.inl vw2_158
theorem vm_12_52 : vmOk (12, 52, 44) := Or.inl vw4_134
theorem vm_12_53 : vmOk (12, 53, 10) := Or.inl vw2_170
theorem vm_12_56 : vmOk (12, 56, 45) := Or.inl vw4_138
theorem vm_12_57 : vmOk (12, 57, 11) := Or.inl vw2_174
theorem vm_12_60 : vmOk (12, 60, 55) := Or.inl vw4_142
theorem vm_12_61 : vmOk (12, 61, 12) := Or.inl vw3_49
theorem vm_12_64 : vmOk (12, 64, 67) := Or.inl vw4_190
theorem vm_12_65 : vmOk (12, 65, 13) := Or.inl vw3_180
theorem vm_12_68 : vmOk (12, 68, 68) := Or.inl vw4_238
theorem vm_12_69 : vmOk (12, 69, 14) := Or.inl vw3_189
theorem vm_12_73 : vmOk (12, 73, 70) := Or.inl vw5_2
theorem vm_12_74 : vmOk (12, 74, 15) := Or.inl vw3_201
theorem vm_12_77 : vmOk (12, 77, 71) := Or.inl vw5_10
theorem vm_12_78 : vmOk (12, 78, 16) := Or.inl vw3_206
theorem vm_12_82 : vmOk (12, 82, 72) := Or.inl vw5_14
theorem vm_12_83 : vmOk (12, 83, 17) := Or.inl vw3_210
theorem vm_12_86 : vmOk (12, 86, 73) := Or.inl vw5_18
theorem vm_12_87 : vmOk (12, 87, 18) := Or.inl vw3_218
theorem vm_12_90 : vmOk (12, 90, 74) := Or.inl vw5_22
set_option maxRecDepth 100000 in
theorem vml_ok : ∀ e ∈ vml, vmOk e := List.forall_mem_cons.mpr ⟨vm_0_11, List.forall_mem_cons.mpr ⟨vm_0_20, List.forall_mem_cons.mpr ⟨vm_0_30, List.forall_mem_cons.mpr ⟨vm_0_39, List.forall_mem_cons.mpr ⟨vm_0_47, List.forall_mem_cons.mpr ⟨vm_0_57, List.forall_mem_cons.mpr ⟨vm_0_67, List.forall_mem_cons.mpr ⟨vm_0_76, List.forall_mem_cons.mpr ⟨vm_0_83, List.forall_mem_cons.mpr ⟨vm_0_87, List.forall_mem_cons.mpr ⟨vm_0_90, List.forall_mem_cons.mpr ⟨vm_0_94, List.forall_mem_cons.mpr ⟨vm_0_98, List.forall_mem_cons.mpr ⟨vm_0_101, List.forall_mem_cons.mpr ⟨vm_0_105, List.forall_mem_cons.mpr ⟨vm_0_108, List.forall_mem_cons.mpr ⟨vm_0_111, List.forall_mem_cons.mpr ⟨vm_0_114, List.forall_mem_cons.mpr ⟨vm_0_117, List.forall_mem_cons.mpr ⟨vm_0_121, List.forall_mem_cons.mpr ⟨vm_0_122, List.forall_mem_cons.mpr ⟨vm_0_126, List.forall_mem_cons.mpr ⟨vm_0_129, List.forall_mem_cons.mpr ⟨vm_0_133, List.forall_mem_cons.mpr ⟨vm_0_136, List.forall_mem_cons.mpr ⟨vm_0_139, List.forall_mem_cons.mpr ⟨vm_0_142, List.forall_mem_cons.mpr ⟨vm_0_144, List.forall_mem_cons.mpr ⟨vm_0_145, List.forall_mem_cons.mpr ⟨vm_0_146, List.forall_mem_cons.mpr ⟨vm_0_147, List.forall_mem_cons.mpr ⟨vm_0_151, List.forall_mem_cons.mpr ⟨vm_0_152, List.forall_mem_cons.mpr ⟨vm_0_156, List.forall_mem_cons.mpr ⟨vm_0_159, List.forall_mem_cons.mpr ⟨vm_0_162, List.forall_mem_cons.mpr ⟨vm_0_165, List.forall_mem_cons.mpr ⟨vm_0_168, List.forall_mem_cons.mpr ⟨vm_0_171, List.forall_mem_cons.mpr ⟨vm_0_174, List.forall_mem_cons.mpr ⟨vm_0_177, List.forall_mem_cons.mpr ⟨vm_0_178, List.forall_mem_cons.mpr ⟨vm_0_182, List.forall_mem_cons.mpr ⟨vm_0_186, List.forall_mem_cons.mpr ⟨vm_0_190, List.forall_mem_cons.mpr ⟨vm_1_17, List.forall_mem_cons.mpr ⟨vm_1_21, List.forall_mem_cons.mpr ⟨vm_1_31, List.forall_mem_cons.mpr ⟨vm_1_35, List.forall_mem_cons.mpr ⟨vm_3_11, List.forall_mem_cons.mpr ⟨vm_3_27, List.forall_mem_cons.mpr ⟨vm_3_30, List.forall_mem_cons.mpr ⟨vm_3_34, List.forall_mem_cons.mpr ⟨vm_3_37, List.forall_mem_cons.mpr ⟨vm_3_41, List.forall_mem_cons.mpr ⟨vm_3_45, List.forall_mem_cons.mpr ⟨vm_3_48, List.forall_mem_cons.mpr ⟨vm_3_52, List.forall_mem_cons.mpr ⟨vm_3_55, List.forall_mem_cons.mpr ⟨vm_3_59, List.forall_mem_cons.mpr ⟨vm_3_63, List.forall_mem_cons.mpr ⟨vm_4_15, List.forall_mem_cons.mpr ⟨vm_4_20, List.forall_mem_cons.mpr ⟨vm_4_24, List.forall_mem_cons.mpr ⟨vm_4_27, List.forall_mem_cons.mpr ⟨vm_4_31, List.forall_mem_cons.mpr ⟨vm_4_35, List.forall_mem_cons.mpr ⟨vm_4_39, List.forall_mem_cons.mpr ⟨vm_4_42, List.forall_mem_cons.mpr ⟨vm_4_46, List.forall_mem_cons.mpr ⟨vm_4_49, List.forall_mem_cons.mpr ⟨vm_5_21, List.forall_mem_cons.mpr ⟨vm_5_27, List.forall_mem_cons.mpr ⟨vm_5_31, List.forall_mem_cons.mpr ⟨vm_5_35, List.forall_mem_cons.mpr ⟨vm_5_39, List.forall_mem_cons.mpr ⟨vm_5_45, List.forall_mem_cons.mpr ⟨vm_6_32, List.forall_mem_cons.mpr ⟨vm_6_44, List.forall_mem_cons.mpr ⟨vm_6_48, List.forall_mem_cons.mpr ⟨vm_6_51, List.forall_mem_cons.mpr ⟨vm_6_54, List.forall_mem_cons.mpr ⟨vm_6_57, List.forall_mem_cons.mpr ⟨vm_6_61, List.forall_mem_cons.mpr ⟨vm_6_65, List.forall_mem_cons.mpr ⟨vm_6_68, List.forall_mem_cons.mpr ⟨vm_6_73, List.forall_mem_cons.mpr ⟨vm_6_79, List.forall_mem_cons.mpr ⟨vm_6_83, List.forall_mem_cons.mpr ⟨vm_6_88, List.forall_mem_cons.mpr ⟨vm_6_92, List.forall_mem_cons.mpr ⟨vm_6_96, List.forall_mem_cons.mpr ⟨vm_6_102, List.forall_mem_cons.mpr ⟨vm_6_106, List.forall_mem_cons.mpr ⟨vm_6_109, List.forall_mem_cons.mpr ⟨vm_6_113, List.forall_mem_cons.mpr ⟨vm_7_11, List.forall_mem_cons.mpr ⟨vm_7_22, List.forall_mem_cons.mpr ⟨vm_7_31, List.forall_mem_cons.mpr ⟨vm_7_39, List.forall_mem_cons.mpr ⟨vm_8_25, List.forall_mem_cons.mpr ⟨vm_8_36, List.forall_mem_cons.mpr ⟨vm_8_40, List.forall_mem_cons.mpr ⟨vm_8_44, List.forall_mem_cons.mpr ⟨vm_8_47, List.forall_mem_cons.mpr ⟨vm_8_50, List.forall_mem_cons.mpr ⟨vm_8_56, List.forall_mem_cons.mpr ⟨vm_8_60, List.forall_mem_cons.mpr ⟨vm_8_64, List.forall_mem_cons.mpr ⟨vm_8_67, List.forall_mem_cons.mpr ⟨vm_8_79, List.forall_mem_cons.mpr ⟨vm_8_82, List.forall_mem_cons.mpr ⟨vm_8_85, List.forall_mem_cons.mpr ⟨vm_8_91, List.forall_mem_cons.mpr ⟨vm_8_97, List.forall_mem_cons.mpr ⟨vm_8_100, List.forall_mem_cons.mpr ⟨vm_8_105, List.forall_mem_cons.mpr ⟨vm_8_109, List.forall_mem_cons.mpr ⟨vm_8_113, List.forall_mem_cons.mpr ⟨vm_8_116, List.forall_mem_cons.mpr ⟨vm_8_120, List.forall_mem_cons.mpr ⟨vm_8_127, List.forall_mem_cons.mpr ⟨vm_8_130, List.forall_mem_cons.mpr ⟨vm_8_134, List.forall_mem_cons.mpr ⟨vm_8_144, List.forall_mem_cons.mpr ⟨vm_8_150, List.forall_mem_cons.mpr ⟨vm_8_152, List.forall_mem_cons.mpr ⟨vm_8_155, List.forall_mem_cons.mpr ⟨vm_8_158, List.forall_mem_cons.mpr ⟨vm_8_163, List.forall_mem_cons.mpr ⟨vm_8_166, List.forall_mem_cons.mpr ⟨vm_8_169, List.forall_mem_cons.mpr ⟨vm_8_172, List.forall_mem_cons.mpr ⟨vm_8_176, List.forall_mem_cons.mpr ⟨vm_8_179, List.forall_mem_cons.mpr ⟨vm_8_182, List.forall_mem_cons.mpr ⟨vm_9_63, List.forall_mem_cons.mpr ⟨vm_9_71, List.forall_mem_cons.mpr ⟨vm_9_75, List.forall_mem_cons.mpr ⟨vm_9_79, List.forall_mem_cons.mpr ⟨vm_9_82, List.forall_mem_cons.mpr ⟨vm_9_89, List.forall_mem_cons.mpr ⟨vm_9_92, List.forall_mem_cons.mpr ⟨vm_9_96, List.forall_mem_cons.mpr ⟨vm_9_100, List.forall_mem_cons.mpr ⟨vm_9_104, List.forall_mem_cons.mpr ⟨vm_9_117, List.forall_mem_cons.mpr ⟨vm_9_120, List.forall_mem_cons.mpr ⟨vm_9_124, List.forall_mem_cons.mpr ⟨vm_9_127, List.forall_mem_cons.mpr ⟨vm_9_130, List.forall_mem_cons.mpr ⟨vm_9_136, List.forall_mem_cons.mpr ⟨vm_9_139, List.forall_mem_cons.mpr ⟨vm_9_142, List.forall_mem_cons.mpr ⟨vm_9_145, List.forall_mem_cons.mpr ⟨vm_9_148, List.forall_mem_cons.mpr ⟨vm_9_151, List.forall_mem_cons.mpr ⟨vm_9_157, List.forall_mem_cons.mpr ⟨vm_9_161, List.forall_mem_cons.mpr ⟨vm_9_168, List.forall_mem_cons.mpr ⟨vm_9_171, List.forall_mem_cons.mpr ⟨vm_9_174, List.forall_mem_cons.mpr ⟨vm_9_177, List.forall_mem_cons.mpr ⟨vm_9_180, List.forall_mem_cons.mpr ⟨vm_9_183, List.forall_mem_cons.mpr ⟨vm_9_186, List.forall_mem_cons.mpr ⟨vm_9_190, List.forall_mem_cons.mpr ⟨vm_9_193, List.forall_mem_cons.mpr ⟨vm_9_196, List.forall_mem_cons.mpr ⟨vm_10_9, List.forall_mem_cons.mpr ⟨vm_10_15, List.forall_mem_cons.mpr ⟨vm_10_25, List.forall_mem_cons.mpr ⟨vm_10_29, List.forall_mem_cons.mpr ⟨vm_10_32, List.forall_mem_cons.mpr ⟨vm_10_36, List.forall_mem_cons.mpr ⟨vm_11_7, List.forall_mem_cons.mpr ⟨vm_11_12, List.forall_mem_cons.mpr ⟨vm_11_16, List.forall_mem_cons.mpr ⟨vm_11_20, List.forall_mem_cons.mpr ⟨vm_11_26, List.forall_mem_cons.mpr ⟨vm_11_30, List.forall_mem_cons.mpr ⟨vm_11_34, List.forall_mem_cons.mpr ⟨vm_11_38, List.forall_mem_cons.mpr ⟨vm_11_42, List.forall_mem_cons.mpr ⟨vm_12_9, List.forall_mem_cons.mpr ⟨vm_12_12, List.forall_mem_cons.mpr ⟨vm_12_13, List.forall_mem_cons.mpr ⟨vm_12_17, List.forall_mem_cons.mpr ⟨vm_12_18, List.forall_mem_cons.mpr ⟨vm_12_21, List.forall_mem_cons.mpr ⟨vm_12_22, List.forall_mem_cons.mpr ⟨vm_12_26, List.forall_mem_cons.mpr ⟨vm_12_27, List.forall_mem_cons.mpr ⟨vm_12_31, List.forall_mem_cons.mpr ⟨vm_12_32, List.forall_mem_cons.mpr ⟨vm_12_36, List.forall_mem_cons.mpr ⟨vm_12_37, List.forall_mem_cons.mpr ⟨vm_12_40, List.forall_mem_cons.mpr ⟨vm_12_41, List.forall_mem_cons.mpr ⟨vm_12_44, List.forall_mem_cons.mpr ⟨vm_12_45, List.forall_mem_cons.mpr ⟨vm_12_48, List.forall_mem_cons.mpr ⟨vm_12_49, List.forall_mem_cons.mpr ⟨vm_12_52, List.forall_mem_cons.mpr ⟨vm_12_53, List.forall_mem_cons.mpr ⟨vm_12_56, List.forall_mem_cons.mpr ⟨vm_12_57, List.forall_mem_cons.mpr ⟨vm_12_60, List.forall_mem_cons.mpr ⟨vm_12_61, List.forall_mem_cons.mpr ⟨vm_12_64, List.forall_mem_cons.mpr ⟨vm_12_65, List.forall_mem_cons.mpr ⟨vm_12_68, List.forall_mem_cons.mpr ⟨vm_12_69, List.forall_mem_cons.mpr ⟨vm_12_73, List.forall_mem_cons.mpr ⟨vm_12_74, List.forall_mem_cons.mpr ⟨vm_12_77, List.forall_mem_cons.mpr ⟨vm_12_78, List.forall_mem_cons.mpr ⟨vm_12_82, List.forall_mem_cons.mpr ⟨vm_12_83, List.forall_mem_cons.mpr ⟨vm_12_86, List.forall_mem_cons.mpr ⟨vm_12_87, List.forall_mem_cons.mpr ⟨vm_12_90, fun _ h => absurd h List.not_mem_nil⟩⟩⟩⟩⟩⟩⟩⟩⟩⟩⟩⟩⟩⟩⟩⟩⟩⟩⟩⟩⟩⟩⟩⟩⟩⟩⟩⟩⟩⟩⟩⟩⟩⟩⟩⟩⟩⟩⟩⟩⟩⟩⟩⟩⟩⟩⟩⟩⟩⟩⟩⟩⟩⟩⟩⟩⟩⟩⟩⟩⟩⟩⟩⟩⟩⟩⟩⟩⟩⟩⟩⟩⟩⟩⟩⟩⟩⟩⟩⟩⟩⟩⟩⟩⟩⟩⟩⟩⟩⟩⟩⟩⟩⟩⟩⟩⟩⟩⟩⟩⟩⟩⟩⟩⟩⟩⟩⟩⟩⟩⟩⟩⟩⟩⟩⟩⟩⟩⟩⟩⟩⟩⟩⟩⟩⟩⟩⟩⟩⟩⟩⟩⟩⟩⟩⟩⟩⟩⟩⟩⟩⟩⟩⟩⟩⟩⟩⟩⟩⟩⟩⟩⟩⟩⟩⟩⟩⟩⟩⟩⟩⟩⟩⟩⟩⟩⟩⟩⟩⟩⟩⟩⟩⟩⟩⟩⟩⟩⟩⟩⟩⟩⟩⟩⟩⟩⟩⟩⟩⟩⟩⟩⟩⟩⟩⟩⟩⟩⟩⟩⟩⟩⟩⟩⟩⟩⟩⟩⟩⟩⟩⟩⟩⟩⟩⟩⟩⟩⟩⟩⟩⟩
def vnName (r : Nat) : MethodName := match r with
  | 1000 => Lib.objectInit
  | 1001 => arraycopyName
  | _ => Lib.Math.min.name
def vnOk (e : Nat × Nat × Nat) : Prop := Cond.methodLink (vcname e.1) e.2.1 (vnName e.2.2) ∈ vWS
set_option maxRecDepth 100000 in
theorem vnl_ok : ∀ e ∈ vnl, vnOk e := List.forall_mem_cons.mpr ⟨vw1_21, List.forall_mem_cons.mpr ⟨vw1_29, List.forall_mem_cons.mpr ⟨vw2_58, List.forall_mem_cons.mpr ⟨vw3_33, List.forall_mem_cons.mpr ⟨vw1_80, List.forall_mem_cons.mpr ⟨vw1_50, List.forall_mem_cons.mpr ⟨vw1_43, List.forall_mem_cons.mpr ⟨vw1_93, List.forall_mem_cons.mpr ⟨vw1_110, List.forall_mem_cons.mpr ⟨vw1_150, List.forall_mem_cons.mpr ⟨vw1_143, List.forall_mem_cons.mpr ⟨vw3_227, List.forall_mem_cons.mpr ⟨vw3_7, fun _ h => absurd h List.not_mem_nil⟩⟩⟩⟩⟩⟩⟩⟩⟩⟩⟩⟩⟩
def vwOk (e : Nat × Nat × Nat) : Prop := ∃ q, vcl[e.2.2]? = some q ∧ Cond.classLink (vcname e.1) e.2.1 q.1 ∈ vWS ∧ Cond.instantiable q.1 q.2.2 ∈ vWS ∧ Cond.initialized q.1 ∈ vWS
set_option maxRecDepth 100000 in
theorem vnw_ok : ∀ e ∈ vnw, vwOk e := List.forall_mem_cons.mpr ⟨⟨_, rfl, vw1_38, vw1_39, vw1_3⟩, List.forall_mem_cons.mpr ⟨⟨_, rfl, vw1_70, vw1_46, vw1_4⟩, List.forall_mem_cons.mpr ⟨⟨_, rfl, vw1_75, vw1_76, vw1_6⟩, List.forall_mem_cons.mpr ⟨⟨_, rfl, vw1_88, vw1_89, vw1_7⟩, List.forall_mem_cons.mpr ⟨⟨_, rfl, vw1_105, vw1_106, vw1_8⟩, List.forall_mem_cons.mpr ⟨⟨_, rfl, vw1_24, vw1_25, vw1_2⟩, List.forall_mem_cons.mpr ⟨⟨_, rfl, vw1_138, vw1_139, vw1_9⟩, List.forall_mem_cons.mpr ⟨⟨_, rfl, vw3_222, vw3_223, vw1_11⟩, List.forall_mem_cons.mpr ⟨⟨_, rfl, vw1_16, vw1_17, vw1_1⟩, List.forall_mem_cons.mpr ⟨⟨_, rfl, vw1_51, vw1_25, vw1_2⟩, List.forall_mem_cons.mpr ⟨⟨_, rfl, vw1_44, vw1_46, vw1_4⟩, List.forall_mem_cons.mpr ⟨⟨_, rfl, vw1_111, vw1_25, vw1_2⟩, List.forall_mem_cons.mpr ⟨⟨_, rfl, vw1_153, vw1_46, vw1_4⟩, List.forall_mem_cons.mpr ⟨⟨_, rfl, vw1_151, vw1_25, vw1_2⟩, List.forall_mem_cons.mpr ⟨⟨_, rfl, vw1_144, vw1_146, vw1_10⟩, fun _ h => absurd h List.not_mem_nil⟩⟩⟩⟩⟩⟩⟩⟩⟩⟩⟩⟩⟩⟩⟩
def vaOk (e : Nat × Nat × Nat) : Prop := Cond.classLink (vcname e.1) e.2.1 (vcn e.2.2) ∈ vWS
set_option maxRecDepth 100000 in
theorem van_ok : ∀ e ∈ van, vaOk e := List.forall_mem_cons.mpr ⟨vw1_44, List.forall_mem_cons.mpr ⟨vw1_144, fun _ h => absurd h List.not_mem_nil⟩⟩
def vcOk (e : Nat × Nat × Nat) : Prop := Cond.constant (vcname e.1) e.2.1 (Int32.ofNat e.2.2) ∈ vWS
set_option maxRecDepth 100000 in
theorem vld_ok : ∀ e ∈ vld0, vcOk e := List.forall_mem_cons.mpr ⟨vw2_68, List.forall_mem_cons.mpr ⟨vw4_98, fun _ h => absurd h List.not_mem_nil⟩⟩
theorem voi : Cond.instanceMethod Lib.objectInit ∈ vWS ∧ Cond.code Lib.objectInit ⟨#[0xb1]⟩ 1 none ∈ vWS := ⟨vw1_22, vw1_23⟩
theorem vac : Cond.native arraycopyName ∈ vWS ∧ Cond.static arraycopyName ∈ vWS ∧ Cond.initialized "java/lang/System" ∈ vWS := ⟨vw2_60, vw2_59, vw1_12⟩
theorem vmm : Cond.static Lib.Math.min.name ∈ vWS ∧ Cond.initialized "java/lang/Math" ∈ vWS ∧ Cond.code Lib.Math.min.name Lib.Math.min.code 2 (some .int) ∈ vWS := ⟨vw3_8, vw1_14, vw3_9⟩
theorem vaw : Cond.arrayClass .int ∈ vWS ∧ Cond.arrayClass .boolean ∈ vWS ∧ Cond.arrayOver (.object (vcn 102)) ∈ lw_tbl ∧ Cond.arrayOver (.object (vcn 103)) ∈ lw_tbl := ⟨vw1_37, vw1_104, vw1_45, vw1_145⟩
/-- a method of the table: words, name, number of parameters -/
def vstat (i : Nat) : Prop := plainName (vy i).cls = true ∧ (vy i).cls = vown i ∧ (vkd i = 2 → (vy i).name = "<init>" ∧ vret i = none) ∧ ((vy i).cls ≠ "java/lang/invoke/MethodHandle" ∧ (vy i).cls ≠ "java/lang/invoke/VarHandle") ∧ Cond.code (vy i) (vbytes i) (vmaxL i) (vret i) ∈ vWS ∧ Cond.initialized (vy i).cls ∈ vWS ∧ (vkd i = 0 → Cond.static (vy i) ∈ vWS) ∧ (vkd i ≠ 0 → Cond.instanceMethod (vy i) ∈ vWS) ∧ (vkd i = 1 → Cond.selects (vy i).cls (vy i) (vy i) ∈ vWS ∧ ∃ q, vcl[vci i]? = some q ∧ q.1 = (vy i).cls)
theorem vs0 : vstat 0 := ⟨by decide +kernel, rfl, fun _ => ⟨rfl, rfl⟩, ⟨by decide +kernel, by decide +kernel⟩, vw1_20, vw1_1, fun h => absurd h (by decide), fun _ => vw1_19, fun h => absurd h (by decide)⟩
theorem vs1 : vstat 1 := ⟨by decide +kernel, rfl, fun h => absurd h (by decide), ⟨by decide +kernel, by decide +kernel⟩, vw1_237, vw1_1, fun h => absurd h (by decide), fun _ => vw1_235, fun _ => ⟨vw1_236, _, rfl, rfl⟩⟩
theorem vs2 : vstat 2 := ⟨by decide +kernel, rfl, fun h => absurd h (by decide), ⟨by decide +kernel, by decide +kernel⟩, vw2_9, vw1_1, fun h => absurd h (by decide), fun _ => vw2_7, fun _ => ⟨vw2_8, _, rfl, rfl⟩⟩
theorem vs3 : vstat 3 := ⟨by decide +kernel, rfl, fun h => absurd h (by decide), ⟨by decide +kernel, by decide +kernel⟩, vw2_17, vw1_1, fun h => absurd h (by decide), fun _ => vw2_15, fun _ => ⟨vw2_16, _, rfl, rfl⟩⟩
theorem vs4 : vstat 4 := ⟨by decide +kernel, rfl, fun h => absurd h (by decide), ⟨by decide +kernel, by decide +kernel⟩, vw2_25, vw1_1, fun h => absurd h (by decide), fun _ => vw2_23, fun _ => ⟨vw2_24, _, rfl, rfl⟩⟩
theorem vs5 : vstat 5 := ⟨by decide +kernel, rfl, fun h => absurd h (by decide), ⟨by decide +kernel, by decide +kernel⟩, vw2_33, vw1_1, fun h => absurd h (by decide), fun _ => vw2_31, fun _ => ⟨vw2_32, _, rfl, rfl⟩⟩
theorem vs6 : vstat 6 := ⟨by decide +kernel, rfl, fun h => absurd h (by decide), ⟨by decide +kernel, by decide +kernel⟩, vw2_41, vw1_1, fun h => absurd h (by decide), fun _ => vw2_39, fun _ => ⟨vw2_40, _, rfl, rfl⟩⟩
theorem vs7 : vstat 7 := ⟨by decide +kernel, rfl, fun h => absurd h (by decide), ⟨by decide +kernel, by decide +kernel⟩, vw2_152, vw1_1, fun h => absurd h (by decide), fun _ => vw2_150, fun _ => ⟨vw2_151, _, rfl, rfl⟩⟩
theorem vs8 : vstat 8 := ⟨by decide +kernel, rfl, fun h => absurd h (by decide), ⟨by decide +kernel, by decide +kernel⟩, vw2_157, vw1_1, fun h => absurd h (by decide), fun _ => vw2_155, fun _ => ⟨vw2_156, _, rfl, rfl⟩⟩
theorem vs9 : vstat 9 := ⟨by decide +kernel, rfl, fun h => absurd h (by decide), ⟨by decide +kernel, by decide +kernel⟩, vw2_161, vw1_1, fun h => absurd h (by decide), fun _ => vw2_159, fun _ => ⟨vw2_160, _, rfl, rfl⟩⟩
theorem vs10 : vstat 10 := ⟨by decide +kernel, rfl, fun h => absurd h (by decide), ⟨by decide +kernel, by decide +kernel⟩, vw2_173, vw1_1, fun h => absurd h (by decide), fun _ => vw2_171, fun _ => ⟨vw2_172, _, rfl, rfl⟩⟩
theorem vs11 : vstat 11 := ⟨by decide +kernel, rfl, fun h => absurd h (by decide), ⟨by decide +kernel, by decide +kernel⟩, vw2_177, vw1_1, fun h => absurd h (by decide), fun _ => vw2_175, fun _ => ⟨vw2_176, _, rfl, rfl⟩⟩
theorem vs12 : vstat 12 := ⟨by decide +kernel, rfl, fun h => absurd h (by decide), ⟨by decide +kernel, by decide +kernel⟩, vw3_52, vw1_1, fun h => absurd h (by decide), fun _ => vw3_50, fun _ => ⟨vw3_51, _, rfl, rfl⟩⟩
theorem vs13 : vstat 13 := ⟨by decide +kernel, rfl, fun h => absurd h (by decide), ⟨by decide +kernel, by decide +kernel⟩, vw3_183, vw1_1, fun h => absurd h (by decide), fun _ => vw3_181, fun _ => ⟨vw3_182, _, rfl, rfl⟩⟩
theorem vs14 : vstat 14 := ⟨by decide +kernel, rfl, fun h => absurd h (by decide), ⟨by decide +kernel, by decide +kernel⟩, vw3_192, vw1_1, fun h => absurd h (by decide), fun _ => vw3_190, fun _ => ⟨vw3_191, _, rfl, rfl⟩⟩
theorem vs15 : vstat 15 := ⟨by decide +kernel, rfl, fun h => absurd h (by decide), ⟨by decide +kernel, by decide +kernel⟩, vw3_204, vw1_1, fun h => absurd h (by decide), fun _ => vw3_202, fun _ => ⟨vw3_203, _, rfl, rfl⟩⟩
theorem vs16 : vstat 16 := ⟨by decide +kernel, rfl, fun h => absurd h (by decide), ⟨by decide +kernel, by decide +kernel⟩, vw3_209, vw1_1, fun h => absurd h (by decide), fun _ => vw3_207, fun _ => ⟨vw3_208, _, rfl, rfl⟩⟩
theorem vs17 : vstat 17 := ⟨by decide +kernel, rfl, fun h => absurd h (by decide), ⟨by decide +kernel, by decide +kernel⟩, vw3_213, vw1_1, fun h => absurd h (by decide), fun _ => vw3_211, fun _ => ⟨vw3_212, _, rfl, rfl⟩⟩
theorem vs18 : vstat 18 := ⟨by decide +kernel, rfl, fun h => absurd h (by decide), ⟨by decide +kernel, by decide +kernel⟩, vw3_221, vw1_1, fun h => absurd h (by decide), fun _ => vw3_219, fun _ => ⟨vw3_220, _, rfl, rfl⟩⟩
theorem vs19 : vstat 19 := ⟨by decide +kernel, rfl, fun h => absurd h (by decide), ⟨by decide +kernel, by decide +kernel⟩, vw2_165, vw1_1, fun h => absurd h (by decide), fun _ => vw2_164, fun _ => ⟨vp1, _, rfl, rfl⟩⟩
theorem vs20 : vstat 20 := ⟨by decide +kernel, rfl, fun h => absurd h (by decide), ⟨by decide +kernel, by decide +kernel⟩, vw3_200, vw1_1, fun h => absurd h (by decide), fun _ => vw3_199, fun _ => ⟨vp24, _, rfl, rfl⟩⟩
theorem vs21 : vstat 21 := ⟨by decide +kernel, rfl, fun h => absurd h (by decide), ⟨by decide +kernel, by decide +kernel⟩, vw3_196, vw1_1, fun h => absurd h (by decide), fun _ => vw3_195, fun _ => ⟨vp23, _, rfl, rfl⟩⟩
theorem vs22 : vstat 22 := ⟨by decide +kernel, rfl, fun h => absurd h (by decide), ⟨by decide +kernel, by decide +kernel⟩, vw2_67, vw1_1, fun _ => vw2_66, fun h => absurd rfl h, fun h => absurd h (by decide)⟩
theorem vs23 : vstat 23 := ⟨by decide +kernel, rfl, fun _ => ⟨rfl, rfl⟩, ⟨by decide +kernel, by decide +kernel⟩, vw3_226, vw1_11, fun h => absurd h (by decide), fun _ => vw3_225, fun h => absurd h (by decide)⟩
theorem vs24 : vstat 24 := ⟨by decide +kernel, rfl, fun h => absurd h (by decide), ⟨by decide +kernel, by decide +kernel⟩, vw4_70, vw1_11, fun _ => vw4_69, fun h => absurd rfl h, fun h => absurd h (by decide)⟩
theorem vs25 : vstat 25 := ⟨by decide +kernel, rfl, fun h => absurd h (by decide), ⟨by decide +kernel, by decide +kernel⟩, vw4_97, vw1_11, fun _ => vw4_96, fun h => absurd rfl h, fun h => absurd h (by decide)⟩
theorem vs26 : vstat 26 := ⟨by decide +kernel, rfl, fun h => absurd h (by decide), ⟨by decide +kernel, by decide +kernel⟩, vw4_67, vw1_11, fun h => absurd h (by decide), fun _ => vw4_65, fun _ => ⟨vw4_66, _, rfl, rfl⟩⟩
theorem vs27 : vstat 27 := ⟨by decide +kernel, rfl, fun h => absurd h (by decide), ⟨by decide +kernel, by decide +kernel⟩, vw4_74, vw1_11, fun h => absurd h (by decide), fun _ => vw4_72, fun _ => ⟨vw4_73, _, rfl, rfl⟩⟩
theorem vs28 : vstat 28 := ⟨by decide +kernel, rfl, fun h => absurd h (by decide), ⟨by decide +kernel, by decide +kernel⟩, vw4_78, vw1_11, fun h => absurd h (by decide), fun _ => vw4_76, fun _ => ⟨vw4_77, _, rfl, rfl⟩⟩
theorem vs29 : vstat 29 := ⟨by decide +kernel, rfl, fun h => absurd h (by decide), ⟨by decide +kernel, by decide +kernel⟩, vw4_82, vw1_11, fun h => absurd h (by decide), fun _ => vw4_80, fun _ => ⟨vw4_81, _, rfl, rfl⟩⟩
theorem vs30 : vstat 30 := ⟨by decide +kernel, rfl, fun h => absurd h (by decide), ⟨by decide +kernel, by decide +kernel⟩, vw4_86, vw1_11, fun h => absurd h (by decide), fun _ => vw4_84, fun _ => ⟨vw4_85, _, rfl, rfl⟩⟩
theorem vs31 : vstat 31 := ⟨by decide +kernel, rfl, fun h => absurd h (by decide), ⟨by decide +kernel, by decide +kernel⟩, vw4_94, vw1_11, fun h => absurd h (by decide), fun _ => vw4_93, fun _ => ⟨vp25, _, rfl, rfl⟩⟩
theorem vs32 : vstat 32 := ⟨by decide +kernel, rfl, fun h => absurd h (by decide), ⟨by decide +kernel, by decide +kernel⟩, vw4_105, vw1_11, fun _ => vw4_104, fun h => absurd rfl h, fun h => absurd h (by decide)⟩
theorem vs33 : vstat 33 := ⟨by decide +kernel, rfl, fun h => absurd h (by decide), ⟨by decide +kernel, by decide +kernel⟩, vw4_102, vw1_11, fun h => absurd h (by decide), fun _ => vw4_101, fun _ => ⟨vp26, _, rfl, rfl⟩⟩
theorem vs34 : vstat 34 := ⟨by decide +kernel, rfl, fun h => absurd h (by decide), ⟨by decide +kernel, by decide +kernel⟩, vw4_113, vw1_11, fun h => absurd h (by decide), fun _ => vw4_112, fun _ => ⟨vp28, _, rfl, rfl⟩⟩
theorem vs35 : vstat 35 := ⟨by decide +kernel, rfl, fun h => absurd h (by decide), ⟨by decide +kernel, by decide +kernel⟩, vw4_109, vw1_11, fun h => absurd h (by decide), fun _ => vw4_108, fun _ => ⟨vp27, _, rfl, rfl⟩⟩
theorem vs36 : vstat 36 := ⟨by decide +kernel, rfl, fun h => absurd h (by decide), ⟨by decide +kernel, by decide +kernel⟩, vw4_117, vw1_11, fun h => absurd h (by decide), fun _ => vw4_116, fun _ => ⟨vp29, _, rfl, rfl⟩⟩
theorem vs37 : vstat 37 := ⟨by decide +kernel, rfl, fun h => absurd h (by decide), ⟨by decide +kernel, by decide +kernel⟩, vw4_121, vw1_11, fun h => absurd h (by decide), fun _ => vw4_120, fun _ => ⟨vp30, _, rfl, rfl⟩⟩
theorem vs38 : vstat 38 := ⟨by decide +kernel, rfl, fun h => absurd h (by decide), ⟨by decide +kernel, by decide +kernel⟩, vw4_157, vw1_11, fun h => absurd h (by decide), fun _ => vw4_156, fun _ => ⟨vp34, _, rfl, rfl⟩⟩
theorem vs39 : vstat 39 := ⟨by decide +kernel, rfl, fun h => absurd h (by decide), ⟨by decide +kernel, by decide +kernel⟩, vw4_153, vw1_11, fun h => absurd h (by decide), fun _ => vw4_152, fun _ => ⟨vp33, _, rfl, rfl⟩⟩
theorem vs40 : vstat 40 := ⟨by decide +kernel, rfl, fun h => absurd h (by decide), ⟨by decide +kernel, by decide +kernel⟩, vw4_90, vw1_11, fun h => absurd h (by decide), fun _ => vw4_88, fun _ => ⟨vw4_89, _, rfl, rfl⟩⟩
theorem vs41 : vstat 41 := ⟨by decide +kernel, rfl, fun h => absurd h (by decide), ⟨by decide +kernel, by decide +kernel⟩, vw4_125, vw1_11, fun h => absurd h (by decide), fun _ => vw4_124, fun _ => ⟨vp31, _, rfl, rfl⟩⟩
theorem vs42 : vstat 42 := ⟨by decide +kernel, rfl, fun h => absurd h (by decide), ⟨by decide +kernel, by decide +kernel⟩, vw4_129, vw1_11, fun h => absurd h (by decide), fun _ => vw4_127, fun _ => ⟨vw4_128, _, rfl, rfl⟩⟩
theorem vs43 : vstat 43 := ⟨by decide +kernel, rfl, fun h => absurd h (by decide), ⟨by decide +kernel, by decide +kernel⟩, vw4_133, vw1_11, fun h => absurd h (by decide), fun _ => vw4_131, fun _ => ⟨vw4_132, _, rfl, rfl⟩⟩
theorem vs44 : vstat 44 := ⟨by decide +kernel, rfl, fun h => absurd h (by decide), ⟨by decide +kernel, by decide +kernel⟩, vw4_137, vw1_11, fun h => absurd h (by decide), fun _ => vw4_135, fun _ => ⟨vw4_136, _, rfl, rfl⟩⟩
theorem vs45 : vstat 45 := ⟨by decide +kernel, rfl, fun h => absurd h (by decide), ⟨by decide +kernel, by decide +kernel⟩, vw4_141, vw1_11, fun h => absurd h (by decide), fun _ => vw4_139, fun _ => ⟨vw4_140, _, rfl, rfl⟩⟩
theorem vs46 : vstat 46 := ⟨by decide +kernel, rfl, fun h => absurd h (by decide), ⟨by decide +kernel, by decide +kernel⟩, vw4_165, vw1_11, fun h => absurd h (by decide), fun _ => vw4_164, fun _ => ⟨vp36, _, rfl, rfl⟩⟩
theorem vs47 : vstat 47 := ⟨by decide +kernel, rfl, fun h => absurd h (by decide), ⟨by decide +kernel, by decide +kernel⟩, vw4_185, vw1_11, fun h => absurd h (by decide), fun _ => vw4_184, fun _ => ⟨vp41, _, rfl, rfl⟩⟩
theorem vs48 : vstat 48 := ⟨by decide +kernel, rfl, fun h => absurd h (by decide), ⟨by decide +kernel, by decide +kernel⟩, vw4_181, vw1_11, fun h => absurd h (by decide), fun _ => vw4_180, fun _ => ⟨vp40, _, rfl, rfl⟩⟩
theorem vs49 : vstat 49 := ⟨by decide +kernel, rfl, fun h => absurd h (by decide), ⟨by decide +kernel, by decide +kernel⟩, vw4_177, vw1_11, fun h => absurd h (by decide), fun _ => vw4_176, fun _ => ⟨vp39, _, rfl, rfl⟩⟩
theorem vs50 : vstat 50 := ⟨by decide +kernel, rfl, fun h => absurd h (by decide), ⟨by decide +kernel, by decide +kernel⟩, vw4_173, vw1_11, fun h => absurd h (by decide), fun _ => vw4_172, fun _ => ⟨vp38, _, rfl, rfl⟩⟩
theorem vs51 : vstat 51 := ⟨by decide +kernel, rfl, fun h => absurd h (by decide), ⟨by decide +kernel, by decide +kernel⟩, vw4_169, vw1_11, fun h => absurd h (by decide), fun _ => vw4_168, fun _ => ⟨vp37, _, rfl, rfl⟩⟩
theorem vs52 : vstat 52 := ⟨by decide +kernel, rfl, fun h => absurd h (by decide), ⟨by decide +kernel, by decide +kernel⟩, vw4_161, vw1_11, fun h => absurd h (by decide), fun _ => vw4_160, fun _ => ⟨vp35, _, rfl, rfl⟩⟩
theorem vs53 : vstat 53 := ⟨by decide +kernel, rfl, fun h => absurd h (by decide), ⟨by decide +kernel, by decide +kernel⟩, vw4_189, vw1_11, fun h => absurd h (by decide), fun _ => vw4_188, fun _ => ⟨vp42, _, rfl, rfl⟩⟩
theorem vs54 : vstat 54 := ⟨by decide +kernel, rfl, fun h => absurd h (by decide), ⟨by decide +kernel, by decide +kernel⟩, vw4_149, vw1_11, fun h => absurd h (by decide), fun _ => vw4_148, fun _ => ⟨vp32, _, rfl, rfl⟩⟩
theorem vs55 : vstat 55 := ⟨by decide +kernel, rfl, fun h => absurd h (by decide), ⟨by decide +kernel, by decide +kernel⟩, vw4_145, vw1_11, fun h => absurd h (by decide), fun _ => vw4_143, fun _ => ⟨vw4_144, _, rfl, rfl⟩⟩
theorem vs56 : vstat 56 := ⟨by decide +kernel, rfl, fun h => absurd h (by decide), ⟨by decide +kernel, by decide +kernel⟩, vw4_201, vw1_11, fun h => absurd h (by decide), fun _ => vw4_200, fun _ => ⟨vp44, _, rfl, rfl⟩⟩
theorem vs57 : vstat 57 := ⟨by decide +kernel, rfl, fun h => absurd h (by decide), ⟨by decide +kernel, by decide +kernel⟩, vw4_205, vw1_11, fun h => absurd h (by decide), fun _ => vw4_204, fun _ => ⟨vp45, _, rfl, rfl⟩⟩
theorem vs58 : vstat 58 := ⟨by decide +kernel, rfl, fun h => absurd h (by decide), ⟨by decide +kernel, by decide +kernel⟩, vw4_209, vw1_11, fun h => absurd h (by decide), fun _ => vw4_208, fun _ => ⟨vp46, _, rfl, rfl⟩⟩
theorem vs59 : vstat 59 := ⟨by decide +kernel, rfl, fun h => absurd h (by decide), ⟨by decide +kernel, by decide +kernel⟩, vw4_213, vw1_11, fun h => absurd h (by decide), fun _ => vw4_212, fun _ => ⟨vp47, _, rfl, rfl⟩⟩
theorem vs60 : vstat 60 := ⟨by decide +kernel, rfl, fun h => absurd h (by decide), ⟨by decide +kernel, by decide +kernel⟩, vw4_217, vw1_11, fun h => absurd h (by decide), fun _ => vw4_216, fun _ => ⟨vp48, _, rfl, rfl⟩⟩
theorem vs61 : vstat 61 := ⟨by decide +kernel, rfl, fun h => absurd h (by decide), ⟨by decide +kernel, by decide +kernel⟩, vw4_197, vw1_11, fun h => absurd h (by decide), fun _ => vw4_196, fun _ => ⟨vp43, _, rfl, rfl⟩⟩
theorem vs62 : vstat 62 := ⟨by decide +kernel, rfl, fun h => absurd h (by decide), ⟨by decide +kernel, by decide +kernel⟩, vw4_233, vw1_11, fun h => absurd h (by decide), fun _ => vw4_232, fun _ => ⟨vp52, _, rfl, rfl⟩⟩
theorem vs63 : vstat 63 := ⟨by decide +kernel, rfl, fun h => absurd h (by decide), ⟨by decide +kernel, by decide +kernel⟩, vw4_229, vw1_11, fun h => absurd h (by decide), fun _ => vw4_228, fun _ => ⟨vp51, _, rfl, rfl⟩⟩
theorem vs64 : vstat 64 := ⟨by decide +kernel, rfl, fun h => absurd h (by decide), ⟨by decide +kernel, by decide +kernel⟩, vw4_225, vw1_11, fun h => absurd h (by decide), fun _ => vw4_224, fun _ => ⟨vp50, _, rfl, rfl⟩⟩
theorem vs65 : vstat 65 := ⟨by decide +kernel, rfl, fun h => absurd h (by decide), ⟨by decide +kernel, by decide +kernel⟩, vw4_221, vw1_11, fun h => absurd h (by decide), fun _ => vw4_220, fun _ => ⟨vp49, _, rfl, rfl⟩⟩
theorem vs66 : vstat 66 := ⟨by decide +kernel, rfl, fun h => absurd h (by decide), ⟨by decide +kernel, by decide +kernel⟩, vw4_237, vw1_11, fun h => absurd h (by decide), fun _ => vw4_236, fun _ => ⟨vp53, _, rfl, rfl⟩⟩
theorem vs67 : vstat 67 := ⟨by decide +kernel, rfl, fun h => absurd h (by decide), ⟨by decide +kernel, by decide +kernel⟩, vw4_193, vw1_11, fun h => absurd h (by decide), fun _ => vw4_191, fun _ => ⟨vw4_192, _, rfl, rfl⟩⟩
theorem vs68 : vstat 68 := ⟨by decide +kernel, rfl, fun h => absurd h (by decide), ⟨by decide +kernel, by decide +kernel⟩, vw5_1, vw1_11, fun h => absurd h (by decide), fun _ => vw4_239, fun _ => ⟨vw5_0, _, rfl, rfl⟩⟩
theorem vs69 : vstat 69 := ⟨by decide +kernel, rfl, fun h => absurd h (by decide), ⟨by decide +kernel, by decide +kernel⟩, vw5_9, vw1_11, fun h => absurd h (by decide), fun _ => vw5_8, fun _ => ⟨vp54, _, rfl, rfl⟩⟩
theorem vs70 : vstat 70 := ⟨by decide +kernel, rfl, fun h => absurd h (by decide), ⟨by decide +kernel, by decide +kernel⟩, vw5_5, vw1_11, fun h => absurd h (by decide), fun _ => vw5_3, fun _ => ⟨vw5_4, _, rfl, rfl⟩⟩
theorem vs71 : vstat 71 := ⟨by decide +kernel, rfl, fun h => absurd h (by decide), ⟨by decide +kernel, by decide +kernel⟩, vw5_13, vw1_11, fun h => absurd h (by decide), fun _ => vw5_11, fun _ => ⟨vw5_12, _, rfl, rfl⟩⟩
theorem vs72 : vstat 72 := ⟨by decide +kernel, rfl, fun h => absurd h (by decide), ⟨by decide +kernel, by decide +kernel⟩, vw5_17, vw1_11, fun h => absurd h (by decide), fun _ => vw5_15, fun _ => ⟨vw5_16, _, rfl, rfl⟩⟩
theorem vs73 : vstat 73 := ⟨by decide +kernel, rfl, fun h => absurd h (by decide), ⟨by decide +kernel, by decide +kernel⟩, vw5_21, vw1_11, fun h => absurd h (by decide), fun _ => vw5_19, fun _ => ⟨vw5_20, _, rfl, rfl⟩⟩
theorem vs74 : vstat 74 := ⟨by decide +kernel, rfl, fun h => absurd h (by decide), ⟨by decide +kernel, by decide +kernel⟩, vw5_25, vw1_11, fun h => absurd h (by decide), fun _ => vw5_23, fun _ => ⟨vw5_24, _, rfl, rfl⟩⟩
theorem vs75 : vstat 75 := ⟨by decide +kernel, rfl, fun _ => ⟨rfl, rfl⟩, ⟨by decide +kernel, by decide +kernel⟩, vw1_92, vw1_7, fun h => absurd h (by decide), fun _ => vw1_91, fun h => absurd h (by decide)⟩
theorem vs76 : vstat 76 := ⟨by decide +kernel, rfl, fun h => absurd h (by decide), ⟨by decide +kernel, by decide +kernel⟩, vw3_217, vw1_7, fun h => absurd h (by decide), fun _ => vw3_215, fun _ => ⟨vw3_216, _, rfl, rfl⟩⟩
theorem vs77 : vstat 77 := ⟨by decide +kernel, rfl, fun h => absurd h (by decide), ⟨by decide +kernel, by decide +kernel⟩, vw2_225, vw1_7, fun h => absurd h (by decide), fun _ => vw2_223, fun _ => ⟨vw2_224, _, rfl, rfl⟩⟩
theorem vs78 : vstat 78 := ⟨by decide +kernel, rfl, fun h => absurd h (by decide), ⟨by decide +kernel, by decide +kernel⟩, vw2_185, vw1_7, fun h => absurd h (by decide), fun _ => vw2_183, fun _ => ⟨vw2_184, _, rfl, rfl⟩⟩
theorem vs79 : vstat 79 := ⟨by decide +kernel, rfl, fun h => absurd h (by decide), ⟨by decide +kernel, by decide +kernel⟩, vw2_193, vw1_7, fun h => absurd h (by decide), fun _ => vw2_191, fun _ => ⟨vw2_192, _, rfl, rfl⟩⟩
theorem vs80 : vstat 80 := ⟨by decide +kernel, rfl, fun h => absurd h (by decide), ⟨by decide +kernel, by decide +kernel⟩, vw2_203, vw1_7, fun h => absurd h (by decide), fun _ => vw2_202, fun _ => ⟨vp3, _, rfl, rfl⟩⟩
theorem vs81 : vstat 81 := ⟨by decide +kernel, rfl, fun h => absurd h (by decide), ⟨by decide +kernel, by decide +kernel⟩, vw2_198, vw1_7, fun h => absurd h (by decide), fun _ => vw2_197, fun _ => ⟨vp2, _, rfl, rfl⟩⟩
theorem vs82 : vstat 82 := ⟨by decide +kernel, rfl, fun h => absurd h (by decide), ⟨by decide +kernel, by decide +kernel⟩, vw3_22, vw1_15, fun _ => vw3_21, fun h => absurd rfl h, fun h => absurd h (by decide)⟩
theorem vs83 : vstat 83 := ⟨by decide +kernel, rfl, fun h => absurd h (by decide), ⟨by decide +kernel, by decide +kernel⟩, vw3_36, vw1_15, fun _ => vw3_35, fun h => absurd rfl h, fun h => absurd h (by decide)⟩
theorem vs84 : vstat 84 := ⟨by decide +kernel, rfl, fun h => absurd h (by decide), ⟨by decide +kernel, by decide +kernel⟩, vw3_28, vw1_15, fun _ => vw3_27, fun h => absurd rfl h, fun h => absurd h (by decide)⟩
theorem vs85 : vstat 85 := ⟨by decide +kernel, rfl, fun h => absurd h (by decide), ⟨by decide +kernel, by decide +kernel⟩, vw3_145, vw1_15, fun _ => vw3_144, fun h => absurd rfl h, fun h => absurd h (by decide)⟩
theorem vs86 : vstat 86 := ⟨by decide +kernel, rfl, fun h => absurd h (by decide), ⟨by decide +kernel, by decide +kernel⟩, vw3_149, vw1_15, fun _ => vw3_148, fun h => absurd rfl h, fun h => absurd h (by decide)⟩
theorem vs87 : vstat 87 := ⟨by decide +kernel, rfl, fun _ => ⟨rfl, rfl⟩, ⟨by decide +kernel, by decide +kernel⟩, vw1_149, vw1_10, fun h => absurd h (by decide), fun _ => vw1_148, fun h => absurd h (by decide)⟩
theorem vs88 : vstat 88 := ⟨by decide +kernel, rfl, fun h => absurd h (by decide), ⟨by decide +kernel, by decide +kernel⟩, vw3_85, vw1_10, fun h => absurd h (by decide), fun _ => vw3_83, fun _ => ⟨vw3_84, _, rfl, rfl⟩⟩
theorem vs89 : vstat 89 := ⟨by decide +kernel, rfl, fun h => absurd h (by decide), ⟨by decide +kernel, by decide +kernel⟩, vw3_77, vw1_10, fun h => absurd h (by decide), fun _ => vw3_75, fun _ => ⟨vw3_76, _, rfl, rfl⟩⟩
theorem vs90 : vstat 90 := ⟨by decide +kernel, rfl, fun h => absurd h (by decide), ⟨by decide +kernel, by decide +kernel⟩, vw3_128, vw1_10, fun h => absurd h (by decide), fun _ => vw3_126, fun _ => ⟨vw3_127, _, rfl, rfl⟩⟩
theorem vs91 : vstat 91 := ⟨by decide +kernel, rfl, fun _ => ⟨rfl, rfl⟩, ⟨by decide +kernel, by decide +kernel⟩, vw1_79, vw1_6, fun h => absurd h (by decide), fun _ => vw1_78, fun h => absurd h (by decide)⟩
theorem vs92 : vstat 92 := ⟨by decide +kernel, rfl, fun h => absurd h (by decide), ⟨by decide +kernel, by decide +kernel⟩, vw2_181, vw1_6, fun h => absurd h (by decide), fun _ => vw2_179, fun _ => ⟨vw2_180, _, rfl, rfl⟩⟩
theorem vs93 : vstat 93 := ⟨by decide +kernel, rfl, fun h => absurd h (by decide), ⟨by decide +kernel, by decide +kernel⟩, vw2_189, vw1_6, fun h => absurd h (by decide), fun _ => vw2_187, fun _ => ⟨vw2_188, _, rfl, rfl⟩⟩
theorem vs94 : vstat 94 := ⟨by decide +kernel, rfl, fun h => absurd h (by decide), ⟨by decide +kernel, by decide +kernel⟩, vw2_209, vw1_6, fun h => absurd h (by decide), fun _ => vw2_207, fun _ => ⟨vw2_208, _, rfl, rfl⟩⟩
theorem vs95 : vstat 95 := ⟨by decide +kernel, rfl, fun h => absurd h (by decide), ⟨by decide +kernel, by decide +kernel⟩, vw2_169, vw1_6, fun h => absurd h (by decide), fun _ => vw2_167, fun _ => ⟨vw2_168, _, rfl, rfl⟩⟩
theorem vs96 : vstat 96 := ⟨by decide +kernel, rfl, fun _ => ⟨rfl, rfl⟩, ⟨by decide +kernel, by decide +kernel⟩, vw1_49, vw1_4, fun h => absurd h (by decide), fun _ => vw1_48, fun h => absurd h (by decide)⟩
theorem vs97 : vstat 97 := ⟨by decide +kernel, rfl, fun h => absurd h (by decide), ⟨by decide +kernel, by decide +kernel⟩, vw2_134, vw1_4, fun h => absurd h (by decide), fun _ => vw2_132, fun _ => ⟨vw2_133, _, rfl, rfl⟩⟩
theorem vs98 : vstat 98 := ⟨by decide +kernel, rfl, fun h => absurd h (by decide), ⟨by decide +kernel, by decide +kernel⟩, vw2_78, vw1_4, fun h => absurd h (by decide), fun _ => vw2_76, fun _ => ⟨vw2_77, _, rfl, rfl⟩⟩
theorem vs99 : vstat 99 := ⟨by decide +kernel, rfl, fun h => absurd h (by decide), ⟨by decide +kernel, by decide +kernel⟩, vw2_146, vw1_4, fun h => absurd h (by decide), fun _ => vw2_144, fun _ => ⟨vw2_145, _, rfl, rfl⟩⟩
theorem vs100 : vstat 100 := ⟨by decide +kernel, rfl, fun h => absurd h (by decide), ⟨by decide +kernel, by decide +kernel⟩, vw2_45, vw1_4, fun h => absurd h (by decide), fun _ => vw2_43, fun _ => ⟨vw2_44, _, rfl, rfl⟩⟩
theorem vs101 : vstat 101 := ⟨by decide +kernel, rfl, fun h => absurd h (by decide), ⟨by decide +kernel, by decide +kernel⟩, vw2_64, vw1_4, fun h => absurd h (by decide), fun _ => vw2_62, fun _ => ⟨vw2_63, _, rfl, rfl⟩⟩
theorem vs102 : vstat 102 := ⟨by decide +kernel, rfl, fun h => absurd h (by decide), ⟨by decide +kernel, by decide +kernel⟩, vw2_91, vw1_4, fun h => absurd h (by decide), fun _ => vw2_89, fun _ => ⟨vw2_90, _, rfl, rfl⟩⟩
theorem vs103 : vstat 103 := ⟨by decide +kernel, rfl, fun h => absurd h (by decide), ⟨by decide +kernel, by decide +kernel⟩, vw3_164, vw1_4, fun h => absurd h (by decide), fun _ => vw3_162, fun _ => ⟨vw3_163, _, rfl, rfl⟩⟩
theorem vs104 : vstat 104 := ⟨by decide +kernel, rfl, fun h => absurd h (by decide), ⟨by decide +kernel, by decide +kernel⟩, vw2_103, vw1_4, fun h => absurd h (by decide), fun _ => vw2_101, fun _ => ⟨vw2_102, _, rfl, rfl⟩⟩
theorem vs105 : vstat 105 := ⟨by decide +kernel, rfl, fun h => absurd h (by decide), ⟨by decide +kernel, by decide +kernel⟩, vw2_107, vw1_4, fun h => absurd h (by decide), fun _ => vw2_106, fun _ => ⟨vp0, _, rfl, rfl⟩⟩
theorem vs106 : vstat 106 := ⟨by decide +kernel, rfl, fun h => absurd h (by decide), ⟨by decide +kernel, by decide +kernel⟩, vw2_116, vw1_4, fun h => absurd h (by decide), fun _ => vw2_114, fun _ => ⟨vw2_115, _, rfl, rfl⟩⟩
theorem vs107 : vstat 107 := ⟨by decide +kernel, rfl, fun h => absurd h (by decide), ⟨by decide +kernel, by decide +kernel⟩, vw2_124, vw1_4, fun h => absurd h (by decide), fun _ => vw2_122, fun _ => ⟨vw2_123, _, rfl, rfl⟩⟩
theorem vs108 : vstat 108 := ⟨by decide +kernel, rfl, fun h => absurd h (by decide), ⟨by decide +kernel, by decide +kernel⟩, vw2_138, vw1_4, fun h => absurd h (by decide), fun _ => vw2_136, fun _ => ⟨vw2_137, _, rfl, rfl⟩⟩
theorem vs109 : vstat 109 := ⟨by decide +kernel, rfl, fun _ => ⟨rfl, rfl⟩, ⟨by decide +kernel, by decide +kernel⟩, vw1_142, vw1_9, fun h => absurd h (by decide), fun _ => vw1_141, fun h => absurd h (by decide)⟩
theorem vs110 : vstat 110 := ⟨by decide +kernel, rfl, fun h => absurd h (by decide), ⟨by decide +kernel, by decide +kernel⟩, vw3_120, vw1_9, fun h => absurd h (by decide), fun _ => vw3_118, fun _ => ⟨vw3_119, _, rfl, rfl⟩⟩
theorem vs111 : vstat 111 := ⟨by decide +kernel, rfl, fun h => absurd h (by decide), ⟨by decide +kernel, by decide +kernel⟩, vw3_56, vw1_9, fun h => absurd h (by decide), fun _ => vw3_54, fun _ => ⟨vw3_55, _, rfl, rfl⟩⟩
theorem vs112 : vstat 112 := ⟨by decide +kernel, rfl, fun h => absurd h (by decide), ⟨by decide +kernel, by decide +kernel⟩, vw3_64, vw1_9, fun h => absurd h (by decide), fun _ => vw3_63, fun _ => ⟨vp9, _, rfl, rfl⟩⟩
theorem vs113 : vstat 113 := ⟨by decide +kernel, rfl, fun h => absurd h (by decide), ⟨by decide +kernel, by decide +kernel⟩, vw3_60, vw1_9, fun h => absurd h (by decide), fun _ => vw3_59, fun _ => ⟨vp8, _, rfl, rfl⟩⟩
theorem vs114 : vstat 114 := ⟨by decide +kernel, rfl, fun h => absurd h (by decide), ⟨by decide +kernel, by decide +kernel⟩, vw3_81, vw1_9, fun h => absurd h (by decide), fun _ => vw3_80, fun _ => ⟨vp12, _, rfl, rfl⟩⟩
theorem vs115 : vstat 115 := ⟨by decide +kernel, rfl, fun h => absurd h (by decide), ⟨by decide +kernel, by decide +kernel⟩, vw3_69, vw1_9, fun h => absurd h (by decide), fun _ => vw3_68, fun _ => ⟨vp10, _, rfl, rfl⟩⟩
theorem vs116 : vstat 116 := ⟨by decide +kernel, rfl, fun h => absurd h (by decide), ⟨by decide +kernel, by decide +kernel⟩, vw3_73, vw1_9, fun h => absurd h (by decide), fun _ => vw3_72, fun _ => ⟨vp11, _, rfl, rfl⟩⟩
theorem vs117 : vstat 117 := ⟨by decide +kernel, rfl, fun h => absurd h (by decide), ⟨by decide +kernel, by decide +kernel⟩, vw3_89, vw1_9, fun h => absurd h (by decide), fun _ => vw3_88, fun _ => ⟨vp13, _, rfl, rfl⟩⟩
theorem vs118 : vstat 118 := ⟨by decide +kernel, rfl, fun h => absurd h (by decide), ⟨by decide +kernel, by decide +kernel⟩, vw3_93, vw1_9, fun h => absurd h (by decide), fun _ => vw3_92, fun _ => ⟨vp14, _, rfl, rfl⟩⟩
theorem vs119 : vstat 119 := ⟨by decide +kernel, rfl, fun h => absurd h (by decide), ⟨by decide +kernel, by decide +kernel⟩, vw3_97, vw1_9, fun h => absurd h (by decide), fun _ => vw3_96, fun _ => ⟨vp15, _, rfl, rfl⟩⟩
theorem vs120 : vstat 120 := ⟨by decide +kernel, rfl, fun h => absurd h (by decide), ⟨by decide +kernel, by decide +kernel⟩, vw3_105, vw1_9, fun h => absurd h (by decide), fun _ => vw3_104, fun _ => ⟨vp16, _, rfl, rfl⟩⟩
theorem vs121 : vstat 121 := ⟨by decide +kernel, rfl, fun h => absurd h (by decide), ⟨by decide +kernel, by decide +kernel⟩, vw3_110, vw1_9, fun h => absurd h (by decide), fun _ => vw3_109, fun _ => ⟨vp17, _, rfl, rfl⟩⟩
theorem vs122 : vstat 122 := ⟨by decide +kernel, rfl, fun h => absurd h (by decide), ⟨by decide +kernel, by decide +kernel⟩, vw3_115, vw1_9, fun h => absurd h (by decide), fun _ => vw3_114, fun _ => ⟨vp18, _, rfl, rfl⟩⟩
theorem vs123 : vstat 123 := ⟨by decide +kernel, rfl, fun h => absurd h (by decide), ⟨by decide +kernel, by decide +kernel⟩, vw3_124, vw1_9, fun h => absurd h (by decide), fun _ => vw3_122, fun _ => ⟨vw3_123, _, rfl, rfl⟩⟩
theorem vs124 : vstat 124 := ⟨by decide +kernel, rfl, fun h => absurd h (by decide), ⟨by decide +kernel, by decide +kernel⟩, vw3_134, vw1_9, fun h => absurd h (by decide), fun _ => vw3_133, fun _ => ⟨vp19, _, rfl, rfl⟩⟩
theorem vs125 : vstat 125 := ⟨by decide +kernel, rfl, fun h => absurd h (by decide), ⟨by decide +kernel, by decide +kernel⟩, vw3_138, vw1_9, fun h => absurd h (by decide), fun _ => vw3_137, fun _ => ⟨vp20, _, rfl, rfl⟩⟩
theorem vs126 : vstat 126 := ⟨by decide +kernel, rfl, fun h => absurd h (by decide), ⟨by decide +kernel, by decide +kernel⟩, vw3_155, vw1_9, fun h => absurd h (by decide), fun _ => vw3_153, fun _ => ⟨vw3_154, _, rfl, rfl⟩⟩
theorem vs127 : vstat 127 := ⟨by decide +kernel, rfl, fun h => absurd h (by decide), ⟨by decide +kernel, by decide +kernel⟩, vw3_160, vw1_9, fun h => absurd h (by decide), fun _ => vw3_159, fun _ => ⟨vp21, _, rfl, rfl⟩⟩
theorem vs128 : vstat 128 := ⟨by decide +kernel, rfl, fun h => absurd h (by decide), ⟨by decide +kernel, by decide +kernel⟩, vw3_169, vw1_9, fun h => absurd h (by decide), fun _ => vw3_167, fun _ => ⟨vw3_168, _, rfl, rfl⟩⟩
theorem vs129 : vstat 129 := ⟨by decide +kernel, rfl, fun h => absurd h (by decide), ⟨by decide +kernel, by decide +kernel⟩, vw3_173, vw1_9, fun h => absurd h (by decide), fun _ => vw3_172, fun _ => ⟨vp22, _, rfl, rfl⟩⟩
theorem vs130 : vstat 130 := ⟨by decide +kernel, rfl, fun h => absurd h (by decide), ⟨by decide +kernel, by decide +kernel⟩, vw3_177, vw1_9, fun h => absurd h (by decide), fun _ => vw3_175, fun _ => ⟨vw3_176, _, rfl, rfl⟩⟩
theorem vs131 : vstat 131 := ⟨by decide +kernel, rfl, fun _ => ⟨rfl, rfl⟩, ⟨by decide +kernel, by decide +kernel⟩, vw1_109, vw1_8, fun h => absurd h (by decide), fun _ => vw1_108, fun h => absurd h (by decide)⟩
theorem vs132 : vstat 132 := ⟨by decide +kernel, rfl, fun h => absurd h (by decide), ⟨by decide +kernel, by decide +kernel⟩, vw2_213, vw1_8, fun h => absurd h (by decide), fun _ => vw2_211, fun _ => ⟨vw2_212, _, rfl, rfl⟩⟩
theorem vs133 : vstat 133 := ⟨by decide +kernel, rfl, fun h => absurd h (by decide), ⟨by decide +kernel, by decide +kernel⟩, vw2_217, vw1_8, fun h => absurd h (by decide), fun _ => vw2_216, fun _ => ⟨vp4, _, rfl, rfl⟩⟩
theorem vs134 : vstat 134 := ⟨by decide +kernel, rfl, fun h => absurd h (by decide), ⟨by decide +kernel, by decide +kernel⟩, vw2_233, vw1_8, fun h => absurd h (by decide), fun _ => vw2_232, fun _ => ⟨vp5, _, rfl, rfl⟩⟩
theorem vs135 : vstat 135 := ⟨by decide +kernel, rfl, fun h => absurd h (by decide), ⟨by decide +kernel, by decide +kernel⟩, vw3_19, vw1_8, fun h => absurd h (by decide), fun _ => vw3_18, fun _ => ⟨vp6, _, rfl, rfl⟩⟩
theorem vs136 : vstat 136 := ⟨by decide +kernel, rfl, fun h => absurd h (by decide), ⟨by decide +kernel, by decide +kernel⟩, vw3_46, vw1_8, fun h => absurd h (by decide), fun _ => vw3_45, fun _ => ⟨vp7, _, rfl, rfl⟩⟩
theorem vs137 : vstat 137 := ⟨by decide +kernel, rfl, fun h => absurd h (by decide), ⟨by decide +kernel, by decide +kernel⟩, vw2_238, vw1_8, fun _ => vw2_237, fun h => absurd rfl h, fun h => absurd h (by decide)⟩
theorem vs138 : vstat 138 := ⟨by decide +kernel, rfl, fun h => absurd h (by decide), ⟨by decide +kernel, by decide +kernel⟩, vw3_101, vw1_13, fun _ => vw3_100, fun h => absurd rfl h, fun h => absurd h (by decide)⟩
theorem vs139 : vstat 139 := ⟨by decide +kernel, rfl, fun h => absurd h (by decide), ⟨by decide +kernel, by decide +kernel⟩, vw3_1, vw1_13, fun _ => vw3_0, fun h => absurd rfl h, fun h => absurd h (by decide)⟩
theorem vs140 : vstat 140 := ⟨by decide +kernel, rfl, fun h => absurd h (by decide), ⟨by decide +kernel, by decide +kernel⟩, vw3_14, vw1_13, fun _ => vw3_13, fun h => absurd rfl h, fun h => absurd h (by decide)⟩
theorem vs141 : vstat 141 := ⟨by decide +kernel, rfl, fun _ => ⟨rfl, rfl⟩, ⟨by decide +kernel, by decide +kernel⟩, vw1_28, vw1_2, fun h => absurd h (by decide), fun _ => vw1_27, fun h => absurd h (by decide)⟩
theorem vs142 : vstat 142 := ⟨by decide +kernel, rfl, fun h => absurd h (by decide), ⟨by decide +kernel, by decide +kernel⟩, vw2_29, vw1_2, fun h => absurd h (by decide), fun _ => vw2_27, fun _ => ⟨vw2_28, _, rfl, rfl⟩⟩
theorem vs143 : vstat 143 := ⟨by decide +kernel, rfl, fun h => absurd h (by decide), ⟨by decide +kernel, by decide +kernel⟩, vw2_1, vw1_2, fun h => absurd h (by decide), fun _ => vw1_239, fun _ => ⟨vw2_0, _, rfl, rfl⟩⟩
theorem vs144 : vstat 144 := ⟨by decide +kernel, rfl, fun h => absurd h (by decide), ⟨by decide +kernel, by decide +kernel⟩, vw2_37, vw1_2, fun h => absurd h (by decide), fun _ => vw2_35, fun _ => ⟨vw2_36, _, rfl, rfl⟩⟩
theorem vs145 : vstat 145 := ⟨by decide +kernel, rfl, fun h => absurd h (by decide), ⟨by decide +kernel, by decide +kernel⟩, vw2_128, vw1_2, fun h => absurd h (by decide), fun _ => vw2_126, fun _ => ⟨vw2_127, _, rfl, rfl⟩⟩
theorem vs146 : vstat 146 := ⟨by decide +kernel, rfl, fun h => absurd h (by decide), ⟨by decide +kernel, by decide +kernel⟩, vw2_49, vw1_2, fun h => absurd h (by decide), fun _ => vw2_47, fun _ => ⟨vw2_48, _, rfl, rfl⟩⟩
theorem vs147 : vstat 147 := ⟨by decide +kernel, rfl, fun h => absurd h (by decide), ⟨by decide +kernel, by decide +kernel⟩, vw2_5, vw1_2, fun h => absurd h (by decide), fun _ => vw2_3, fun _ => ⟨vw2_4, _, rfl, rfl⟩⟩
theorem vs148 : vstat 148 := ⟨by decide +kernel, rfl, fun h => absurd h (by decide), ⟨by decide +kernel, by decide +kernel⟩, vw3_41, vw1_2, fun h => absurd h (by decide), fun _ => vw3_39, fun _ => ⟨vw3_40, _, rfl, rfl⟩⟩
theorem vs149 : vstat 149 := ⟨by decide +kernel, rfl, fun h => absurd h (by decide), ⟨by decide +kernel, by decide +kernel⟩, vw2_57, vw1_2, fun h => absurd h (by decide), fun _ => vw2_55, fun _ => ⟨vw2_56, _, rfl, rfl⟩⟩
theorem vs150 : vstat 150 := ⟨by decide +kernel, rfl, fun h => absurd h (by decide), ⟨by decide +kernel, by decide +kernel⟩, vw2_53, vw1_2, fun h => absurd h (by decide), fun _ => vw2_51, fun _ => ⟨vw2_52, _, rfl, rfl⟩⟩
theorem vs151 : vstat 151 := ⟨by decide +kernel, rfl, fun h => absurd h (by decide), ⟨by decide +kernel, by decide +kernel⟩, vw2_13, vw1_2, fun h => absurd h (by decide), fun _ => vw2_11, fun _ => ⟨vw2_12, _, rfl, rfl⟩⟩
theorem vs152 : vstat 152 := ⟨by decide +kernel, rfl, fun h => absurd h (by decide), ⟨by decide +kernel, by decide +kernel⟩, vw2_21, vw1_2, fun h => absurd h (by decide), fun _ => vw2_19, fun _ => ⟨vw2_20, _, rfl, rfl⟩⟩
theorem vs153 : vstat 153 := ⟨by decide +kernel, rfl, fun h => absurd h (by decide), ⟨by decide +kernel, by decide +kernel⟩, vw2_95, vw1_2, fun h => absurd h (by decide), fun _ => vw2_93, fun _ => ⟨vw2_94, _, rfl, rfl⟩⟩
theorem vs154 : vstat 154 := ⟨by decide +kernel, rfl, fun h => absurd h (by decide), ⟨by decide +kernel, by decide +kernel⟩, vw2_73, vw1_2, fun h => absurd h (by decide), fun _ => vw2_71, fun _ => ⟨vw2_72, _, rfl, rfl⟩⟩
theorem vs155 : vstat 155 := ⟨by decide +kernel, rfl, fun h => absurd h (by decide), ⟨by decide +kernel, by decide +kernel⟩, vw3_6, vw1_2, fun h => absurd h (by decide), fun _ => vw3_4, fun _ => ⟨vw3_5, _, rfl, rfl⟩⟩
theorem vs156 : vstat 156 := ⟨by decide +kernel, rfl, fun h => absurd h (by decide), ⟨by decide +kernel, by decide +kernel⟩, vw3_32, vw1_2, fun h => absurd h (by decide), fun _ => vw3_30, fun _ => ⟨vw3_31, _, rfl, rfl⟩⟩
theorem vs157 : vstat 157 := ⟨by decide +kernel, rfl, fun _ => ⟨rfl, rfl⟩, ⟨by decide +kernel, by decide +kernel⟩, vw1_42, vw1_3, fun h => absurd h (by decide), fun _ => vw1_41, fun h => absurd h (by decide)⟩
theorem vs158 : vstat 158 := ⟨by decide +kernel, rfl, fun h => absurd h (by decide), ⟨by decide +kernel, by decide +kernel⟩, vw2_221, vw1_3, fun h => absurd h (by decide), fun _ => vw2_219, fun _ => ⟨vw2_220, _, rfl, rfl⟩⟩
theorem vs159 : vstat 159 := ⟨by decide +kernel, rfl, fun h => absurd h (by decide), ⟨by decide +kernel, by decide +kernel⟩, vw2_99, vw1_3, fun h => absurd h (by decide), fun _ => vw2_97, fun _ => ⟨vw2_98, _, rfl, rfl⟩⟩
theorem vs160 : vstat 160 := ⟨by decide +kernel, rfl, fun h => absurd h (by decide), ⟨by decide +kernel, by decide +kernel⟩, vw2_87, vw1_3, fun h => absurd h (by decide), fun _ => vw2_85, fun _ => ⟨vw2_86, _, rfl, rfl⟩⟩
theorem vs161 : vstat 161 := ⟨by decide +kernel, rfl, fun h => absurd h (by decide), ⟨by decide +kernel, by decide +kernel⟩, vw3_188, vw1_3, fun h => absurd h (by decide), fun _ => vw3_186, fun _ => ⟨vw3_187, _, rfl, rfl⟩⟩
theorem vs162 : vstat 162 := ⟨by decide +kernel, rfl, fun h => absurd h (by decide), ⟨by decide +kernel, by decide +kernel⟩, vw2_82, vw1_3, fun h => absurd h (by decide), fun _ => vw2_80, fun _ => ⟨vw2_81, _, rfl, rfl⟩⟩
theorem vs163 : vstat 163 := ⟨by decide +kernel, rfl, fun h => absurd h (by decide), ⟨by decide +kernel, by decide +kernel⟩, vw2_142, vw1_3, fun h => absurd h (by decide), fun _ => vw2_140, fun _ => ⟨vw2_141, _, rfl, rfl⟩⟩
theorem vs164 : vstat 164 := ⟨by decide +kernel, rfl, fun h => absurd h (by decide), ⟨by decide +kernel, by decide +kernel⟩, vw2_120, vw1_3, fun h => absurd h (by decide), fun _ => vw2_118, fun _ => ⟨vw2_119, _, rfl, rfl⟩⟩
theorem vs165 : vstat 165 := ⟨by decide +kernel, rfl, fun h => absurd h (by decide), ⟨by decide +kernel, by decide +kernel⟩, vw2_112, vw1_3, fun h => absurd h (by decide), fun _ => vw2_110, fun _ => ⟨vw2_111, _, rfl, rfl⟩⟩
theorem vs167 : vstat 167 := ⟨by decide +kernel, rfl, fun h => absurd h (by decide), ⟨by decide +kernel, by decide +kernel⟩, vw1_74, vw1_5, fun _ => vw1_73, fun h => absurd rfl h, fun h => absurd h (by decide)⟩
def vids : List Nat := [0, 1, 2, 3, 4, 5, 6, 7, 8, 9, 10, 11, 12, 13, 14, 15, 16, 17, 18, 19, 20, 21, 22, 23, 24, 25, 26, 27, 28, 29, 30, 31, 32, 33, 34, 35, 36, 37, 38, 39, 40, 41, 42, 43, 44, 45, 46, 47, 48, 49, 50, 51, 52, 53, 54, 55, 56, 57, 58, 59, 60, 61, 62, 63, 64, 65, 66, 67, 68, 69, 70, 71, 72, 73, 74, 75, 76, 77, 78, 79, 80, 81, 82, 83, 84, 85, 86, 87, 88, 89, 90, 91, 92, 93, 94, 95, 96, 97, 98, 99, 100, 101, 102, 103, 104, 105, 106, 107, 108, 109, 110, 111, 112, 113, 114, 115, 116, 117, 118, 119, 120, 121, 122, 123, 124, 125, 126, 127, 128, 129, 130, 131, 132, 133, 134, 135, 136, 137, 138, 139, 140, 141, 142, 143, 144, 145, 146, 147, 148, 149, 150, 151, 152, 153, 154, 155, 156, 157, 158, 159, 160, 161, 162, 163, 164, 165, 167]
set_option maxRecDepth 100000 in
theorem vids_ok : ∀ e ∈ vids, vstat e := List.forall_mem_cons.mpr ⟨vs0, List.forall_mem_cons.mpr ⟨vs1, List.forall_mem_cons.mpr ⟨vs2, List.forall_mem_cons.mpr ⟨vs3, List.forall_mem_cons.mpr ⟨vs4, List.forall_mem_cons.mpr ⟨vs5, List.forall_mem_cons.mpr ⟨vs6, List.forall_mem_cons.mpr ⟨vs7, List.forall_mem_cons.mpr ⟨vs8, List.forall_mem_cons.mpr ⟨vs9, List.forall_mem_cons.mpr ⟨vs10, List.forall_mem_cons.mpr ⟨vs11, List.forall_mem_cons.mpr ⟨vs12, List.forall_mem_cons.mpr ⟨vs13, List.forall_mem_cons.mpr ⟨vs14, List.forall_mem_cons.mpr ⟨vs15, List.forall_mem_cons.mpr ⟨vs16, List.forall_mem_cons.mpr ⟨vs17, List.forall_mem_cons.mpr ⟨vs18, List.forall_mem_cons.mpr ⟨vs19, List.forall_mem_cons.mpr ⟨vs20, List.forall_mem_cons.mpr ⟨vs21, List.forall_mem_cons.mpr ⟨vs22, List.forall_mem_cons.mpr ⟨vs23, List.forall_mem_cons.mpr ⟨vs24, List.forall_mem_cons.mpr ⟨vs25, List.forall_mem_cons.mpr ⟨vs26, List.forall_mem_cons.mpr ⟨vs27, List.forall_mem_cons.mpr ⟨vs28, List.forall_mem_cons.mpr ⟨vs29, List.forall_mem_cons.mpr ⟨vs30, List.forall_mem_cons.mpr ⟨vs31, List.forall_mem_cons.mpr ⟨vs32, List.forall_mem_cons.mpr ⟨vs33, List.forall_mem_cons.mpr ⟨vs34, List.forall_mem_cons.mpr ⟨vs35, List.forall_mem_cons.mpr ⟨vs36, List.forall_mem_cons.mpr ⟨vs37, List.forall_mem_cons.mpr ⟨vs38, List.forall_mem_cons.mpr ⟨vs39, List.forall_mem_cons.mpr ⟨vs40, List.forall_mem_cons.mpr ⟨vs41, List.forall_mem_cons.mpr ⟨vs42, List.forall_mem_cons.mpr ⟨vs43, List.forall_mem_cons.mpr ⟨vs44, List.forall_mem_cons.mpr ⟨vs45, List.forall_mem_cons.mpr ⟨vs46, List.forall_mem_cons.mpr ⟨vs47, List.forall_mem_cons.mpr ⟨vs48, List.forall_mem_cons.mpr ⟨vs49, List.forall_mem_cons.mpr ⟨vs50, List.forall_mem_cons.mpr ⟨vs51, List.forall_mem_cons.mpr ⟨vs52, List.forall_mem_cons.mpr ⟨vs53, List.forall_mem_cons.mpr ⟨vs54, List.forall_mem_cons.mpr ⟨vs55, List.forall_mem_cons.mpr ⟨vs56, List.forall_mem_cons.mpr ⟨vs57, List.forall_mem_cons.mpr ⟨vs58, List.forall_mem_cons.mpr ⟨vs59, List.forall_mem_cons.mpr ⟨vs60, List.forall_mem_cons.mpr ⟨vs61, List.forall_mem_cons.mpr ⟨vs62, List.forall_mem_cons.mpr ⟨vs63, List.forall_mem_cons.mpr ⟨vs64, List.forall_mem_cons.mpr ⟨vs65, List.forall_mem_cons.mpr ⟨vs66, List.forall_mem_cons.mpr ⟨vs67, List.forall_mem_cons.mpr ⟨vs68, List.forall_mem_cons.mpr ⟨vs69, List.forall_mem_cons.mpr ⟨vs70, List.forall_mem_cons.mpr ⟨vs71, List.forall_mem_cons.mpr ⟨vs72, List.forall_mem_cons.mpr ⟨vs73, List.forall_mem_cons.mpr ⟨vs74, List.forall_mem_cons.mpr ⟨vs75, List.forall_mem_cons.mpr ⟨vs76, List.forall_mem_cons.mpr ⟨vs77, List.forall_mem_cons.mpr ⟨vs78, List.forall_mem_cons.mpr ⟨vs79, List.forall_mem_cons.mpr ⟨vs80, List.forall_mem_cons.mpr ⟨vs81, List.forall_mem_cons.mpr ⟨vs82, List.forall_mem_cons.mpr ⟨vs83, List.forall_mem_cons.mpr ⟨vs84, List.forall_mem_cons.mpr ⟨vs85, List.forall_mem_cons.mpr ⟨vs86, List.forall_mem_cons.mpr ⟨vs87, List.forall_mem_cons.mpr ⟨vs88, List.forall_mem_cons.mpr ⟨vs89, List.forall_mem_cons.mpr ⟨vs90, List.forall_mem_cons.mpr ⟨vs91, List.forall_mem_cons.mpr ⟨vs92, List.forall_mem_cons.mpr ⟨vs93, List.forall_mem_cons.mpr ⟨vs94, List.forall_mem_cons.mpr ⟨vs95, List.forall_mem_cons.mpr ⟨vs96, List.forall_mem_cons.mpr ⟨vs97, List.forall_mem_cons.mpr ⟨vs98, List.forall_mem_cons.mpr ⟨vs99, List.forall_mem_cons.mpr ⟨vs100, List.forall_mem_cons.mpr ⟨vs101, List.forall_mem_cons.mpr ⟨vs102, List.forall_mem_cons.mpr ⟨vs103, List.forall_mem_cons.mpr ⟨vs104, List.forall_mem_cons.mpr ⟨vs105, List.forall_mem_cons.mpr ⟨vs106, List.forall_mem_cons.mpr ⟨vs107, List.forall_mem_cons.mpr ⟨vs108, List.forall_mem_cons.mpr ⟨vs109, List.forall_mem_cons.mpr ⟨vs110, List.forall_mem_cons.mpr ⟨vs111, List.forall_mem_cons.mpr ⟨vs112, List.forall_mem_cons.mpr ⟨vs113, List.forall_mem_cons.mpr ⟨vs114, List.forall_mem_cons.mpr ⟨vs115, List.forall_mem_cons.mpr ⟨vs116, List.forall_mem_cons.mpr ⟨vs117, List.forall_mem_cons.mpr ⟨vs118, List.forall_mem_cons.mpr ⟨vs119, List.forall_mem_cons.mpr ⟨vs120, List.forall_mem_cons.mpr ⟨vs121, List.forall_mem_cons.mpr ⟨vs122, List.forall_mem_cons.mpr ⟨vs123, List.forall_mem_cons.mpr ⟨vs124, List.forall_mem_cons.mpr ⟨vs125, List.forall_mem_cons.mpr ⟨vs126, List.forall_mem_cons.mpr ⟨vs127, List.forall_mem_cons.mpr ⟨vs128, List.forall_mem_cons.mpr ⟨vs129, List.forall_mem_cons.mpr ⟨vs130, List.forall_mem_cons.mpr ⟨vs131, List.forall_mem_cons.mpr ⟨vs132, List.forall_mem_cons.mpr ⟨vs133, List.forall_mem_cons.mpr ⟨vs134, List.forall_mem_cons.mpr ⟨vs135, List.forall_mem_cons.mpr ⟨vs136, List.forall_mem_cons.mpr ⟨vs137, List.forall_mem_cons.mpr ⟨vs138, List.forall_mem_cons.mpr ⟨vs139, List.forall_mem_cons.mpr ⟨vs140, List.forall_mem_cons.mpr ⟨vs141, List.forall_mem_cons.mpr ⟨vs142, List.forall_mem_cons.mpr ⟨vs143, List.forall_mem_cons.mpr ⟨vs144, List.forall_mem_cons.mpr ⟨vs145, List.forall_mem_cons.mpr ⟨vs146, List.forall_mem_cons.mpr ⟨vs147, List.forall_mem_cons.mpr ⟨vs148, List.forall_mem_cons.mpr ⟨vs149, List.forall_mem_cons.mpr ⟨vs150, List.forall_mem_cons.mpr ⟨vs151, List.forall_mem_cons.mpr ⟨vs152, List.forall_mem_cons.mpr ⟨vs153, List.forall_mem_cons.mpr ⟨vs154, List.forall_mem_cons.mpr ⟨vs155, List.forall_mem_cons.mpr ⟨vs156, List.forall_mem_cons.mpr ⟨vs157, List.forall_mem_cons.mpr ⟨vs158, List.forall_mem_cons.mpr ⟨vs159, List.forall_mem_cons.mpr ⟨vs160, List.forall_mem_cons.mpr ⟨vs161, List.forall_mem_cons.mpr ⟨vs162, List.forall_mem_cons.mpr ⟨vs163, List.forall_mem_cons.mpr ⟨vs164, List.forall_mem_cons.mpr ⟨vs165, List.forall_mem_cons.mpr ⟨vs167, fun _ h => absurd h List.not_mem_nil⟩⟩⟩⟩⟩⟩⟩⟩⟩⟩⟩⟩⟩⟩⟩⟩⟩⟩⟩⟩⟩⟩⟩⟩⟩⟩⟩⟩⟩⟩⟩⟩⟩⟩⟩⟩⟩⟩⟩⟩⟩⟩⟩⟩⟩⟩⟩⟩⟩⟩⟩⟩⟩⟩⟩⟩⟩⟩⟩⟩⟩⟩⟩⟩⟩⟩⟩⟩⟩⟩⟩⟩⟩⟩⟩⟩⟩⟩⟩⟩⟩⟩⟩⟩⟩⟩⟩⟩⟩⟩⟩⟩⟩⟩⟩⟩⟩⟩⟩⟩⟩⟩⟩⟩⟩⟩⟩⟩⟩⟩⟩⟩⟩⟩⟩⟩⟩⟩⟩⟩⟩⟩⟩⟩⟩⟩⟩⟩⟩⟩⟩⟩⟩⟩⟩⟩⟩⟩⟩⟩⟩⟩⟩⟩⟩⟩⟩⟩⟩⟩⟩⟩⟩⟩⟩⟩⟩⟩⟩⟩⟩⟩⟩⟩⟩⟩⟩
theorem vlay0 : ∀ w ∈ u_ws "PackStore" vT_0 11, w ∈ vWS := List.forall_mem_cons.mpr ⟨vw1_211, List.forall_mem_cons.mpr ⟨vw1_213, List.forall_mem_cons.mpr ⟨vw1_215, List.forall_mem_cons.mpr ⟨vw1_217, List.forall_mem_cons.mpr ⟨vw1_219, List.forall_mem_cons.mpr ⟨vw1_221, List.forall_mem_cons.mpr ⟨vw1_223, List.forall_mem_cons.mpr ⟨vw1_225, List.forall_mem_cons.mpr ⟨vw1_227, List.forall_mem_cons.mpr ⟨vw1_229, List.forall_mem_cons.mpr ⟨vw1_231, fun _ h => absurd h List.not_mem_nil⟩⟩⟩⟩⟩⟩⟩⟩⟩⟩⟩
theorem vtyo0 : ∀ k, k < 11 → parseFieldDescriptor (vT_0 k).2.2.1 = some (vt_0 k) := by decide +kernel
theorem vnmo0 : ∀ a, a < 11 → ∀ b, b < 11 → a ≠ b → (vT_0 a).2.1 ≠ (vT_0 b).2.1 := by decide +kernel
theorem vdfo0 : ∀ k, k < 11 → defaultValue (vt_0 k) = vp_V (vdef 0) k := by decide +kernel
theorem vlay1 : ∀ w ∈ u_ws "PackStore$Row" vT_1 2, w ∈ vWS := List.forall_mem_cons.mpr ⟨vw1_32, List.forall_mem_cons.mpr ⟨vw1_34, fun _ h => absurd h List.not_mem_nil⟩⟩
theorem vtyo1 : ∀ k, k < 2 → parseFieldDescriptor (vT_1 k).2.2.1 = some (vt_1 k) := by decide +kernel
theorem vnmo1 : ∀ a, a < 2 → ∀ b, b < 2 → a ≠ b → (vT_1 a).2.1 ≠ (vT_1 b).2.1 := by decide +kernel
theorem vdfo1 : ∀ k, k < 2 → defaultValue (vt_1 k) = vp_V (vdef 1) k := by decide +kernel
theorem vlay2 : ∀ w ∈ u_ws "PackStore$IdList" vT_2 2, w ∈ vWS := List.forall_mem_cons.mpr ⟨vw1_83, List.forall_mem_cons.mpr ⟨vw1_85, fun _ h => absurd h List.not_mem_nil⟩⟩
theorem vtyo2 : ∀ k, k < 2 → parseFieldDescriptor (vT_2 k).2.2.1 = some (vt_2 k) := by decide +kernel
theorem vnmo2 : ∀ a, a < 2 → ∀ b, b < 2 → a ≠ b → (vT_2 a).2.1 ≠ (vT_2 b).2.1 := by decide +kernel
theorem vdfo2 : ∀ k, k < 2 → defaultValue (vt_2 k) = vp_V (vdef 2) k := by decide +kernel
theorem vlay3 : ∀ w ∈ u_ws "PackStore$Item" vT_3 3, w ∈ vWS := List.forall_mem_cons.mpr ⟨vw1_56, List.forall_mem_cons.mpr ⟨vw1_58, List.forall_mem_cons.mpr ⟨vw1_60, fun _ h => absurd h List.not_mem_nil⟩⟩⟩
theorem vtyo3 : ∀ k, k < 3 → parseFieldDescriptor (vT_3 k).2.2.1 = some (vt_3 k) := by decide +kernel
theorem vnmo3 : ∀ a, a < 3 → ∀ b, b < 3 → a ≠ b → (vT_3 a).2.1 ≠ (vT_3 b).2.1 := by decide +kernel
theorem vdfo3 : ∀ k, k < 3 → defaultValue (vt_3 k) = vp_V (vdef 3) k := by decide +kernel
theorem vlay4 : ∀ w ∈ u_ws "PackStore$Shelf" vT_4 2, w ∈ vWS := List.forall_mem_cons.mpr ⟨vw1_65, List.forall_mem_cons.mpr ⟨vw1_67, fun _ h => absurd h List.not_mem_nil⟩⟩
theorem vtyo4 : ∀ k, k < 2 → parseFieldDescriptor (vT_4 k).2.2.1 = some (vt_4 k) := by decide +kernel
theorem vnmo4 : ∀ a, a < 2 → ∀ b, b < 2 → a ≠ b → (vT_4 a).2.1 ≠ (vT_4 b).2.1 := by decide +kernel
theorem vdfo4 : ∀ k, k < 2 → defaultValue (vt_4 k) = vp_V (vdef 4) k := by decide +kernel
theorem vlay5 : ∀ w ∈ u_ws "PackStore$Closure" vT_5 3, w ∈ vWS := List.forall_mem_cons.mpr ⟨vw1_97, List.forall_mem_cons.mpr ⟨vw1_99, List.forall_mem_cons.mpr ⟨vw1_101, fun _ h => absurd h List.not_mem_nil⟩⟩⟩
theorem vtyo5 : ∀ k, k < 3 → parseFieldDescriptor (vT_5 k).2.2.1 = some (vt_5 k) := by decide +kernel
theorem vnmo5 : ∀ a, a < 3 → ∀ b, b < 3 → a ≠ b → (vT_5 a).2.1 ≠ (vT_5 b).2.1 := by decide +kernel
theorem vdfo5 : ∀ k, k < 3 → defaultValue (vt_5 k) = vp_V (vdef 5) k := by decide +kernel
theorem vlay6 : ∀ w ∈ u_ws "PackStore$PackWriter" vT_6 8, w ∈ vWS := List.forall_mem_cons.mpr ⟨vw1_121, List.forall_mem_cons.mpr ⟨vw1_123, List.forall_mem_cons.mpr ⟨vw1_125, List.forall_mem_cons.mpr ⟨vw1_127, List.forall_mem_cons.mpr ⟨vw1_129, List.forall_mem_cons.mpr ⟨vw1_131, List.forall_mem_cons.mpr ⟨vw1_133, List.forall_mem_cons.mpr ⟨vw1_135, fun _ h => absurd h List.not_mem_nil⟩⟩⟩⟩⟩⟩⟩⟩
theorem vtyo6 : ∀ k, k < 8 → parseFieldDescriptor (vT_6 k).2.2.1 = some (vt_6 k) := by decide +kernel
theorem vnmo6 : ∀ a, a < 8 → ∀ b, b < 8 → a ≠ b → (vT_6 a).2.1 ≠ (vT_6 b).2.1 := by decide +kernel
theorem vdfo6 : ∀ k, k < 8 → defaultValue (vt_6 k) = vp_V (vdef 6) k := by decide +kernel
theorem vlay7 : ∀ w ∈ u_ws "PackStore$Entry" vT_7 7, w ∈ vWS := List.forall_mem_cons.mpr ⟨vw1_166, List.forall_mem_cons.mpr ⟨vw1_168, List.forall_mem_cons.mpr ⟨vw1_170, List.forall_mem_cons.mpr ⟨vw1_172, List.forall_mem_cons.mpr ⟨vw1_174, List.forall_mem_cons.mpr ⟨vw1_176, List.forall_mem_cons.mpr ⟨vw1_178, fun _ h => absurd h List.not_mem_nil⟩⟩⟩⟩⟩⟩⟩
theorem vtyo7 : ∀ k, k < 7 → parseFieldDescriptor (vT_7 k).2.2.1 = some (vt_7 k) := by decide +kernel
theorem vnmo7 : ∀ a, a < 7 → ∀ b, b < 7 → a ≠ b → (vT_7 a).2.1 ≠ (vT_7 b).2.1 := by decide +kernel
theorem vdfo7 : ∀ k, k < 7 → defaultValue (vt_7 k) = vp_V (vdef 7) k := by decide +kernel
theorem vlay8 : ∀ w ∈ u_ws "PackStore$PackReader" vT_8 6, w ∈ vWS := List.forall_mem_cons.mpr ⟨vw1_187, List.forall_mem_cons.mpr ⟨vw1_189, List.forall_mem_cons.mpr ⟨vw1_191, List.forall_mem_cons.mpr ⟨vw1_193, List.forall_mem_cons.mpr ⟨vw1_195, List.forall_mem_cons.mpr ⟨vw1_197, fun _ h => absurd h List.not_mem_nil⟩⟩⟩⟩⟩⟩
theorem vtyo8 : ∀ k, k < 6 → parseFieldDescriptor (vT_8 k).2.2.1 = some (vt_8 k) := by decide +kernel
theorem vnmo8 : ∀ a, a < 6 → ∀ b, b < 6 → a ≠ b → (vT_8 a).2.1 ≠ (vT_8 b).2.1 := by decide +kernel
theorem vdfo8 : ∀ k, k < 6 → defaultValue (vt_8 k) = vp_V (vdef 8) k := by decide +kernel
theorem vlay9 : ∀ w ∈ u_ws "PackStoreModel" vT_9 25, w ∈ vWS := List.forall_mem_cons.mpr ⟨vw4_13, List.forall_mem_cons.mpr ⟨vw4_15, List.forall_mem_cons.mpr ⟨vw4_17, List.forall_mem_cons.mpr ⟨vw4_19, List.forall_mem_cons.mpr ⟨vw4_21, List.forall_mem_cons.mpr ⟨vw4_23, List.forall_mem_cons.mpr ⟨vw4_25, List.forall_mem_cons.mpr ⟨vw4_27, List.forall_mem_cons.mpr ⟨vw4_29, List.forall_mem_cons.mpr ⟨vw4_31, List.forall_mem_cons.mpr ⟨vw4_33, List.forall_mem_cons.mpr ⟨vw4_35, List.forall_mem_cons.mpr ⟨vw4_37, List.forall_mem_cons.mpr ⟨vw4_39, List.forall_mem_cons.mpr ⟨vw4_41, List.forall_mem_cons.mpr ⟨vw4_43, List.forall_mem_cons.mpr ⟨vw4_45, List.forall_mem_cons.mpr ⟨vw4_47, List.forall_mem_cons.mpr ⟨vw4_49, List.forall_mem_cons.mpr ⟨vw4_51, List.forall_mem_cons.mpr ⟨vw4_53, List.forall_mem_cons.mpr ⟨vw4_55, List.forall_mem_cons.mpr ⟨vw4_57, List.forall_mem_cons.mpr ⟨vw4_59, List.forall_mem_cons.mpr ⟨vw4_61, fun _ h => absurd h List.not_mem_nil⟩⟩⟩⟩⟩⟩⟩⟩⟩⟩⟩⟩⟩⟩⟩⟩⟩⟩⟩⟩⟩⟩⟩⟩⟩
theorem vtyo9 : ∀ k, k < 25 → parseFieldDescriptor (vT_9 k).2.2.1 = some (vt_9 k) := by decide +kernel
theorem vnmo9 : ∀ a, a < 25 → ∀ b, b < 25 → a ≠ b → (vT_9 a).2.1 ≠ (vT_9 b).2.1 := by decide +kernel
theorem vdfo9 : ∀ k, k < 25 → defaultValue (vt_9 k) = vp_V (vdef 9) k := by decide +kernel
theorem vcl_lt {t : Nat} {q : vw_C} (hq : vcl[t]? = some q) : t < 50 := by
  have ht : t < 10 := (List.getElem?_eq_some_iff.mp hq).1
  omega
theorem vcl_in {t : Nat} {q : vw_C} (hq : vcl[t]? = some q) : ∀ w ∈ u_ws q.1 q.2.1 q.2.2, w ∈ vWS := by
  have ht : t < 10 := (List.getElem?_eq_some_iff.mp hq).1
  match t, ht, hq with
  | 0, _, hq => cases hq; exact vlay0
  | 1, _, hq => cases hq; exact vlay1
  | 2, _, hq => cases hq; exact vlay2
  | 3, _, hq => cases hq; exact vlay3
  | 4, _, hq => cases hq; exact vlay4
  | 5, _, hq => cases hq; exact vlay5
  | 6, _, hq => cases hq; exact vlay6
  | 7, _, hq => cases hq; exact vlay7
  | 8, _, hq => cases hq; exact vlay8
  | 9, _, hq => cases hq; exact vlay9
theorem vcl_ty {t : Nat} {q : vw_C} (hq : vcl[t]? = some q) : ∀ k, k < q.2.2 → parseFieldDescriptor (q.2.1 k).2.2.1 = some (vty t k) := by
  have ht : t < 10 := (List.getElem?_eq_some_iff.mp hq).1
  match t, ht, hq with
  | 0, _, hq => cases hq; exact vtyo0
  | 1, _, hq => cases hq; exact vtyo1
  | 2, _, hq => cases hq; exact vtyo2
  | 3, _, hq => cases hq; exact vtyo3
  | 4, _, hq => cases hq; exact vtyo4
  | 5, _, hq => cases hq; exact vtyo5
  | 6, _, hq => cases hq; exact vtyo6
  | 7, _, hq => cases hq; exact vtyo7
  | 8, _, hq => cases hq; exact vtyo8
  | 9, _, hq => cases hq; exact vtyo9
theorem vcl_nm {t : Nat} {q : vw_C} (hq : vcl[t]? = some q) : ∀ a, a < q.2.2 → ∀ b, b < q.2.2 → a ≠ b → (q.2.1 a).2.1 ≠ (q.2.1 b).2.1 := by
  have ht : t < 10 := (List.getElem?_eq_some_iff.mp hq).1
  match t, ht, hq with
  | 0, _, hq => cases hq; exact vnmo0
  | 1, _, hq => cases hq; exact vnmo1
  | 2, _, hq => cases hq; exact vnmo2
  | 3, _, hq => cases hq; exact vnmo3
  | 4, _, hq => cases hq; exact vnmo4
  | 5, _, hq => cases hq; exact vnmo5
  | 6, _, hq => cases hq; exact vnmo6
  | 7, _, hq => cases hq; exact vnmo7
  | 8, _, hq => cases hq; exact vnmo8
  | 9, _, hq => cases hq; exact vnmo9
theorem vdef_len {t : Nat} {q : vw_C} (hq : vcl[t]? = some q) : (vdef t).length = q.2.2 := by
  have ht : t < 10 := (List.getElem?_eq_some_iff.mp hq).1
  match t, ht, hq with
  | 0, _, hq => cases hq; exact rfl
  | 1, _, hq => cases hq; exact rfl
  | 2, _, hq => cases hq; exact rfl
  | 3, _, hq => cases hq; exact rfl
  | 4, _, hq => cases hq; exact rfl
  | 5, _, hq => cases hq; exact rfl
  | 6, _, hq => cases hq; exact rfl
  | 7, _, hq => cases hq; exact rfl
  | 8, _, hq => cases hq; exact rfl
  | 9, _, hq => cases hq; exact rfl
theorem vdef_ok {t : Nat} {q : vw_C} (hq : vcl[t]? = some q) : ∀ k, k < q.2.2 → defaultValue (vty t k) = vp_V (vdef t) k := by
  have ht : t < 10 := (List.getElem?_eq_some_iff.mp hq).1
  match t, ht, hq with
  | 0, _, hq => cases hq; exact vdfo0
  | 1, _, hq => cases hq; exact vdfo1
  | 2, _, hq => cases hq; exact vdfo2
  | 3, _, hq => cases hq; exact vdfo3
  | 4, _, hq => cases hq; exact vdfo4
  | 5, _, hq => cases hq; exact vdfo5
  | 6, _, hq => cases hq; exact vdfo6
  | 7, _, hq => cases hq; exact vdfo7
  | 8, _, hq => cases hq; exact vdfo8
  | 9, _, hq => cases hq; exact vdfo9
theorem vdef_sh : ∀ t, t < 10 → ∀ v ∈ vdef t, v = .null ∨ v = .int 0 := by decide +kernel
theorem vcomp_ok {t : Nat} (ht : t = 102 ∨ t = 103) : ∃ q, vcl[vcomp t]? = some q ∧ q.1 = vcn t := by
  rcases ht with rfl | rfl
  · exact ⟨_, rfl, rfl⟩
  · exact ⟨_, rfl, rfl⟩
def vlen (i : Jvm.ClassFile.Instr) : Nat := match i with
  | .tableswitch .. => 0
  | .lookupswitch .. => 0
  | .iload _ | .aload _ | .istore _ | .astore _ | .bipush _ | .ldc _ | .newarray _ => 2
  | .sipush _ | .ldc_w _ | .if_icmp _ _ | .ifCond _ _ | .ifnull _ | .ifnonnull _ | .goto _ | .iinc _ _ | .getfield _ | .putfield _ | .invokevirtual _ | .invokestatic _ | .invokespecial _ | .new _ | .anewarray _ => 3
  | _ => 1
def vmemB (e : Nat × Nat × Nat) (l : List (Nat × Nat × Nat)) : Bool := l.any fun z => z.1 == e.1 && z.2.1 == e.2.1 && z.2.2 == e.2.2
def vokB (mi : Nat) (y : Nat × vI) : Bool :=
  let pc := y.1
  let r1 := y.2.2.2.1
  let r2 := y.2.2.2.2
  (vlen y.2.1 == 0 || vlen y.2.1 == y.2.2.1) && 1 ≤ vrk mi && (match y.2.1 with
  | .getfield idx => vfl.any fun z => z.1 == vco mi && z.2.1 == idx && z.2.2.1 == r1 && z.2.2.2 == r2
  | .putfield idx => (vfl.any fun z => z.1 == vco mi && z.2.1 == idx && z.2.2.1 == r1 && z.2.2.2 == r2) && (match vcl[r1]? with
    | some q => !(q.2.1 r2).2.2.2 || (vkd mi == 2 && r1 == vco mi)
    | none => false)
  | .new idx => vmemB (vco mi, idx, r1) vnw
  | .anewarray idx => vmemB (vco mi, idx, r1) van
  | .newarray t => t == .int || t == .boolean
  | .ldc idx => vmemB (vco mi, idx, r1) vld0
  | .ldc_w idx => vmemB (vco mi, idx, r1) vld0
  | .if_icmp _ off => decide (0 ≤ (pc : Int) + off)
  | .ifCond _ off => decide (0 ≤ (pc : Int) + off)
  | .invokevirtual idx => vmemB (vco mi, idx, r1) vml && vids.contains r1 && vkd r1 == 1 && decide (1 ≤ r2) && decide (r2 ≤ vmaxL r1) && decide (vrk r1 < vrk mi) && decide (8 + (vmaxL r1 + 11) + vlo r1 ≤ vlo mi)
  | .invokestatic idx => if r1 == 1001 then vmemB (vco mi, idx, r1) vnl && decide (26 ≤ vlo mi) else if r1 == 1002 then vmemB (vco mi, idx, r1) vnl && decide (21 ≤ vlo mi) else vmemB (vco mi, idx, r1) vml && vids.contains r1 && vkd r1 == 0 && decide (r2 ≤ vmaxL r1) && decide (vrk r1 < vrk mi) && decide (8 + (vmaxL r1 + 11) + vlo r1 ≤ vlo mi)
  | .invokespecial idx => if r1 == 1000 then vmemB (vco mi, idx, r1) vnl && decide (20 ≤ vlo mi) else vmemB (vco mi, idx, r1) vml && vids.contains r1 && vkd r1 == 2 && decide (1 ≤ r2) && decide (r2 ≤ vmaxL r1) && decide (vrk r1 < vrk mi) && decide (8 + (vmaxL r1 + 11) + vlo r1 ≤ vlo mi)
  | _ => true)
def vdecB (mi : Nat) (y : Nat × vI) : Bool := decide (decode (vbytes mi) y.1 = .ok (y.2.1, y.2.2.1))
def vparB (y : Nat × vI) : Bool := match y.2.1 with
  | .invokevirtual _ => decide ((parseMethodDescriptor (vy y.2.2.2.1).desc).map (fun d => d.parameters.length) = some (y.2.2.2.2 - 1))
  | .invokestatic _ => decide (1000 ≤ y.2.2.2.1) || decide ((parseMethodDescriptor (vy y.2.2.2.1).desc).map (fun d => d.parameters.length) = some y.2.2.2.2)
  | .invokespecial _ => decide (1000 ≤ y.2.2.2.1) || decide ((parseMethodDescriptor (vy y.2.2.2.1).desc).map (fun d => d.parameters.length) = some (y.2.2.2.2 - 1))
  | _ => true
end
section
/-! the code lists are the code (by program) -/
set_option maxRecDepth 100000 in
theorem vk0 : (vt0.all fun y => vokB 0 y && vdecB 0 y && vparB y) = true := by decide +kernel
set_option maxRecDepth 100000 in
theorem vk1 : (vt1.all fun y => vokB 1 y && vdecB 1 y && vparB y) = true := by decide +kernel
set_option maxRecDepth 100000 in
theorem vk2 : (vt2.all fun y => vokB 2 y && vdecB 2 y && vparB y) = true := by decide +kernel
set_option maxRecDepth 100000 in
theorem vk3 : (vt3.all fun y => vokB 3 y && vdecB 3 y && vparB y) = true := by decide +kernel
set_option maxRecDepth 100000 in
theorem vk4 : (vt4.all fun y => vokB 4 y && vdecB 4 y && vparB y) = true := by decide +kernel
set_option maxRecDepth 100000 in
theorem vk5 : (vt5.all fun y => vokB 5 y && vdecB 5 y && vparB y) = true := by decide +kernel
set_option maxRecDepth 100000 in
theorem vk6 : (vt6.all fun y => vokB 6 y && vdecB 6 y && vparB y) = true := by decide +kernel
set_option maxRecDepth 100000 in
theorem vk7 : (vt7.all fun y => vokB 7 y && vdecB 7 y && vparB y) = true := by decide +kernel
set_option maxRecDepth 100000 in
theorem vk8 : (vt8.all fun y => vokB 8 y && vdecB 8 y && vparB y) = true := by decide +kernel
set_option maxRecDepth 100000 in
theorem vk9 : (vt9.all fun y => vokB 9 y && vdecB 9 y && vparB y) = true := by decide +kernel
set_option maxRecDepth 100000 in
theorem vk10 : (vt10.all fun y => vokB 10 y && vdecB 10 y && vparB y) = true := by decide +kernel
set_option maxRecDepth 100000 in
theorem vk11 : (vt11.all fun y => vokB 11 y && vdecB 11 y && vparB y) = true := by decide +kernel
set_option maxRecDepth 100000 in
theorem vk12 : (vt12.all fun y => vokB 12 y && vdecB 12 y && vparB y) = true := by decide +kernel
set_option maxRecDepth 100000 in
theorem vk13 : (vt13.all fun y => vokB 13 y && vdecB 13 y && vparB y) = true := by decide +kernel
set_option maxRecDepth 100000 in
theorem vk14 : (vt14.all fun y => vokB 14 y && vdecB 14 y && vparB y) = true := by decide +kernel
set_option maxRecDepth 100000 in
theorem vk15 : (vt15.all fun y => vokB 15 y && vdecB 15 y && vparB y) = true := by decide +kernel
set_option maxRecDepth 100000 in
theorem vk16 : (vt16.all fun y => vokB 16 y && vdecB 16 y && vparB y) = true := by decide +kernel
set_option maxRecDepth 100000 in
theorem vk17 : (vt17.all fun y => vokB 17 y && vdecB 17 y && vparB y) = true := by decide +kernel
set_option maxRecDepth 100000 in
theorem vk18 : (vt18.all fun y => vokB 18 y && vdecB 18 y && vparB y) = true := by decide +kernel
set_option maxRecDepth 100000 in
theorem vk19 : (vt19.all fun y => vokB 19 y && vdecB 19 y && vparB y) = true := by decide +kernel
set_option maxRecDepth 100000 in
theorem vk20 : (vt20.all fun y => vokB 20 y && vdecB 20 y && vparB y) = true := by decide +kernel
set_option maxRecDepth 100000 in
theorem vk21 : (vt21.all fun y => vokB 21 y && vdecB 21 y && vparB y) = true := by decide +kernel
set_option maxRecDepth 100000 in
theorem vk22 : (vt22.all fun y => vokB 22 y && vdecB 22 y && vparB y) = true := by decide +kernel
set_option maxRecDepth 100000 in
theorem vk23 : (vt23.all fun y => vokB 23 y && vdecB 23 y && vparB y) = true := by decide +kernel
set_option maxRecDepth 100000 in
theorem vk24 : (vt24.all fun y => vokB 24 y && vdecB 24 y && vparB y) = true := by decide +kernel
set_option maxRecDepth 100000 in
theorem vk25 : (vt25.all fun y => vokB 25 y && vdecB 25 y && vparB y) = true := by decide +kernel
set_option maxRecDepth 100000 in
theorem vk26 : (vt26.all fun y => vokB 26 y && vdecB 26 y && vparB y) = true := by decide +kernel
set_option maxRecDepth 100000 in
theorem vk27 : (vt27.all fun y => vokB 27 y && vdecB 27 y && vparB y) = true := by decide +kernel
set_option maxRecDepth 100000 in
theorem vk28 : (vt28.all fun y => vokB 28 y && vdecB 28 y && vparB y) = true := by decide +kernel
set_option maxRecDepth 100000 in
theorem vk29 : (vt29.all fun y => vokB 29 y && vdecB 29 y && vparB y) = true := by decide +kernel
set_option maxRecDepth 100000 in
theorem vk30 : (vt30.all fun y => vokB 30 y && vdecB 30 y && vparB y) = true := by decide +kernel
set_option maxRecDepth 100000 in
theorem vk31 : (vt31.all fun y => vokB 31 y && vdecB 31 y && vparB y) = true := by decide +kernel
set_option maxRecDepth 100000 in
theorem vk32 : (vt32.all fun y => vokB 32 y && vdecB 32 y && vparB y) = true := by decide +kernel
set_option maxRecDepth 100000 in
theorem vk33 : (vt33.all fun y => vokB 33 y && vdecB 33 y && vparB y) = true := by decide +kernel
set_option maxRecDepth 100000 in
theorem vk34 : (vt34.all fun y => vokB 34 y && vdecB 34 y && vparB y) = true := by decide +kernel
set_option maxRecDepth 100000 in
theorem vk35 : (vt35.all fun y => vokB 35 y && vdecB 35 y && vparB y) = true := by decide +kernel
set_option maxRecDepth 100000 in
theorem vk36 : (vt36.all fun y => vokB 36 y && vdecB 36 y && vparB y) = true := by decide +kernel
set_option maxRecDepth 100000 in
theorem vk37 : (vt37.all fun y => vokB 37 y && vdecB 37 y && vparB y) = true := by decide +kernel
set_option maxRecDepth 100000 in
theorem vk38 : (vt38.all fun y => vokB 38 y && vdecB 38 y && vparB y) = true := by decide +kernel
set_option maxRecDepth 100000 in
theorem vk39 : (vt39.all fun y => vokB 39 y && vdecB 39 y && vparB y) = true := by decide +kernel
set_option maxRecDepth 100000 in
theorem vk40 : (vt40.all fun y => vokB 40 y && vdecB 40 y && vparB y) = true := by decide +kernel
set_option maxRecDepth 100000 in
theorem vk41 : (vt41.all fun y => vokB 41 y && vdecB 41 y && vparB y) = true := by decide +kernel
set_option maxRecDepth 100000 in
theorem vk42 : (vt42.all fun y => vokB 42 y && vdecB 42 y && vparB y) = true := by decide +kernel
set_option maxRecDepth 100000 in
theorem vk43 : (vt43.all fun y => vokB 43 y && vdecB 43 y && vparB y) = true := by decide +kernel
set_option maxRecDepth 100000 in
theorem vk44 : (vt44.all fun y => vokB 44 y && vdecB 44 y && vparB y) = true := by decide +kernel
set_option maxRecDepth 100000 in
theorem vk45 : (vt45.all fun y => vokB 45 y && vdecB 45 y && vparB y) = true := by decide +kernel
set_option maxRecDepth 100000 in
theorem vk46 : (vt46.all fun y => vokB 46 y && vdecB 46 y && vparB y) = true := by decide +kernel
set_option maxRecDepth 100000 in
theorem vk47 : (vt47.all fun y => vokB 47 y && vdecB 47 y && vparB y) = true := by decide +kernel
set_option maxRecDepth 100000 in
theorem vk48 : (vt48.all fun y => vokB 48 y && vdecB 48 y && vparB y) = true := by decide +kernel
set_option maxRecDepth 100000 in
theorem vk49 : (vt49.all fun y => vokB 49 y && vdecB 49 y && vparB y) = true := by decide +kernel
set_option maxRecDepth 100000 in
theorem vk50 : (vt50.all fun y => vokB 50 y && vdecB 50 y && vparB y) = true := by decide +kernel
set_option maxRecDepth 100000 in
theorem vk51 : (vt51.all fun y => vokB 51 y && vdecB 51 y && vparB y) = true := by decide +kernel
set_option maxRecDepth 100000 in
theorem vk52 : (vt52.all fun y => vokB 52 y && vdecB 52 y && vparB y) = true := by decide +kernel
set_option maxRecDepth 100000 in
theorem vk53 : (vt53.all fun y => vokB 53 y && vdecB 53 y && vparB y) = true := by decide +kernel
set_option maxRecDepth 100000 in
theorem vk54 : (vt54.all fun y => vokB 54 y && vdecB 54 y && vparB y) = true := by decide +kernel
set_option maxRecDepth 100000 in
theorem vk55 : (vt55.all fun y => vokB 55 y && vdecB 55 y && vparB y) = true := by decide +kernel
set_option maxRecDepth 100000 in
theorem vk56 : (vt56.all fun y => vokB 56 y && vdecB 56 y && vparB y) = true := by decide +kernel
set_option maxRecDepth 100000 in
theorem vk57 : (vt57.all fun y => vokB 57 y && vdecB 57 y && vparB y) = true := by decide +kernel
set_option maxRecDepth 100000 in
theorem vk58 : (vt58.all fun y => vokB 58 y && vdecB 58 y && vparB y) = true := by decide +kernel
set_option maxRecDepth 100000 in
theorem vk59 : (vt59.all fun y => vokB 59 y && vdecB 59 y && vparB y) = true := by decide +kernel
set_option maxRecDepth 100000 in
theorem vk60 : (vt60.all fun y => vokB 60 y && vdecB 60 y && vparB y) = true := by decide +kernel
set_option maxRecDepth 100000 in
theorem vk61 : (vt61.all fun y => vokB 61 y && vdecB 61 y && vparB y) = true := by decide +kernel
set_option maxRecDepth 100000 in
theorem vk62 : (vt62.all fun y => vokB 62 y && vdecB 62 y && vparB y) = true := by decide +kernel
set_option maxRecDepth 100000 in
theorem vk63 : (vt63.all fun y => vokB 63 y && vdecB 63 y && vparB y) = true := by decide +kernel
set_option maxRecDepth 100000 in
theorem vk64 : (vt64.all fun y => vokB 64 y && vdecB 64 y && vparB y) = true := by decide +kernel
set_option maxRecDepth 100000 in
theorem vk65 : (vt65.all fun y => vokB 65 y && vdecB 65 y && vparB y) = true := by decide +kernel
set_option maxRecDepth 100000 in
theorem vk66 : (vt66.all fun y => vokB 66 y && vdecB 66 y && vparB y) = true := by decide +kernel
end
section
/-! the code lists are the code (by program) -/
set_option maxRecDepth 100000 in
theorem vk67 : (vt67.all fun y => vokB 67 y && vdecB 67 y && vparB y) = true := by decide +kernel
set_option maxRecDepth 100000 in
theorem vk68 : (vt68.all fun y => vokB 68 y && vdecB 68 y && vparB y) = true := by decide +kernel
set_option maxRecDepth 100000 in
theorem vk69 : (vt69.all fun y => vokB 69 y && vdecB 69 y && vparB y) = true := by decide +kernel
set_option maxRecDepth 100000 in
theorem vk70 : (vt70.all fun y => vokB 70 y && vdecB 70 y && vparB y) = true := by decide +kernel
set_option maxRecDepth 100000 in
theorem vk71 : (vt71.all fun y => vokB 71 y && vdecB 71 y && vparB y) = true := by decide +kernel
set_option maxRecDepth 100000 in
theorem vk72 : (vt72.all fun y => vokB 72 y && vdecB 72 y && vparB y) = true := by decide +kernel
set_option maxRecDepth 100000 in
theorem vk73 : (vt73.all fun y => vokB 73 y && vdecB 73 y && vparB y) = true := by decide +kernel
set_option maxRecDepth 100000 in
theorem vk74 : (vt74.all fun y => vokB 74 y && vdecB 74 y && vparB y) = true := by decide +kernel
set_option maxRecDepth 100000 in
theorem vk75 : (vt75.all fun y => vokB 75 y && vdecB 75 y && vparB y) = true := by decide +kernel
set_option maxRecDepth 100000 in
theorem vk76 : (vt76.all fun y => vokB 76 y && vdecB 76 y && vparB y) = true := by decide +kernel
set_option maxRecDepth 100000 in
theorem vk77 : (vt77.all fun y => vokB 77 y && vdecB 77 y && vparB y) = true := by decide +kernel
set_option maxRecDepth 100000 in
theorem vk78 : (vt78.all fun y => vokB 78 y && vdecB 78 y && vparB y) = true := by decide +kernel
set_option maxRecDepth 100000 in
theorem vk79 : (vt79.all fun y => vokB 79 y && vdecB 79 y && vparB y) = true := by decide +kernel
set_option maxRecDepth 100000 in
theorem vk80 : (vt80.all fun y => vokB 80 y && vdecB 80 y && vparB y) = true := by decide +kernel
set_option maxRecDepth 100000 in
theorem vk81 : (vt81.all fun y => vokB 81 y && vdecB 81 y && vparB y) = true := by decide +kernel
set_option maxRecDepth 100000 in
theorem vk82 : (vt82.all fun y => vokB 82 y && vdecB 82 y && vparB y) = true := by decide +kernel
set_option maxRecDepth 100000 in
theorem vk83 : (vt83.all fun y => vokB 83 y && vdecB 83 y && vparB y) = true := by decide +kernel
set_option maxRecDepth 100000 in
theorem vk84 : (vt84.all fun y => vokB 84 y && vdecB 84 y && vparB y) = true := by decide +kernel
set_option maxRecDepth 100000 in
theorem vk85 : (vt85.all fun y => vokB 85 y && vdecB 85 y && vparB y) = true := by decide +kernel
set_option maxRecDepth 100000 in
theorem vk86 : (vt86.all fun y => vokB 86 y && vdecB 86 y && vparB y) = true := by decide +kernel
set_option maxRecDepth 100000 in
theorem vk87 : (vt87.all fun y => vokB 87 y && vdecB 87 y && vparB y) = true := by decide +kernel
set_option maxRecDepth 100000 in
theorem vk88 : (vt88.all fun y => vokB 88 y && vdecB 88 y && vparB y) = true := by decide +kernel
set_option maxRecDepth 100000 in
theorem vk89 : (vt89.all fun y => vokB 89 y && vdecB 89 y && vparB y) = true := by decide +kernel
set_option maxRecDepth 100000 in
theorem vk90 : (vt90.all fun y => vokB 90 y && vdecB 90 y && vparB y) = true := by decide +kernel
set_option maxRecDepth 100000 in
theorem vk91 : (vt91.all fun y => vokB 91 y && vdecB 91 y && vparB y) = true := by decide +kernel
set_option maxRecDepth 100000 in
theorem vk92 : (vt92.all fun y => vokB 92 y && vdecB 92 y && vparB y) = true := by decide +kernel
set_option maxRecDepth 100000 in
theorem vk93 : (vt93.all fun y => vokB 93 y && vdecB 93 y && vparB y) = true := by decide +kernel
set_option maxRecDepth 100000 in
theorem vk94 : (vt94.all fun y => vokB 94 y && vdecB 94 y && vparB y) = true := by decide +kernel
set_option maxRecDepth 100000 in
theorem vk95 : (vt95.all fun y => vokB 95 y && vdecB 95 y && vparB y) = true := by decide +kernel
set_option maxRecDepth 100000 in
theorem vk96 : (vt96.all fun y => vokB 96 y && vdecB 96 y && vparB y) = true := by decide +kernel
set_option maxRecDepth 100000 in
theorem vk97 : (vt97.all fun y => vokB 97 y && vdecB 97 y && vparB y) = true := by decide +kernel
set_option maxRecDepth 100000 in
theorem vk98 : (vt98.all fun y => vokB 98 y && vdecB 98 y && vparB y) = true := by decide +kernel
set_option maxRecDepth 100000 in
theorem vk99 : (vt99.all fun y => vokB 99 y && vdecB 99 y && vparB y) = true := by decide +kernel
set_option maxRecDepth 100000 in
theorem vk100 : (vt100.all fun y => vokB 100 y && vdecB 100 y && vparB y) = true := by decide +kernel
set_option maxRecDepth 100000 in
theorem vk101 : (vt101.all fun y => vokB 101 y && vdecB 101 y && vparB y) = true := by decide +kernel
set_option maxRecDepth 100000 in
theorem vk102 : (vt102.all fun y => vokB 102 y && vdecB 102 y && vparB y) = true := by decide +kernel
set_option maxRecDepth 100000 in
theorem vk103 : (vt103.all fun y => vokB 103 y && vdecB 103 y && vparB y) = true := by decide +kernel
set_option maxRecDepth 100000 in
theorem vk104 : (vt104.all fun y => vokB 104 y && vdecB 104 y && vparB y) = true := by decide +kernel
set_option maxRecDepth 100000 in
theorem vk105 : (vt105.all fun y => vokB 105 y && vdecB 105 y && vparB y) = true := by decide +kernel
set_option maxRecDepth 100000 in
theorem vk106 : (vt106.all fun y => vokB 106 y && vdecB 106 y && vparB y) = true := by decide +kernel
set_option maxRecDepth 100000 in
theorem vk107 : (vt107.all fun y => vokB 107 y && vdecB 107 y && vparB y) = true := by decide +kernel
set_option maxRecDepth 100000 in
theorem vk108 : (vt108.all fun y => vokB 108 y && vdecB 108 y && vparB y) = true := by decide +kernel
set_option maxRecDepth 100000 in
theorem vk109 : (vt109.all fun y => vokB 109 y && vdecB 109 y && vparB y) = true := by decide +kernel
set_option maxRecDepth 100000 in
theorem vk110 : (vt110.all fun y => vokB 110 y && vdecB 110 y && vparB y) = true := by decide +kernel
set_option maxRecDepth 100000 in
theorem vk111 : (vt111.all fun y => vokB 111 y && vdecB 111 y && vparB y) = true := by decide +kernel
set_option maxRecDepth 100000 in
theorem vk112 : (vt112.all fun y => vokB 112 y && vdecB 112 y && vparB y) = true := by decide +kernel
set_option maxRecDepth 100000 in
theorem vk113 : (vt113.all fun y => vokB 113 y && vdecB 113 y && vparB y) = true := by decide +kernel
set_option maxRecDepth 100000 in
theorem vk114 : (vt114.all fun y => vokB 114 y && vdecB 114 y && vparB y) = true := by decide +kernel
set_option maxRecDepth 100000 in
theorem vk115 : (vt115.all fun y => vokB 115 y && vdecB 115 y && vparB y) = true := by decide +kernel
set_option maxRecDepth 100000 in
theorem vk116 : (vt116.all fun y => vokB 116 y && vdecB 116 y && vparB y) = true := by decide +kernel
set_option maxRecDepth 100000 in
theorem vk117 : (vt117.all fun y => vokB 117 y && vdecB 117 y && vparB y) = true := by decide +kernel
set_option maxRecDepth 100000 in
theorem vk118 : (vt118.all fun y => vokB 118 y && vdecB 118 y && vparB y) = true := by decide +kernel
set_option maxRecDepth 100000 in
theorem vk119 : (vt119.all fun y => vokB 119 y && vdecB 119 y && vparB y) = true := by decide +kernel
set_option maxRecDepth 100000 in
theorem vk120 : (vt120.all fun y => vokB 120 y && vdecB 120 y && vparB y) = true := by decide +kernel
set_option maxRecDepth 100000 in
theorem vk121 : (vt121.all fun y => vokB 121 y && vdecB 121 y && vparB y) = true := by decide +kernel
set_option maxRecDepth 100000 in
theorem vk122 : (vt122.all fun y => vokB 122 y && vdecB 122 y && vparB y) = true := by decide +kernel
set_option maxRecDepth 100000 in
theorem vk123 : (vt123.all fun y => vokB 123 y && vdecB 123 y && vparB y) = true := by decide +kernel
set_option maxRecDepth 100000 in
theorem vk124 : (vt124.all fun y => vokB 124 y && vdecB 124 y && vparB y) = true := by decide +kernel
set_option maxRecDepth 100000 in
theorem vk125 : (vt125.all fun y => vokB 125 y && vdecB 125 y && vparB y) = true := by decide +kernel
set_option maxRecDepth 100000 in
theorem vk126 : (vt126.all fun y => vokB 126 y && vdecB 126 y && vparB y) = true := by decide +kernel
set_option maxRecDepth 100000 in
theorem vk127 : (vt127.all fun y => vokB 127 y && vdecB 127 y && vparB y) = true := by decide +kernel
set_option maxRecDepth 100000 in
theorem vk128 : (vt128.all fun y => vokB 128 y && vdecB 128 y && vparB y) = true := by decide +kernel
set_option maxRecDepth 100000 in
theorem vk129 : (vt129.all fun y => vokB 129 y && vdecB 129 y && vparB y) = true := by decide +kernel
set_option maxRecDepth 100000 in
theorem vk130 : (vt130.all fun y => vokB 130 y && vdecB 130 y && vparB y) = true := by decide +kernel
set_option maxRecDepth 100000 in
theorem vk131 : (vt131.all fun y => vokB 131 y && vdecB 131 y && vparB y) = true := by decide +kernel
set_option maxRecDepth 100000 in
theorem vk132 : (vt132.all fun y => vokB 132 y && vdecB 132 y && vparB y) = true := by decide +kernel
set_option maxRecDepth 100000 in
theorem vk133 : (vt133.all fun y => vokB 133 y && vdecB 133 y && vparB y) = true := by decide +kernel
set_option maxRecDepth 100000 in
theorem vk134 : (vt134.all fun y => vokB 134 y && vdecB 134 y && vparB y) = true := by decide +kernel
set_option maxRecDepth 100000 in
theorem vk135 : (vt135.all fun y => vokB 135 y && vdecB 135 y && vparB y) = true := by decide +kernel
set_option maxRecDepth 100000 in
theorem vk136 : (vt136.all fun y => vokB 136 y && vdecB 136 y && vparB y) = true := by decide +kernel
set_option maxRecDepth 100000 in
theorem vk137 : (vt137.all fun y => vokB 137 y && vdecB 137 y && vparB y) = true := by decide +kernel
set_option maxRecDepth 100000 in
theorem vk138 : (vt138.all fun y => vokB 138 y && vdecB 138 y && vparB y) = true := by decide +kernel
set_option maxRecDepth 100000 in
theorem vk139 : (vt139.all fun y => vokB 139 y && vdecB 139 y && vparB y) = true := by decide +kernel
set_option maxRecDepth 100000 in
theorem vk140 : (vt140.all fun y => vokB 140 y && vdecB 140 y && vparB y) = true := by decide +kernel
set_option maxRecDepth 100000 in
theorem vk141 : (vt141.all fun y => vokB 141 y && vdecB 141 y && vparB y) = true := by decide +kernel
set_option maxRecDepth 100000 in
theorem vk142 : (vt142.all fun y => vokB 142 y && vdecB 142 y && vparB y) = true := by decide +kernel
set_option maxRecDepth 100000 in
theorem vk143 : (vt143.all fun y => vokB 143 y && vdecB 143 y && vparB y) = true := by decide +kernel
set_option maxRecDepth 100000 in
theorem vk144 : (vt144.all fun y => vokB 144 y && vdecB 144 y && vparB y) = true := by decide +kernel
set_option maxRecDepth 100000 in
theorem vk145 : (vt145.all fun y => vokB 145 y && vdecB 145 y && vparB y) = true := by decide +kernel
set_option maxRecDepth 100000 in
theorem vk146 : (vt146.all fun y => vokB 146 y && vdecB 146 y && vparB y) = true := by decide +kernel
set_option maxRecDepth 100000 in
theorem vk147 : (vt147.all fun y => vokB 147 y && vdecB 147 y && vparB y) = true := by decide +kernel
set_option maxRecDepth 100000 in
theorem vk148 : (vt148.all fun y => vokB 148 y && vdecB 148 y && vparB y) = true := by decide +kernel
set_option maxRecDepth 100000 in
theorem vk149 : (vt149.all fun y => vokB 149 y && vdecB 149 y && vparB y) = true := by decide +kernel
set_option maxRecDepth 100000 in
theorem vk150 : (vt150.all fun y => vokB 150 y && vdecB 150 y && vparB y) = true := by decide +kernel
set_option maxRecDepth 100000 in
theorem vk151 : (vt151.all fun y => vokB 151 y && vdecB 151 y && vparB y) = true := by decide +kernel
set_option maxRecDepth 100000 in
theorem vk152 : (vt152.all fun y => vokB 152 y && vdecB 152 y && vparB y) = true := by decide +kernel
set_option maxRecDepth 100000 in
theorem vk153 : (vt153.all fun y => vokB 153 y && vdecB 153 y && vparB y) = true := by decide +kernel
set_option maxRecDepth 100000 in
theorem vk154 : (vt154.all fun y => vokB 154 y && vdecB 154 y && vparB y) = true := by decide +kernel
set_option maxRecDepth 100000 in
theorem vk155 : (vt155.all fun y => vokB 155 y && vdecB 155 y && vparB y) = true := by decide +kernel
set_option maxRecDepth 100000 in
theorem vk156 : (vt156.all fun y => vokB 156 y && vdecB 156 y && vparB y) = true := by decide +kernel
set_option maxRecDepth 100000 in
theorem vk157 : (vt157.all fun y => vokB 157 y && vdecB 157 y && vparB y) = true := by decide +kernel
set_option maxRecDepth 100000 in
theorem vk158 : (vt158.all fun y => vokB 158 y && vdecB 158 y && vparB y) = true := by decide +kernel
set_option maxRecDepth 100000 in
theorem vk159 : (vt159.all fun y => vokB 159 y && vdecB 159 y && vparB y) = true := by decide +kernel
set_option maxRecDepth 100000 in
theorem vk160 : (vt160.all fun y => vokB 160 y && vdecB 160 y && vparB y) = true := by decide +kernel
set_option maxRecDepth 100000 in
theorem vk161 : (vt161.all fun y => vokB 161 y && vdecB 161 y && vparB y) = true := by decide +kernel
set_option maxRecDepth 100000 in
theorem vk162 : (vt162.all fun y => vokB 162 y && vdecB 162 y && vparB y) = true := by decide +kernel
set_option maxRecDepth 100000 in
theorem vk163 : (vt163.all fun y => vokB 163 y && vdecB 163 y && vparB y) = true := by decide +kernel
set_option maxRecDepth 100000 in
theorem vk164 : (vt164.all fun y => vokB 164 y && vdecB 164 y && vparB y) = true := by decide +kernel
set_option maxRecDepth 100000 in
theorem vk165 : (vt165.all fun y => vokB 165 y && vdecB 165 y && vparB y) = true := by decide +kernel
set_option maxRecDepth 100000 in
theorem vk166 : (vt166.all fun y => vokB 166 y && vdecB 166 y && vparB y) = true := by decide +kernel
set_option maxRecDepth 100000 in
theorem vk167 : (vt167.all fun y => vokB 167 y && vdecB 167 y && vparB y) = true := by decide +kernel
end
section
/-! all of them -/
theorem vall : ∀ i, i < 168 → ((vtab i).all fun y => vokB i y && vdecB i y && vparB y) = true := by
  intro i hi
  match i, hi with
  | 0, _ => exact vk0
  | 1, _ => exact vk1
  | 2, _ => exact vk2
  | 3, _ => exact vk3
  | 4, _ => exact vk4
  | 5, _ => exact vk5
  | 6, _ => exact vk6
  | 7, _ => exact vk7
  | 8, _ => exact vk8
  | 9, _ => exact vk9
  | 10, _ => exact vk10
  | 11, _ => exact vk11
  | 12, _ => exact vk12
  | 13, _ => exact vk13
  | 14, _ => exact vk14
  | 15, _ => exact vk15
  | 16, _ => exact vk16
  | 17, _ => exact vk17
  | 18, _ => exact vk18
  | 19, _ => exact vk19
  | 20, _ => exact vk20
  | 21, _ => exact vk21
  | 22, _ => exact vk22
  | 23, _ => exact vk23
  | 24, _ => exact vk24
  | 25, _ => exact vk25
  | 26, _ => exact vk26
  | 27, _ => exact vk27
  | 28, _ => exact vk28
  | 29, _ => exact vk29
  | 30, _ => exact vk30
  | 31, _ => exact vk31
  | 32, _ => exact vk32
  | 33, _ => exact vk33
  | 34, _ => exact vk34
  | 35, _ => exact vk35
  | 36, _ => exact vk36
  | 37, _ => exact vk37
  | 38, _ => exact vk38
  | 39, _ => exact vk39
  | 40, _ => exact vk40
  | 41, _ => exact vk41
  | 42, _ => exact vk42
  | 43, _ => exact vk43
  | 44, _ => exact vk44
  | 45, _ => exact vk45
  | 46, _ => exact vk46
  | 47, _ => exact vk47
  | 48, _ => exact vk48
  | 49, _ => exact vk49
  | 50, _ => exact vk50
  | 51, _ => exact vk51
  | 52, _ => exact vk52
  | 53, _ => exact vk53
  | 54, _ => exact vk54
  | 55, _ => exact vk55
  | 56, _ => exact vk56
  | 57, _ => exact vk57
  | 58, _ => exact vk58
  | 59, _ => exact vk59
  | 60, _ => exact vk60
  | 61, _ => exact vk61
  | 62, _ => exact vk62
  | 63, _ => exact vk63
  | 64, _ => exact vk64
  | 65, _ => exact vk65
  | 66, _ => exact vk66
  | 67, _ => exact vk67
  | 68, _ => exact vk68
  | 69, _ => exact vk69
  | 70, _ => exact vk70
  | 71, _ => exact vk71
  | 72, _ => exact vk72
  | 73, _ => exact vk73
  | 74, _ => exact vk74
  | 75, _ => exact vk75
  | 76, _ => exact vk76
  | 77, _ => exact vk77
  | 78, _ => exact vk78
  | 79, _ => exact vk79
  | 80, _ => exact vk80
  | 81, _ => exact vk81
  | 82, _ => exact vk82
  | 83, _ => exact vk83
  | 84, _ => exact vk84
  | 85, _ => exact vk85
  | 86, _ => exact vk86
  | 87, _ => exact vk87
  | 88, _ => exact vk88
  | 89, _ => exact vk89
  | 90, _ => exact vk90
  | 91, _ => exact vk91
  | 92, _ => exact vk92
  | 93, _ => exact vk93
  | 94, _ => exact vk94
  | 95, _ => exact vk95
  | 96, _ => exact vk96
  | 97, _ => exact vk97
  | 98, _ => exact vk98
  | 99, _ => exact vk99
  | 100, _ => exact vk100
  | 101, _ => exact vk101
  | 102, _ => exact vk102
  | 103, _ => exact vk103
  | 104, _ => exact vk104
  | 105, _ => exact vk105
  | 106, _ => exact vk106
  | 107, _ => exact vk107
  | 108, _ => exact vk108
  | 109, _ => exact vk109
  | 110, _ => exact vk110
  | 111, _ => exact vk111
  | 112, _ => exact vk112
  | 113, _ => exact vk113
  | 114, _ => exact vk114
  | 115, _ => exact vk115
  | 116, _ => exact vk116
  | 117, _ => exact vk117
  | 118, _ => exact vk118
  | 119, _ => exact vk119
  | 120, _ => exact vk120
  | 121, _ => exact vk121
  | 122, _ => exact vk122
  | 123, _ => exact vk123
  | 124, _ => exact vk124
  | 125, _ => exact vk125
  | 126, _ => exact vk126
  | 127, _ => exact vk127
  | 128, _ => exact vk128
  | 129, _ => exact vk129
  | 130, _ => exact vk130
  | 131, _ => exact vk131
  | 132, _ => exact vk132
  | 133, _ => exact vk133
  | 134, _ => exact vk134
  | 135, _ => exact vk135
  | 136, _ => exact vk136
  | 137, _ => exact vk137
  | 138, _ => exact vk138
  | 139, _ => exact vk139
  | 140, _ => exact vk140
  | 141, _ => exact vk141
  | 142, _ => exact vk142
  | 143, _ => exact vk143
  | 144, _ => exact vk144
  | 145, _ => exact vk145
  | 146, _ => exact vk146
  | 147, _ => exact vk147
  | 148, _ => exact vk148
  | 149, _ => exact vk149
  | 150, _ => exact vk150
  | 151, _ => exact vk151
  | 152, _ => exact vk152
  | 153, _ => exact vk153
  | 154, _ => exact vk154
  | 155, _ => exact vk155
  | 156, _ => exact vk156
  | 157, _ => exact vk157
  | 158, _ => exact vk158
  | 159, _ => exact vk159
  | 160, _ => exact vk160
  | 161, _ => exact vk161
  | 162, _ => exact vk162
  | 163, _ => exact vk163
  | 164, _ => exact vk164
  | 165, _ => exact vk165
  | 166, _ => exact vk166
  | 167, _ => exact vk167
  | n + 168, h => omega
theorem vdecl0 {t : Nat} {q : vw_C} (hq : vcl[t]? = some q) : ∀ k, k < q.2.2 → (q.2.1 k).1 = vcname t := by
  have ht : t < 10 := (List.getElem?_eq_some_iff.mp hq).1
  match t, ht, hq with
  | 0, _, hq => cases hq; exact (by decide +kernel)
  | 1, _, hq => cases hq; exact (by decide +kernel)
  | 2, _, hq => cases hq; exact (by decide +kernel)
  | 3, _, hq => cases hq; exact (by decide +kernel)
  | 4, _, hq => cases hq; exact (by decide +kernel)
  | 5, _, hq => cases hq; exact (by decide +kernel)
  | 6, _, hq => cases hq; exact (by decide +kernel)
  | 7, _, hq => cases hq; exact (by decide +kernel)
  | 8, _, hq => cases hq; exact (by decide +kernel)
  | 9, _, hq => cases hq; exact (by decide +kernel)
theorem vdecl {t : Nat} {q : vw_C} {k : Nat} (hq : vcl[t]? = some q) (hk : k < q.2.2) : (q.2.1 k).1 = vcname t := vdecl0 hq k hk
theorem vtab_lt {mi pc : Nat} {x : vI} (h : vcode mi pc = some x) : mi < 168 := by
  by_cases hl : mi < 168
  · exact hl
  · have e : vtL[mi]? = none := List.getElem?_eq_none (by show vtL.length ≤ mi; show 168 ≤ mi; omega)
    unfold vcode vtab at h
    rw [e] at h
    cases h
theorem vlk_mem {α : Type} {l : List (Nat × α)} {k : Nat} {x : α} (h : l.lookup k = some x) : (k, x) ∈ l := by
  induction l with
  | nil => cases h
  | cons c t ih =>
    obtain ⟨j, z⟩ := c
    rw [List.lookup_cons] at h
    split at h
    · rename_i hj
      cases h
      rw [eq_of_beq hj]
      exact List.mem_cons_self
    · exact List.mem_cons_of_mem _ (ih h)
theorem vchk {mi pc : Nat} {x : vI} (h : vcode mi pc = some x) : vokB mi (pc, x) = true ∧ vdecB mi (pc, x) = true ∧ vparB (pc, x) = true := by
  have h1 := List.all_eq_true.mp (vall mi (vtab_lt h)) _ (vlk_mem h)
  rw [Bool.and_eq_true, Bool.and_eq_true] at h1
  exact ⟨h1.1.1, h1.1.2, h1.2⟩
theorem vdec {mi pc : Nat} {i : Jvm.ClassFile.Instr} {len r1 r2 : Nat} (h : vcode mi pc = some (i, len, r1, r2)) : decode (vbytes mi) pc = .ok (i, len) := of_decide_eq_true (vchk h).2.1
theorem vmemB_ok {e : Nat × Nat × Nat} {l : List (Nat × Nat × Nat)} (h : vmemB e l = true) : e ∈ l := by
  unfold vmemB at h
  obtain ⟨z, hz, he⟩ := List.any_eq_true.mp h
  simp only [Bool.and_eq_true, beq_iff_eq] at he
  obtain ⟨⟨h1, h2⟩, h3⟩ := he
  have : z = e := by
    obtain ⟨a, b, c⟩ := z
    obtain ⟨d, f, g⟩ := e
    simp only at h1 h2 h3
    rw [h1, h2, h3]
  rw [← this]
  exact hz
theorem vflB_ok {a idx t k : Nat} (h : (vfl.any fun z => z.1 == a && z.2.1 == idx && z.2.2.1 == t && z.2.2.2 == k) = true) : vfOk (a, idx, t, k) := by
  obtain ⟨z, hz, he⟩ := List.any_eq_true.mp h
  simp only [Bool.and_eq_true, beq_iff_eq] at he
  obtain ⟨⟨⟨h1, h2⟩, h3⟩, h4⟩ := he
  have : z = (a, idx, t, k) := by
    obtain ⟨z1, z2, z3, z4⟩ := z
    simp only at h1 h2 h3 h4
    rw [h1, h2, h3, h4]
  rw [← this]
  exact vfl_ok z hz
theorem vlen_of {mi pc : Nat} {i : Jvm.ClassFile.Instr} {len r1 r2 n : Nat} (h : vcode mi pc = some (i, len, r1, r2)) (hn : vlen i = n) (h0 : n ≠ 0) : len = n := by
  have h1 := (vchk h).1
  simp only [vokB, Bool.and_eq_true, Bool.or_eq_true, beq_iff_eq, decide_eq_true_eq] at h1
  rcases h1.1.1 with h2 | h2
  · omega
  · omega
theorem vrk_pos {mi pc : Nat} {x : vI} (h : vcode mi pc = some x) : 1 ≤ vrk mi := by
  have h1 := (vchk h).1
  simp only [vokB, Bool.and_eq_true, decide_eq_true_eq] at h1
  exact h1.1.2
theorem vok_get {mi pc idx len r1 r2 : Nat} (h : vcode mi pc = some (.getfield idx, len, r1, r2)) : ∃ q, vcl[r1]? = some q ∧ r2 < q.2.2 ∧ vlinkF (vown mi) idx q r2 := by
  have h1 := (vchk h).1
  simp only [vokB, Bool.and_eq_true] at h1
  have h2 : vfOk (vco mi, idx, r1, r2) := vflB_ok h1.2
  exact h2
theorem vok_put {mi pc idx len r1 r2 : Nat} (h : vcode mi pc = some (.putfield idx, len, r1, r2)) : ∃ q, vcl[r1]? = some q ∧ r2 < q.2.2 ∧ vlinkF (vown mi) idx q r2 ∧ ((q.2.1 r2).2.2.2 = false ∨ ((q.2.1 r2).2.2.2 = true ∧ vkd mi = 2 ∧ (q.2.1 r2).1 = vown mi)) := by
  have h1 := (vchk h).1
  simp only [vokB, Bool.and_eq_true] at h1
  have h3 : vfOk (vco mi, idx, r1, r2) := vflB_ok h1.2.1
  obtain ⟨q, hq, hk, hl⟩ := h3
  refine ⟨q, hq, hk, hl, ?_⟩
  have h2 := h1.2.2
  simp only at hq
  rw [hq] at h2
  simp only [Bool.or_eq_true, Bool.not_eq_true', Bool.and_eq_true, beq_iff_eq] at h2
  cases hf : (q.2.1 r2).2.2.2 with
  | false => exact Or.inl rfl
  | true =>
    rcases h2 with h2 | h2
    · rw [hf] at h2; cases h2
    · exact Or.inr ⟨rfl, h2.1, by rw [vdecl hq hk, h2.2]; rfl⟩
theorem vok_new {mi pc idx len r1 r2 : Nat} (h : vcode mi pc = some (.new idx, len, r1, r2)) : ∃ q, vcl[r1]? = some q ∧ Cond.classLink (vown mi) idx q.1 ∈ vWS ∧ Cond.instantiable q.1 q.2.2 ∈ vWS ∧ Cond.initialized q.1 ∈ vWS := by
  have h1 := (vchk h).1
  simp only [vokB, Bool.and_eq_true] at h1
  exact vnw_ok _ (vmemB_ok h1.2)
theorem vok_anew {mi pc idx len r1 r2 : Nat} (h : vcode mi pc = some (.anewarray idx, len, r1, r2)) : Cond.classLink (vown mi) idx (vcn r1) ∈ vWS := by
  have h1 := (vchk h).1
  simp only [vokB, Bool.and_eq_true] at h1
  exact van_ok _ (vmemB_ok h1.2)
theorem vok_ldc {mi pc idx len r1 r2 : Nat} (h : vcode mi pc = some (.ldc idx, len, r1, r2)) : Cond.constant (vown mi) idx (Int32.ofNat r1) ∈ vWS := by
  have h1 := (vchk h).1
  simp only [vokB, Bool.and_eq_true] at h1
  exact vld_ok _ (vmemB_ok h1.2)
theorem vok_ldcw {mi pc idx len r1 r2 : Nat} (h : vcode mi pc = some (.ldc_w idx, len, r1, r2)) : Cond.constant (vown mi) idx (Int32.ofNat r1) ∈ vWS := by
  have h1 := (vchk h).1
  simp only [vokB, Bool.and_eq_true] at h1
  exact vld_ok _ (vmemB_ok h1.2)
theorem vok_if {mi pc len r1 r2 : Nat} {k : Jvm.ClassFile.Cond} {off : Int} (h : vcode mi pc = some (.ifCond k off, len, r1, r2)) : 0 ≤ (pc : Int) + off := by
  have h1 := (vchk h).1
  simp only [vokB, Bool.and_eq_true, decide_eq_true_eq] at h1
  exact h1.2
theorem vok_icmp {mi pc len r1 r2 : Nat} {k : Jvm.ClassFile.Cond} {off : Int} (h : vcode mi pc = some (.if_icmp k off, len, r1, r2)) : 0 ≤ (pc : Int) + off := by
  have h1 := (vchk h).1
  simp only [vokB, Bool.and_eq_true, decide_eq_true_eq] at h1
  exact h1.2
theorem vok_oinit {mi pc idx len r2 : Nat} (h : vcode mi pc = some (.invokespecial idx, len, 1000, r2)) : Cond.methodLink (vown mi) idx Lib.objectInit ∈ vWS ∧ 20 ≤ vlo mi := by
  have h1 := (vchk h).1
  simp only [vokB, Bool.and_eq_true, beq_self_eq_true, if_true, decide_eq_true_eq] at h1
  exact ⟨vnl_ok _ (vmemB_ok h1.2.1), h1.2.2⟩
theorem vok_copy {mi pc idx len r2 : Nat} (h : vcode mi pc = some (.invokestatic idx, len, 1001, r2)) : Cond.methodLink (vown mi) idx arraycopyName ∈ vWS ∧ 26 ≤ vlo mi := by
  have h1 := (vchk h).1
  simp only [vokB, Bool.and_eq_true, beq_self_eq_true, if_true, decide_eq_true_eq] at h1
  exact ⟨vnl_ok _ (vmemB_ok h1.2.1), h1.2.2⟩
theorem vok_min {mi pc idx len r2 : Nat} (h : vcode mi pc = some (.invokestatic idx, len, 1002, r2)) : Cond.methodLink (vown mi) idx Lib.Math.min.name ∈ vWS ∧ 21 ≤ vlo mi := by
  have h1 := (vchk h).1
  simp only [vokB, Bool.and_eq_true, beq_self_eq_true, if_true, decide_eq_true_eq, show ((1002 : Nat) == 1001) = false from rfl, Bool.false_eq_true, if_false] at h1
  exact ⟨vnl_ok _ (vmemB_ok h1.2.1), h1.2.2⟩
theorem vids_stat {i : Nat} (h : vids.contains i = true) : vstat i := vids_ok i (List.contains_iff_mem.mp h)
theorem vok_inv {mi pc idx len cm na : Nat} (h : vcode mi pc = some (.invokevirtual idx, len, cm, na)) : vlinkM (vown mi) idx (vy cm) ∧ vstat cm ∧ vkd cm = 1 ∧ 1 ≤ na ∧ na ≤ vmaxL cm ∧ vrk cm < vrk mi ∧ 8 + (vmaxL cm + 11) + vlo cm ≤ vlo mi ∧ (parseMethodDescriptor (vy cm).desc).map (fun d => d.parameters.length) = some (na - 1) := by
  obtain ⟨h1, -, h3⟩ := vchk h
  simp only [vokB, Bool.and_eq_true, beq_iff_eq, decide_eq_true_eq] at h1
  obtain ⟨-, ⟨⟨⟨⟨⟨⟨a1, a2⟩, a3⟩, a4⟩, a5⟩, a6⟩, a7⟩⟩ := h1
  simp only [vparB, decide_eq_true_eq] at h3
  exact ⟨vml_ok _ (vmemB_ok a1), vids_stat a2, a3, a4, a5, a6, a7, h3⟩
theorem vok_stat {mi pc idx len cm na : Nat} (h : vcode mi pc = some (.invokestatic idx, len, cm, na)) (hc : cm < 1000) : vlinkM (vown mi) idx (vy cm) ∧ vstat cm ∧ vkd cm = 0 ∧ na ≤ vmaxL cm ∧ vrk cm < vrk mi ∧ 8 + (vmaxL cm + 11) + vlo cm ≤ vlo mi ∧ (parseMethodDescriptor (vy cm).desc).map (fun d => d.parameters.length) = some na := by
  obtain ⟨h1, -, h3⟩ := vchk h
  have e1 : (cm == 1001) = false := by simp; omega
  have e2 : (cm == 1002) = false := by simp; omega
  simp only [vokB, e1, e2, Bool.false_eq_true, if_false, Bool.and_eq_true, beq_iff_eq, decide_eq_true_eq] at h1
  obtain ⟨-, ⟨⟨⟨⟨⟨a1, a2⟩, a3⟩, a5⟩, a6⟩, a7⟩⟩ := h1
  simp only [vparB, Bool.or_eq_true, decide_eq_true_eq] at h3
  refine ⟨vml_ok _ (vmemB_ok a1), vids_stat a2, a3, a5, a6, a7, ?_⟩
  rcases h3 with h3 | h3
  · omega
  · exact h3
theorem vok_spec {mi pc idx len cm na : Nat} (h : vcode mi pc = some (.invokespecial idx, len, cm, na)) (hc : cm < 1000) : vlinkM (vown mi) idx (vy cm) ∧ vstat cm ∧ vkd cm = 2 ∧ 1 ≤ na ∧ na ≤ vmaxL cm ∧ vrk cm < vrk mi ∧ 8 + (vmaxL cm + 11) + vlo cm ≤ vlo mi ∧ (parseMethodDescriptor (vy cm).desc).map (fun d => d.parameters.length) = some (na - 1) := by
  obtain ⟨h1, -, h3⟩ := vchk h
  have e1 : (cm == 1000) = false := by simp; omega
  simp only [vokB, e1, Bool.false_eq_true, if_false, Bool.and_eq_true, beq_iff_eq, decide_eq_true_eq] at h1
  obtain ⟨-, ⟨⟨⟨⟨⟨⟨a1, a2⟩, a3⟩, a4⟩, a5⟩, a6⟩, a7⟩⟩ := h1
  simp only [vparB, Bool.or_eq_true, decide_eq_true_eq] at h3
  refine ⟨vml_ok _ (vmemB_ok a1), vids_stat a2, a3, a4, a5, a6, a7, ?_⟩
  rcases h3 with h3 | h3
  · omega
  · exact h3
end
section
/-! the small machine: cells are (tag, contents), a reference is a place in the list; tag 104 at place 0: the script -/
def vld (ls : vL) (i : Nat) : Option Value := match ls[i]? with
  | some (some v) => some v
  | _ => none
def vst (ls : vL) (i : Nat) (v : Value) : vL := ls.set i (some v)
def vcmp (c : Jvm.ClassFile.Cond) (x y : Int32) : Bool := match c with
  | .eq => decide (x = y)
  | .ne => decide (¬ x = y)
  | .lt => decide (x < y)
  | .ge => decide (y ≤ x)
  | .gt => decide (y < x)
  | .le => decide (x ≤ y)
def vfit (t k : Nat) (v : Value) : Bool := decide (narrow (vty t k) v = v) && fits (vty t k) v
def vtgt (pc : Nat) (off : Int) : Nat := ((pc : Int) + off).toNat
def vjump (pc : Nat) (off : Int) (ls : vL) (st : List Value) (h : vH) : Option vS := if 0 ≤ (pc : Int) + off then some (vtgt pc off, ls, st, h) else none
def vcpy (f g : List Value) (sp dp n : Nat) : List Value := g.take dp ++ (f.drop sp).take n ++ g.drop (dp + n)
/-- one step that is no call into the tables' methods and no return -/
def vstep (x : vI) (pc : Nat) (ls : vL) (st : List Value) (h : vH) : Option vS :=
  match x.1 with
  | .iconst n => some (pc + 1, ls, .int (Int32.ofInt n) :: st, h)
  | .bipush n => some (pc + 2, ls, .int (Int8.ofInt n).toInt32 :: st, h)
  | .sipush n => some (pc + 3, ls, .int (Int16.ofInt n).toInt32 :: st, h)
  | .ldc _ => some (pc + 2, ls, .int (Int32.ofNat x.2.2.1) :: st, h)
  | .ldc_w _ => some (pc + 3, ls, .int (Int32.ofNat x.2.2.1) :: st, h)
  | .aconst_null => some (pc + 1, ls, .null :: st, h)
  | .iload i => match vld ls i with
    | some (.int v) => some (pc + 2, ls, .int v :: st, h)
    | _ => none
  | .iload_n k => match vld ls k.val with
    | some (.int v) => some (pc + 1, ls, .int v :: st, h)
    | _ => none
  | .aload i => match vld ls i with
    | some (.ref v) => some (pc + 2, ls, .ref v :: st, h)
    | some .null => some (pc + 2, ls, .null :: st, h)
    | _ => none
  | .aload_n k => match vld ls k.val with
    | some (.ref v) => some (pc + 1, ls, .ref v :: st, h)
    | some .null => some (pc + 1, ls, .null :: st, h)
    | _ => none
  | .istore i => match st with
    | .int v :: r => if i < ls.length then some (pc + 2, vst ls i (.int v), r, h) else none
    | _ => none
  | .istore_n k => match st with
    | .int v :: r => if k.val < ls.length then some (pc + 1, vst ls k.val (.int v), r, h) else none
    | _ => none
  | .astore i => match st with
    | .ref v :: r => if i < ls.length then some (pc + 2, vst ls i (.ref v), r, h) else none
    | .null :: r => if i < ls.length then some (pc + 2, vst ls i .null, r, h) else none
    | _ => none
  | .astore_n k => match st with
    | .ref v :: r => if k.val < ls.length then some (pc + 1, vst ls k.val (.ref v), r, h) else none
    | .null :: r => if k.val < ls.length then some (pc + 1, vst ls k.val .null, r, h) else none
    | _ => none
  | .iinc i n => match vld ls i with
    | some (.int v) => some (pc + 3, vst ls i (.int (v + Int32.ofInt n)), st, h)
    | _ => none
  | .iadd => match st with
    | .int y :: .int x :: r => some (pc + 1, ls, .int (x + y) :: r, h)
    | _ => none
  | .isub => match st with
    | .int y :: .int x :: r => some (pc + 1, ls, .int (x - y) :: r, h)
    | _ => none
  | .imul => match st with
    | .int y :: .int x :: r => some (pc + 1, ls, .int (x * y) :: r, h)
    | _ => none
  | .iand => match st with
    | .int y :: .int x :: r => some (pc + 1, ls, .int (x &&& y) :: r, h)
    | _ => none
  | .ishr => match st with
    | .int y :: .int x :: r => some (pc + 1, ls, .int (x >>> (y &&& 31)) :: r, h)
    | _ => none
  | .idiv => match st with
    | .int y :: .int x :: r => if y = 0 then none else some (pc + 1, ls, .int (x / y) :: r, h)
    | _ => none
  | .irem => match st with
    | .int y :: .int x :: r => if y = 0 then none else some (pc + 1, ls, .int (x - x / y * y) :: r, h)
    | _ => none
  | .dup => match st with
    | .int v :: r => some (pc + 1, ls, .int v :: .int v :: r, h)
    | .ref v :: r => some (pc + 1, ls, .ref v :: .ref v :: r, h)
    | _ => none
  | .pop => match st with
    | .int _ :: r => some (pc + 1, ls, r, h)
    | .ref _ :: r => some (pc + 1, ls, r, h)
    | _ => none
  | .ifCond c off => match st with
    | .int v :: r => if vcmp c v 0 = true then vjump pc off ls r h else some (pc + 3, ls, r, h)
    | _ => none
  | .if_icmp c off => match st with
    | .int y :: .int v :: r => if vcmp c v y = true then vjump pc off ls r h else some (pc + 3, ls, r, h)
    | _ => none
  | .ifnull off => match st with
    | .ref _ :: r => some (pc + 3, ls, r, h)
    | .null :: r => vjump pc off ls r h
    | _ => none
  | .ifnonnull off => match st with
    | .ref _ :: r => vjump pc off ls r h
    | .null :: r => some (pc + 3, ls, r, h)
    | _ => none
  | .goto off => vjump pc off ls st h
  | .tableswitch d lo hi offs => match st with
    | .int v :: r => if v.toInt < lo ∨ hi < v.toInt then vjump pc d ls r h else match offs[(v.toInt - lo).toNat]? with
      | some off => vjump pc off ls r h
      | none => none
    | _ => none
  | .lookupswitch d ps => match st with
    | .int v :: r => if (ps.toList.zip (ps.toList.drop 1)).all (fun (a, next) => a.1 < next.1) = true then vjump pc (Op.lookupswitch.offset ps.toList d v.toInt) ls r h else none
    | _ => none
  | .getfield _ => match st with
    | .ref a :: r => match h[a]? with
      | some (t, l) => if t = x.2.2.1 then match l[x.2.2.2]? with
        | some v => some (pc + 3, ls, v :: r, h)
        | none => none
        else none
      | none => none
    | _ => none
  | .putfield _ => match st with
    | v :: .ref a :: r => match h[a]? with
      | some (t, l) => if t = x.2.2.1 ∧ x.2.2.2 < l.length ∧ vfit t x.2.2.2 v = true then some (pc + 3, ls, r, h.set a (t, l.set x.2.2.2 v)) else none
      | none => none
    | _ => none
  | .iaload => match st with
    | .int i :: .ref a :: r => match h[a]? with
      | some (t, l) => if (t = 100 ∨ t = 104) ∧ ¬ i < 0 then match l[i.toNatClampNeg]? with
        | some v => some (pc + 1, ls, v :: r, h)
        | none => none
        else none
      | none => none
    | _ => none
  | .baload => match st with
    | .int i :: .ref a :: r => match h[a]? with
      | some (t, l) => if t = 101 ∧ ¬ i < 0 then match l[i.toNatClampNeg]? with
        | some v => some (pc + 1, ls, v :: r, h)
        | none => none
        else none
      | none => none
    | _ => none
  | .aaload => match st with
    | .int i :: .ref a :: r => match h[a]? with
      | some (t, l) => if (t = 102 ∨ t = 103) ∧ ¬ i < 0 then match l[i.toNatClampNeg]? with
        | some v => some (pc + 1, ls, v :: r, h)
        | none => none
        else none
      | none => none
    | _ => none
  | .iastore => match st with
    | .int v :: .int i :: .ref a :: r => match h[a]? with
      | some (t, l) => if t = 100 ∧ ¬ i < 0 ∧ i.toNatClampNeg < l.length then some (pc + 1, ls, r, h.set a (t, l.set i.toNatClampNeg (.int v))) else none
      | none => none
    | _ => none
  | .bastore => match st with
    | .int v :: .int i :: .ref a :: r => match h[a]? with
      | some (t, l) => if t = 101 ∧ ¬ i < 0 ∧ i.toNatClampNeg < l.length then some (pc + 1, ls, r, h.set a (t, l.set i.toNatClampNeg (.int (v &&& 1)))) else none
      | none => none
    | _ => none
  | .aastore => match st with
    | .ref v :: .int i :: .ref a :: r => match h[a]?, h[v]? with
      | some (t, l), some (tv, _) => if (t = 102 ∨ t = 103) ∧ tv = vcomp t ∧ ¬ i < 0 ∧ i.toNatClampNeg < l.length then some (pc + 1, ls, r, h.set a (t, l.set i.toNatClampNeg (.ref v))) else none
      | _, _ => none
    | _ => none
  | .arraylength => match st with
    | .ref a :: r => match h[a]? with
      | some (t, l) => if 100 ≤ t ∧ t ≤ 104 then some (pc + 1, ls, .int (Int32.ofNat l.length) :: r, h) else none
      | none => none
    | _ => none
  | .new _ => some (pc + 3, ls, .ref h.length :: st, h ++ [(x.2.2.1, vdef x.2.2.1)])
  | .newarray t => match st with
    | .int n :: r => if ¬ n < 0 ∧ n.toNatClampNeg ≤ 100000 then match t with
      | .int => some (pc + 2, ls, .ref h.length :: r, h ++ [(100, List.replicate n.toNatClampNeg (.int 0))])
      | .boolean => some (pc + 2, ls, .ref h.length :: r, h ++ [(101, List.replicate n.toNatClampNeg (.int 0))])
      | _ => none
      else none
    | _ => none
  | .anewarray _ => match st with
    | .int n :: r => if (x.2.2.1 = 102 ∨ x.2.2.1 = 103) ∧ ¬ n < 0 ∧ n.toNatClampNeg ≤ 100000 then some (pc + 3, ls, .ref h.length :: r, h ++ [(x.2.2.1, List.replicate n.toNatClampNeg .null)]) else none
    | _ => none
  | .invokespecial _ => match st with
    | .ref _ :: r => if x.2.2.1 = 1000 ∧ r.length ≤ 4 then some (pc + 3, ls, r, h) else none
    | _ => none
  | .invokestatic _ => match st with
    | .int n :: .int dp :: .ref d :: .int sp :: .ref s0 :: r => if x.2.2.1 = 1001 ∧ r.length ≤ 4 then match h[s0]?, h[d]? with
      | some (ts, f), some (td, g) => if ts = 100 ∧ td = 100 ∧ ¬ sp < 0 ∧ ¬ dp < 0 ∧ ¬ n < 0 ∧ sp.toNatClampNeg + n.toNatClampNeg ≤ f.length ∧ dp.toNatClampNeg + n.toNatClampNeg ≤ g.length then some (pc + 3, ls, r, h.set d (td, vcpy f g sp.toNatClampNeg dp.toNatClampNeg n.toNatClampNeg)) else none
      | _, _ => none
      else none
    | .int y :: .int z :: r => if x.2.2.1 = 1002 ∧ r.length ≤ 4 then some (pc + 3, ls, .int (if y < z then y else z) :: r, h) else none
    | _ => none
  | _ => none
/-- 0: a step, 1: a return, 2: a call -/
def vkind (x : vI) : Nat := match x.1 with
  | .ireturn | .areturn | .return_ => 1
  | .invokevirtual _ | .invokestatic _ | .invokespecial _ => if 1000 ≤ x.2.2.1 then 0 else 2
  | _ => 0
def vretv (mi : Nat) (x : vI) (st : List Value) (h : vH) : Option (Option Value × vH) := match x.1, st with
  | .return_, [] => if vret mi = none then some (none, h) else none
  | .ireturn, [.int v] => match vret mi with
    | some .int => some (some (.int v), h)
    | some .boolean => if v &&& 1 = v then some (some (.int v), h) else none
    | _ => none
  | .areturn, [.ref v] => match vret mi with
    | some (.object _) => some (some (.ref v), h)
    | _ => none
  | .areturn, [.null] => match vret mi with
    | some (.object _) => some (some .null, h)
    | _ => none
  | _, _ => none
def vrecv (x : vI) (as : List Value) (h : vH) : Bool := match x.1, as with
  | .invokevirtual _, .ref a :: _ => match h[a]? with
    | some (t, _) => decide (t = vci x.2.2.1)
    | none => false
  | .invokespecial _, .ref _ :: _ => true
  | .invokestatic _, _ => true
  | _, _ => false
/-- the arguments (the receiver first) and the rest of the stack -/
def vcall (mi : Nat) (x : vI) (st : List Value) (h : vH) : Option (List Value × List Value) :=
  if x.2.2.2 ≤ st.length ∧ (st.drop x.2.2.2).length ≤ 4 ∧ vrk x.2.2.1 < vrk mi ∧ vrecv x (st.take x.2.2.2).reverse h = true ∧ (st.take x.2.2.2).all (fun v => v.category == 1) = true then some ((st.take x.2.2.2).reverse, st.drop x.2.2.2) else none
def vinit (mi : Nat) (as : List Value) : vL := as.map some ++ List.replicate (vmaxL mi - as.length) none
def vexec : Nat → Nat → Nat → vL → List Value → vH → Option (Option Value × vH)
  | 0, _, _, _, _, _ => none
  | f + 1, mi, pc, ls, st, h => match vcode mi pc with
    | none => none
    | some x => match vkind x with
      | 0 => match vstep x pc ls st h with
        | none => none
        | some y => vexec f mi y.1 y.2.1 y.2.2.1 y.2.2.2
      | 1 => vretv mi x st h
      | _ => match vcall mi x st h with
        | none => none
        | some (as, r) => match vexec f x.2.2.1 0 (vinit x.2.2.1 as) [] h with
          | none => none
          | some (v, h') => vexec f mi (pc + 3) ls (v.toList ++ r) h'
end
section
/-! the small machine's heap against the machine's heap -/
def vrho (sb b : Nat) : Nat → Nat
  | 0 => sb
  | k + 1 => b + k
def vsh (sb b : Nat) (v : Value) : Value := match v with
  | .ref a => .ref (vrho sb b a)
  | w => w
def vAt (D : va_G) (cA : Nat → ClassId) (sb b : Nat) (U : State) (k : Nat) (c : vC) (H : Heap) : Prop :=
  if c.1 < 50 then va_at D vcl (vrho sb b k, .inr (c.1, c.2.map (vsh sb b))) H ∧ ∀ q, vcl[c.1]? = some q → c.2.length = q.2.2
  else if c.1 = 104 then ∃ xs : List Int32, c.2 = xs.map Value.int ∧ va_X (vrho sb b k) xs.length (fun j => xs.getD j 0) U H
  else if c.1 < 102 then ∃ xs : List Int32, c.2 = xs.map Value.int ∧ H[vrho sb b k]? = some (arrV (cA c.1) xs.length (fun j => .int (xs.getD j 0)))
  else H[vrho sb b k]? = some (arrV (cA c.1) c.2.length (fun j => vsh sb b (c.2.getD j .null)))
def vHR (D : va_G) (cA : Nat → ClassId) (sb b : Nat) (U : State) (h : vH) (H : Heap) : Prop :=
  H.size + 1 = b + h.length ∧ sb < b ∧ 0 < h.length ∧ ∀ (k : Nat) (c : vC), h[k]? = some c → (k = 0 ↔ c.1 = 104) ∧ vAt D cA sb b U k c H
def vz (h : vH) : Nat := (h.map fun c => c.2.length).sum
theorem vrho_inj {sb b i j : Nat} (h : sb < b) (e : vrho sb b i = vrho sb b j) : i = j := by
  cases i <;> cases j <;> simp only [vrho] at e <;> omega
theorem vAt.kept {D : va_G} {cA : Nat → ClassId} {sb b : Nat} {U : State} {k : Nat} {c : vC} {H H1 : Heap} (h : vAt D cA sb b U k c H) (hq : H1[vrho sb b k]? = H[vrho sb b k]?) : vAt D cA sb b U k c H1 := by
  unfold vAt at h ⊢
  by_cases h1 : c.1 < 50
  · rw [if_pos h1] at h ⊢
    exact ⟨h.1.kept hq, h.2⟩
  · rw [if_neg h1] at h ⊢
    by_cases h2 : c.1 = 104
    · rw [if_pos h2] at h ⊢
      obtain ⟨xs, e, hx⟩ := h
      exact ⟨xs, e, hx.kept hq⟩
    · rw [if_neg h2] at h ⊢
      by_cases h3 : c.1 < 102
      · rw [if_pos h3] at h ⊢
        obtain ⟨xs, e, hx⟩ := h
        exact ⟨xs, e, by rw [hq]; exact hx⟩
      · rw [if_neg h3] at h ⊢
        rw [hq]; exact h
theorem vAt.moved {D : va_G} {cA : Nat → ClassId} {sb b : Nat} {U V : State} {k : Nat} {c : vC} {H : Heap} (hvm : U.vm.Alike V.vm) (h : vAt D cA sb b U k c H) : vAt D cA sb b V k c H := by
  unfold vAt at h ⊢
  by_cases h1 : c.1 < 50
  · rw [if_pos h1] at h ⊢
    exact h
  · rw [if_neg h1] at h ⊢
    by_cases h2 : c.1 = 104
    · rw [if_pos h2] at h ⊢
      obtain ⟨xs, e, hx⟩ := h
      exact ⟨xs, e, hx.moved hvm⟩
    · rw [if_neg h2] at h ⊢
      exact h
theorem vHR.moved {D : va_G} {cA : Nat → ClassId} {sb b : Nat} {U V : State} {h : vH} {H : Heap} (hvm : U.vm.Alike V.vm) (hh : vHR D cA sb b U h H) : vHR D cA sb b V h H :=
  ⟨hh.1, hh.2.1, hh.2.2.1, fun k c hk => ⟨(hh.2.2.2 k c hk).1, (hh.2.2.2 k c hk).2.moved hvm⟩⟩
theorem vHR.set {D : va_G} {cA : Nat → ClassId} {sb b : Nat} {U : State} {h : vH} {H H1 : Heap} {a t : Nat} {l l1 : List Value} (hh : vHR D cA sb b U h H) (ha : h[a]? = some (t, l)) (ht : t ≠ 104) (hz : H1.size = H.size) (hq : ∀ q : Nat, q ≠ vrho sb b a → H1[q]? = H[q]?) (hA : vAt D cA sb b U a (t, l1) H1) : vHR D cA sb b U (h.set a (t, l1)) H1 := by
  obtain ⟨e1, e2, e3, e4⟩ := hh
  have hlt : a < h.length := (List.getElem?_eq_some_iff.mp ha).1
  refine ⟨by rw [hz, List.length_set]; exact e1, e2, by rw [List.length_set]; exact e3, fun k c hk => ?_⟩
  by_cases hka : a = k
  · subst hka
    rw [List.getElem?_set_self hlt] at hk
    cases hk
    exact ⟨(e4 a _ ha).1, hA⟩
  · rw [List.getElem?_set_ne hka] at hk
    obtain ⟨g1, g2⟩ := e4 k c hk
    exact ⟨g1, g2.kept (hq _ (fun e => hka (vrho_inj e2 e).symm))⟩
theorem vrho_top {sb b n z : Nat} (h : z + 1 = b + n) (hn : 0 < n) : vrho sb b n = z := by
  cases n with
  | zero => omega
  | succ k => simp only [vrho]; omega
theorem vrho_lt {sb b n z k : Nat} (h : z + 1 = b + n) (hsb : sb < b) (hn : 0 < n) (hk : k < n) : vrho sb b k < z := by
  cases k <;> simp only [vrho] <;> omega
theorem vHR.push {D : va_G} {cA : Nat → ClassId} {sb b : Nat} {U : State} {h : vH} {H H1 : Heap} {c : vC} (hh : vHR D cA sb b U h H) (ht : c.1 ≠ 104) (hz : H1.size = H.size + 1) (hq : ∀ q : Nat, q < H.size → H1[q]? = H[q]?) (hA : vAt D cA sb b U h.length c H1) : vHR D cA sb b U (h ++ [c]) H1 := by
  obtain ⟨e1, e2, e3, e4⟩ := hh
  refine ⟨by simp only [List.length_append, List.length_singleton]; omega, e2, by simp, fun k c' hk => ?_⟩
  by_cases hl : k < h.length
  · rw [List.getElem?_append_left hl] at hk
    obtain ⟨g1, g2⟩ := e4 k c' hk
    exact ⟨g1, g2.kept (hq _ (vrho_lt e1 e2 e3 hl))⟩
  · rw [List.getElem?_append_right (by omega)] at hk
    have hz : k - h.length < 1 := (List.getElem?_eq_some_iff.mp hk).1
    have hk0 : k = h.length := by omega
    subst hk0
    simp at hk
    subst hk
    exact ⟨⟨fun e => by omega, fun e => absurd e ht⟩, hA⟩
theorem vz_push (h : vH) (c : vC) : vz (h ++ [c]) = vz h + c.2.length := by simp [vz]
theorem vz_set (h : vH) (a : Nat) (c d : vC) (ha : h[a]? = some c) (e : d.2.length = c.2.length) : vz (h.set a d) = vz h := by
  unfold vz
  rw [List.map_set]
  have hc : (h.map fun c => c.2.length)[a]? = some d.2.length := by rw [List.getElem?_map, ha, e]; rfl
  congr 1
  apply List.ext_getElem?
  intro i
  by_cases hi : a = i
  · subst hi
    have hlt : a < (h.map fun c => c.2.length).length := (List.getElem?_eq_some_iff.mp hc).1
    rw [List.getElem?_set_self hlt, hc]
  · rw [List.getElem?_set_ne hi]
theorem varr_congr {cI : ClassId} {N : Nat} {f g : Nat → Value} (h : ∀ j, j < N → f j = g j) : arrV cI N f = arrV cI N g := by
  unfold arrV
  congr 1
  apply congrArg
  funext j
  exact h j.val j.isLt
/-- the locals -/
def vLs (sb b : Nat) (ars : Array Slot) (ls : vL) (nL : Nat) : Prop := ars.size = nL ∧ ls.length = nL ∧ lv_wf ars ∧ ∀ (i : Nat) (v : Value), ls[i]? = some (some v) → ars[i]? = some (.val (vsh sb b v)) ∧ v.category = 1
theorem vsh_cat (sb b : Nat) (v : Value) : (vsh sb b v).category = v.category := by cases v <;> rfl
def vas (sb b : Nat) (ls : vL) : List (Nat × Value) := (List.range ls.length).filterMap fun i => (vld ls i).map fun v => (i, vsh sb b v)
theorem vld_some {ls : vL} {i : Nat} {v : Value} : vld ls i = some v ↔ ls[i]? = some (some v) := by
  unfold vld
  split
  · rename_i w hw
    rw [hw]
    simp
  · rename_i hw
    constructor
    · intro h; cases h
    · intro h; exact absurd h (hw v)
theorem vas_mem {sb b : Nat} {ls : vL} {q : Nat × Value} : q ∈ vas sb b ls ↔ ∃ v, ls[q.1]? = some (some v) ∧ q.2 = vsh sb b v := by
  unfold vas
  rw [List.mem_filterMap]
  constructor
  · rintro ⟨i, -, hi⟩
    rw [Option.map_eq_some_iff] at hi
    obtain ⟨v, h1, rfl⟩ := hi
    exact ⟨v, vld_some.mp h1, rfl⟩
  · rintro ⟨v, h1, h2⟩
    refine ⟨q.1, List.mem_range.mpr (List.getElem?_eq_some_iff.mp h1).1, ?_⟩
    rw [vld_some.mpr h1]
    obtain ⟨q1, q2⟩ := q
    simp only at h2
    rw [h2]
    rfl
theorem vLs.has {sb b : Nat} {ars : Array Slot} {ls : vL} {nL : Nat} (h : vLs sb b ars ls nL) : lv_has ars nL (vas sb b ls) := by
  refine ⟨h.1, h.2.2.1, fun q hq => ?_⟩
  obtain ⟨v, h1, h2⟩ := vas_mem.mp hq
  rw [h2]
  exact (h.2.2.2 _ _ h1).1
theorem vLs.get {sb b : Nat} {ars : Array Slot} {ls : vL} {nL i : Nat} {v : Value} (h : vLs sb b ars ls nL) (hv : vld ls i = some v) : ars[i]? = some (.val (vsh sb b v)) := (h.2.2.2 i v (vld_some.mp hv)).1
theorem vLs.back {sb b : Nat} {ars ars1 : Array Slot} {ls : vL} {nL i : Nat} {v : Value} (h : vLs sb b ars ls nL) (hc : v.category = 1) (hi : i < ls.length)
    (h1 : lv_has ars1 nL ((i, vsh sb b v) :: (vas sb b ls).filter (fun q => !(q.1 == i) && !(q.1 + 1 == i && q.2.category == 2)))) : vLs sb b ars1 (vst ls i v) nL := by
  refine ⟨h1.1, by unfold vst; rw [List.length_set]; exact h.2.1, h1.2.1, fun j w hj => ?_⟩
  unfold vst at hj
  by_cases hji : i = j
  · subst hji
    rw [List.getElem?_set_self hi] at hj
    cases hj
    exact ⟨h1.2.2 (i, vsh sb b v) List.mem_cons_self, hc⟩
  · rw [List.getElem?_set_ne hji] at hj
    obtain ⟨g1, g2⟩ := h.2.2.2 j w hj
    refine ⟨h1.2.2 (j, vsh sb b w) (List.mem_cons_of_mem _ (List.mem_filter.mpr ⟨vas_mem.mpr ⟨w, hj, rfl⟩, ?_⟩)), g2⟩
    have e1 : (j == i) = false := by simp; omega
    have e2 : ((vsh sb b w).category == 2) = false := by rw [vsh_cat, g2]; rfl
    simp only [e1, e2, Bool.and_false, Bool.not_false, Bool.and_self]
theorem vas_at {sb b : Nat} {ls : vL} {i : Nat} {v : Value} (h : vld ls i = some v) : ∃ k : Nat, (vas sb b ls)[k]? = some (i, vsh sb b v) :=
  List.mem_iff_getElem?.mp (vas_mem.mpr ⟨v, vld_some.mp h, rfl⟩)
end
section
/-! writes that keep all other cells -/
section VPUT
variable {p : Program} {l : Launch} {e : Env} {R : Room} {s : State} {m : MethodId} {args : Array Value} {below : List Frame} {meth : Method} {c : Code} {H : Heap} {locs : List Loc} {cells slots : Nat} {Q : State → Prop}
variable {cc : ByteArray} {pc : Nat} {ls : Array Slot} {rest : List Value} {D : va_G} {cl : List vw_C} {A : Nat → Prop} {a : Nat} {tys : List (ClassId × FieldType)} {H0 : Heap}
theorem va_one {D : va_G} {cl : List vw_C} {q : Nat × va_E} {H : Heap} (h : va_at D cl q H) : va_P D cl [q] H := by
  intro k q1 hk
  have hz : k < 1 := (List.getElem?_eq_some_iff.mp hk).1
  rw [show k = 0 by omega] at hk
  cases hk
  exact h
theorem vput (hexec : p.tables.exec = Jvm.exec) (hb : c.code = cc) {own C : String} {T : u_T} {N ci index : Nat} {Ts : List Cond} (hts : ∀ w ∈ Ts, w.before args s = true) (hin : ∀ w ∈ u_ws C T N, w ∈ Ts) (ty0 : Nat → FieldType) (hty : ∀ k, k < N → parseFieldDescriptor (T k).2.2.1 = some (ty0 k)) (hnm : ∀ a, a < N → ∀ b, b < N → a ≠ b → (T a).2.1 ≠ (T b).2.1) (hown : s.vm.findClass own = some m.cls) (hK : va_K D cl tys s) {fs : List Value} (he : va_at D cl (a, .inr (ci, fs)) H) (hS0 : va_S A H0 H locs) (hAa : A a) (hc : cl[ci]? = some (C, T, N)) (k : Nat) (hk : k < N) (hlink : (Cond.fieldLink own index (T k).1 (T k).2.1 (T k).2.2.1).before args s = true ∨ ∃ host, (Cond.fieldLinkNest own index (T k).1 (T k).2.1 (T k).2.2.1 host).before args s = true) (hfin : (T k).2.2.2 = false) {ty : FieldType} {v : Value} (hd : parseFieldDescriptor (T k).2.2.1 = some ty) (hn : narrow ty v = v) (hfit : fits ty v = true) (hl : k < fs.length)
    (hdg : decode cc pc = .ok (.putfield index, 3)) (kk : ∀ (H1 : Heap) (locs1 : List Loc), va_at D cl (a, .inr (ci, fs.set k v)) H1 → H1.size = H.size → (∀ q : Nat, q ≠ a → H1[q]? = H[q]?) → va_S A H0 H1 locs1 → W p l e R s m args below meth c H1 locs1 cells slots Q (F0 m (pc + 3) ls rest)) : W p l e R s m args below meth c H locs cells slots Q (F0 m pc ls (v :: .ref a :: rest)) := by
  have hap := va_apart (own := own) hts hin ty0 hty hnm hK hc
  obtain ⟨r, h1, cell, q1, q2, q3, q4⟩ := he
  have hr : r = (C, T, N) := Option.some.inj (h1.symm.trans hc)
  subst hr
  obtain ⟨hS, hfc, kC, hkC, hkind⟩ := hK.1 ci _ hc
  obtain ⟨cf, kf, fi, f, hi, hsl⟩ := hS k hk
  have hlay := hts _ (hin _ (u_in_lay hk))
  unfold u_lay at hlay
  rw [if_neg (by rw [hfin]; decide)] at hlay
  have hst := (u_facts hfc hkC (u_lays hts hin hk) hi).1
  have h6 := u_store hfc hkC hkind hlay hi hd hn hfit
  rcases hlink with hlink | ⟨host, hlink⟩
  · refine W.putK hexec hb (f := f) ⟨hown, hlink, ⟨_, _, _, hi⟩, hst⟩ (by rw [q2]; exact h6) q1 q3 (by rw [hsl]; exact k2_hasslot (q4 k hk)) rfl rfl hdg fun H' e1 e2 e3 => ?_
    rw [hsl] at e1 ⊢
    exact kk H' _ ⟨_, hc, t_OB.to (V := updV (vp_V fs) k v) ⟨_, e1, q2, q3, t_set q4 hap hk v⟩ (fun j _ => vp_updV_set hl v j)⟩ e2 e3 (hS0.put e2 e3 hAa)
  · refine va_WputK hexec hb (f := f) hown hlink hi hst (by rw [q2]; exact h6) q1 q3 (by rw [hsl]; exact k2_hasslot (q4 k hk)) rfl rfl hdg fun H' e1 e2 e3 => ?_
    rw [hsl] at e1 ⊢
    exact kk H' _ ⟨_, hc, t_OB.to (V := updV (vp_V fs) k v) ⟨_, e1, q2, q3, t_set q4 hap hk v⟩ (fun j _ => vp_updV_set hl v j)⟩ e2 e3 (hS0.put e2 e3 hAa)
theorem vputF (hexec : p.tables.exec = Jvm.exec) (hb : c.code = cc) {own C : String} {T : u_T} {N ci index : Nat} {Ts : List Cond} (hts : ∀ w ∈ Ts, w.before args s = true) (hin : ∀ w ∈ u_ws C T N, w ∈ Ts) (ty0 : Nat → FieldType) (hty : ∀ k, k < N → parseFieldDescriptor (T k).2.2.1 = some (ty0 k)) (hnm : ∀ a, a < N → ∀ b, b < N → a ≠ b → (T a).2.1 ≠ (T b).2.1) (hown : s.vm.findClass own = some m.cls) (hK : va_K D cl tys s) {fs : List Value} (he : va_at D cl (a, .inr (ci, fs)) H) (hS0 : va_S A H0 H locs) (hAa : A a) (hc : cl[ci]? = some (C, T, N)) (k : Nat) (hk : k < N) (hlink : (Cond.fieldLink own index (T k).1 (T k).2.1 (T k).2.2.1).before args s = true ∨ ∃ host, (Cond.fieldLinkNest own index (T k).1 (T k).2.1 (T k).2.2.1 host).before args s = true) (hfin : (T k).2.2.2 = true) (hin2 : meth.name = "<init>") (hdecl : (T k).1 = own) {ty : FieldType} {v : Value} (hd : parseFieldDescriptor (T k).2.2.1 = some ty) (hn : narrow ty v = v) (hfit : fits ty v = true) (hl : k < fs.length)
    (hdg : decode cc pc = .ok (.putfield index, 3)) (kk : ∀ (H1 : Heap) (locs1 : List Loc), va_at D cl (a, .inr (ci, fs.set k v)) H1 → H1.size = H.size → (∀ q : Nat, q ≠ a → H1[q]? = H[q]?) → va_S A H0 H1 locs1 → W p l e R s m args below meth c H1 locs1 cells slots Q (F0 m (pc + 3) ls rest)) : W p l e R s m args below meth c H locs cells slots Q (F0 m pc ls (v :: .ref a :: rest)) := by
  have hap := va_apart (own := own) hts hin ty0 hty hnm hK hc
  obtain ⟨r, h1, cell, q1, q2, q3, q4⟩ := he
  have hr : r = (C, T, N) := Option.some.inj (h1.symm.trans hc)
  subst hr
  obtain ⟨hS, hfc, kC, hkC, hkind⟩ := hK.1 ci _ hc
  obtain ⟨cf, kf, fi, f, hi, hsl⟩ := hS k hk
  have hlay := hts _ (hin _ (u_in_lay hk))
  unfold u_lay at hlay
  rw [if_pos hfin] at hlay
  have hst := (u_facts hfc hkC (u_lays hts hin hk) hi).1
  have hcf : m.cls = cf := by
    obtain ⟨_, _, c', _, _, _, -, -, hf', -, -, -, hown2, -⟩ := Cond.laysFinal_spec hlay
    have e1 : c' = cf := by have := hi.symm.trans hf'; simp at this; exact this.1.symm
    rw [hdecl] at hown2
    rw [← e1]; exact Option.some.inj (hown.symm.trans hown2)
  have h6 := u_fits hfc hkC hkind (Or.inr hlay) hi hd hn hfit
  have ha : a < H.size := (Array.getElem?_eq_some_iff.mp q1).1
  rcases hlink with hlink | ⟨host, hlink⟩
  · refine W.putFinK hexec hb hown hlink hi hst hcf hin2 (by rw [q2]; exact h6) q1 q3 (by rw [hsl]; exact k2_hasslot (q4 k hk)) rfl rfl hdg fun H' e1 e2 e3 => ?_
    rw [hsl] at e1 ⊢
    exact kk H' _ ⟨_, hc, t_OB.to (V := updV (vp_V fs) k v) ⟨_, e1, q2, q3, t_set q4 hap hk v⟩ (fun j _ => vp_updV_set hl v j)⟩ e2 e3 (hS0.put e2 e3 hAa)
  · refine va_Wputf hexec hb hown hlink hi hst (Or.inr ⟨hcf, hin2⟩) q1 (by rw [q3]; exact fun h => by cases h) (by rw [hsl]; exact k2_hasslot (q4 k hk)) h6.1 (by rw [q2, q3]; exact h6.2) rfl rfl hdg ?_
    rw [hsl]
    have e3 : ∀ q : Nat, q ≠ a → (H.setIfInBounds a (cell.setSlot (D.2 ci k) v))[q]? = H[q]? := fun q hq => by simp [Array.getElem?_setIfInBounds, Ne.symm hq]
    have e1 : (H.setIfInBounds a (cell.setSlot (D.2 ci k) v))[a]? = some (cell.setSlot (D.2 ci k) v) := by simp [Array.getElem?_setIfInBounds, ha]
    exact kk _ _ ⟨_, hc, t_OB.to (V := updV (vp_V fs) k v) ⟨_, e1, q2, q3, t_set q4 hap hk v⟩ (fun j _ => vp_updV_set hl v j)⟩ (by simp) e3 (hS0.put (by simp) e3 hAa)
theorem vcopy (hexec : p.tables.exec = Jvm.exec) (hb : c.code = cc) (hml : c.maxLocals = ls.size) {own : String} {index : Nat} (hown : s.vm.findClass own = some m.cls) (hlink : (Cond.methodLink own index arraycopyName).before args s = true) (hnat : (Cond.native arraycopyName).before args s = true) (hstat : (Cond.static arraycopyName).before args s = true) (hini : (Cond.initialized "java/lang/System").before args s = true)
    {a0 : Nat} {cI : ClassId} (hK : ArrOfT s cI .int) {n0 n1 : Nat} {f g : Nat → Int32} (hc0 : H[a0]? = some (arrV cI n0 (fun j => .int (f j)))) (hc1 : H[a]? = some (arrV cI n1 (fun j => .int (g j)))) (hS : va_S A H0 H locs) (hAa : A a)
    {sp dp n : Int32} (h1 : ¬ sp < 0) (h2 : ¬ dp < 0) (h3 : ¬ n < 0) (h4 : sp.toNatClampNeg + n.toNatClampNeg ≤ n0) (h5 : dp.toNatClampNeg + n.toNatClampNeg ≤ n1)
    (hframes : 1 ≤ R.frames) (hlocals : (rest.map fun v => v.category).sum + (nativeFrameWords "java/lang/System" "arraycopy" 5 + 11) ≤ R.locals) (hdg : decode cc pc = .ok (.invokestatic index, 3))
    (kk : ∀ (H1 : Heap) (locs1 : List Loc), H1[a]? = some (arrV cI n1 (fun j => .int (va_cpy f g sp.toNatClampNeg dp.toNatClampNeg n.toNatClampNeg j))) → H1.size = H.size → (∀ q : Nat, q ≠ a → H1[q]? = H[q]?) → va_S A H0 H1 locs1 → W p l e R s m args below meth c H1 locs1 cells slots Q (F0 m (pc + 3) ls rest)) : W p l e R s m args below meth c H locs cells slots Q (F0 m pc ls (.int n :: .int dp :: .ref a :: .int sp :: .ref a0 :: rest)) := by
  have nn : ∀ z : Int32, ¬ z < 0 → z.toInt = (z.toNatClampNeg : Int) := by
    intro z hz
    have hz0 : (0 : Int) ≤ z.toInt := by
      have := Int32.not_lt.mp hz
      simpa using Int32.le_iff_toInt_le.mp this
    show z.toInt = ((z.toInt.toNat : Nat) : Int)
    omega
  intro T hT X
  obtain ⟨-, k0, hk0, cm0, hkk0⟩ := hK n0 (fun j => .int (f j))
  obtain ⟨-, k1, hk1, cm1, hkk1⟩ := hK n1 (fun j => .int (g j))
  obtain ⟨vm', X', step⟩ := X.arraycopy hexec hown hlink hnat hstat hini (src := a0) (dst := a) (cs := arrV cI n0 (fun j => .int (f j))) (cd := arrV cI n1 (fun j => .int (g j))) (srcPos := sp) (destPos := dp) (n := n) (by rw [hT]; exact hc0) (by rw [hT]; exact hc1)
    (fun _ h => by cases h) (fun _ h => by cases h) (fun h => by cases h) (fun h => by cases h) hk0 hk1 hkk0 hkk1 (by simp [refKind]) h1 h2 h3
    (by rw [nn sp h1, nn n h3, arrV_size]; omega)
    (by rw [nn dp h2, nn n h3, arrV_size]; omega)
    (fun vm₁ _ i hi => by
      have e : (arrV cI n0 (fun j => .int (f j))).slots.getD (sp.toNatClampNeg + i) .null = .int (f (sp.toNatClampNeg + i)) := by
        rw [Array.getD_eq_getD_getElem?, arrV_read _ _ (by omega)]
        rfl
      refine ⟨?_, ?_⟩
      · rw [e]
        rfl
      · rw [e]
        exact trivial)
    (g := F0 m pc ls (.int n :: .int dp :: .ref a :: .int sp :: .ref a0 :: rest)) rfl (by rw [hml]) (rest := rest) rfl (by rw [hb]; exact hdg) hframes (by show 2 * 0 + _ + _ ≤ _; omega)
  have e1 : copied (arrV cI n0 (fun j => .int (f j))) (arrV cI n1 (fun j => .int (g j))) sp dp n = arrV cI n1 (fun j => .int (va_cpy f g sp.toNatClampNeg dp.toNatClampNeg n.toNatClampNeg j)) := va_copied (fun z => .int z) cI cI f g h4
  rw [e1] at X' step
  have hl : a < H.size := (Array.getElem?_eq_some_iff.mp hc1).1
  have hheap : ((T.setVm vm').setCell a (arrV cI n1 (fun j => .int (va_cpy f g sp.toNatClampNeg dp.toNatClampNeg n.toNatClampNeg j)))).heap = H.setIfInBounds a (arrV cI n1 (fun j => .int (va_cpy f g sp.toNatClampNeg dp.toNatClampNeg n.toNatClampNeg j))) := by rw [← hT]; rfl
  have oq : ∀ q : Nat, q ≠ a → (H.setIfInBounds a (arrV cI n1 (fun j => .int (va_cpy f g sp.toNatClampNeg dp.toNatClampNeg n.toNatClampNeg j))))[q]? = H[q]? := fun q hq => by simp [Array.getElem?_setIfInBounds, Ne.symm hq]
  obtain ⟨t, a1, b1⟩ := kk _ _ (show (H.setIfInBounds a _)[a]? = some _ by simp [Array.getElem?_setIfInBounds, hl]) (by simp) oq ⟨by simp; exact hS.1, fun q g1 g2 => by
      rw [oq q (fun e => g2 (by rw [e]; exact hAa))]
      exact hS.2.1 q g1 g2, fun q hq => by
      rcases List.mem_append.mp hq with h | h
      · exact hS.2.2 q h
      · obtain ⟨z, -, hz⟩ := List.mem_map.mp h
        rw [← hz]
        exact hAa⟩ _ hheap X'
  exact ⟨t, step t a1, b1⟩
end VPUT
end
section
/-! one step of the small machine is one step of the machine -/
def vtys (cA : Nat → ClassId) : List (ClassId × FieldType) := [(cA 100, .int), (cA 101, .boolean), (cA 102, .object (vcn 102)), (cA 103, .object (vcn 103))]
def vKn (D : va_G) (cA : Nat → ClassId) (U : State) : Prop := va_K D vcl (vtys cA) U ∧ (∀ w ∈ lw_tbl, vnest w = true → va_Nw w U) ∧ va_AO (vcn 102) U ∧ va_AO (vcn 103) U
theorem vKn.warm {D : va_G} {cA : Nat → ClassId} {s U : State} (hW : s.WarmedH U.vm) (h : vKn D cA s) : vKn D cA U := by
  refine ⟨va_K.moved hW.alike h.1, fun w hw hn => ?_, h.2.2.1.moved hW.alike, h.2.2.2.moved hW.alike⟩
  have h1 := h.2.1 w hw hn
  cases w <;> first | exact va_Nw.warmF hW h1 | exact va_Nw.warmM hW h1 | (simp [vnest] at hn; done)
def vCx (D : va_G) (cA : Nat → ClassId) (mi : Nat) (p : Program) (R : Room) (s : State) (m : MethodId) (args : Array Value) (meth : Method) (c : Code) : Prop :=
  p.tables.exec = Jvm.exec ∧ c.code = vbytes mi ∧ c.maxLocals = vmaxL mi ∧ s.vm.findClass (vown mi) = some m.cls ∧ (∀ w ∈ vWS, w.before args s = true) ∧ vKn D cA s ∧ vrk mi ≤ R.frames ∧ vlo mi ≤ R.locals ∧ (vkd mi = 2 → meth.name = "<init>")
abbrev vFr (b : Nat) : Nat → Prop := fun q => b ≤ q
section VSTEP
variable {p : Program} {l : Launch} {e : Env} {R : Room} {s : State} {m : MethodId} {args : Array Value} {below : List Frame} {meth : Method} {c : Code} {H : Heap} {locs : List Loc} {cells slots : Nat} {Q : State → Prop}
variable {D : va_G} {cA : Nat → ClassId} {sb b mi pc : Nat} {ls : vL} {st : List Value} {h : vH} {ars : Array Slot} {H0 : Heap}
theorem vat_obj {k t : Nat} {fs : List Value} (ha : vAt D cA sb b s k (t, fs) H) (ht : t < 50) : va_at D vcl (vrho sb b k, .inr (t, fs.map (vsh sb b))) H ∧ ∀ q, vcl[t]? = some q → fs.length = q.2.2 := by
  unfold vAt at ha
  rw [if_pos ht] at ha
  exact ha
theorem vat_int {k t : Nat} {fs : List Value} (ha : vAt D cA sb b s k (t, fs) H) (ht : t = 100 ∨ t = 101) : ∃ xs : List Int32, fs = xs.map Value.int ∧ H[vrho sb b k]? = some (arrV (cA t) xs.length (fun j => .int (xs.getD j 0))) := by
  unfold vAt at ha
  rw [if_neg (by simp only; omega), if_neg (by simp only; omega), if_pos (by simp only; omega)] at ha
  exact ha
theorem vat_scr {k : Nat} {fs : List Value} (ha : vAt D cA sb b s k (104, fs) H) : ∃ xs : List Int32, fs = xs.map Value.int ∧ va_X (vrho sb b k) xs.length (fun j => xs.getD j 0) s H := by
  unfold vAt at ha
  rw [if_neg (by simp only; omega), if_pos rfl] at ha
  exact ha
theorem vat_ref {k t : Nat} {fs : List Value} (ha : vAt D cA sb b s k (t, fs) H) (ht : t = 102 ∨ t = 103) : H[vrho sb b k]? = some (arrV (cA t) fs.length (fun j => vsh sb b (fs.getD j .null))) := by
  unfold vAt at ha
  rw [if_neg (by simp only; omega), if_neg (by simp only; omega), if_neg (by simp only; omega)] at ha
  exact ha
theorem vlinkF_use {own : String} {idx : Nat} {q : vw_C} {k : Nat} (hts : ∀ w ∈ vWS, w.before args s = true) (hK : vKn D cA s) (h : vlinkF own idx q k) : (Cond.fieldLink own idx (q.2.1 k).1 (q.2.1 k).2.1 (q.2.1 k).2.2.1).before args s = true ∨ ∃ host, (Cond.fieldLinkNest own idx (q.2.1 k).1 (q.2.1 k).2.1 (q.2.1 k).2.2.1 host).before args s = true := by
  rcases h with h | ⟨host, h⟩
  · exact Or.inl (hts _ h)
  · exact Or.inr ⟨host, va_Nw.use rfl (hK.2.1 _ h rfl)⟩
end VSTEP
end
section
section VSND
variable {p : Program} {l : Launch} {e : Env} {R : Room} {s : State} {m : MethodId} {args : Array Value} {below : List Frame} {meth : Method} {c : Code} {H : Heap} {locs : List Loc} {cells slots : Nat} {Q : State → Prop}
variable {D : va_G} {cA : Nat → ClassId} {sb b mi pc : Nat} {ls : vL} {st : List Value} {h : vH} {ars : Array Slot} {H0 : Heap}
/-- what a step must give -/
abbrev vGo (p : Program) (l : Launch) (e : Env) (R : Room) (s : State) (m : MethodId) (args : Array Value) (below : List Frame) (meth : Method) (c : Code) (Q : State → Prop) (D : va_G) (cA : Nat → ClassId) (sb b mi : Nat) (H0 : Heap) (cells slots : Nat) (h : vH) (y : vS) : Prop :=
  ∀ (H1 : Heap) (locs1 : List Loc) (ars1 : Array Slot) (cells1 slots1 : Nat), cells1 = cells + (y.2.2.2.length - h.length) → slots1 = slots + (vz y.2.2.2 - vz h) → vLs sb b ars1 y.2.1 (vmaxL mi) → vHR D cA sb b s y.2.2.2 H1 → va_S (vFr b) H0 H1 locs1 → W p l e R s m args below meth c H1 locs1 cells1 slots1 Q (F0 m y.1 ars1 (y.2.2.1.map (vsh sb b)))
theorem vgo_same {pc1 : Nat} {ls1 : vL} {st1 : List Value} (kk : vGo p l e R s m args below meth c Q D cA sb b mi H0 cells slots h (pc1, ls1, st1, h)) (hHR : vHR D cA sb b s h H) (hS : va_S (vFr b) H0 H locs) {ars1 : Array Slot} (hL : vLs sb b ars1 ls1 (vmaxL mi)) : W p l e R s m args below meth c H locs cells slots Q (F0 m pc1 ars1 (st1.map (vsh sb b))) :=
  kk H locs ars1 cells slots (by simp) (by simp) hL hHR hS
theorem vjump_some {off : Int} {r : List Value} {y : vS} (hs : vjump pc off ls r h = some y) : (pc : Int) + off = (vtgt pc off : Nat) ∧ y = (vtgt pc off, ls, r, h) := by
  unfold vjump at hs
  split at hs
  · rename_i h0
    refine ⟨?_, (Option.some.inj hs).symm⟩
    unfold vtgt
    omega
  · cases hs
theorem vcat_sum (sb b : Nat) {r : List Value} (hr : r.length ≤ 4) : ((r.map (vsh sb b)).map fun v => v.category).sum ≤ 8 := by
  have h2 : ∀ (r : List Value), ((r.map (vsh sb b)).map fun v => v.category).sum ≤ 2 * r.length := by
    intro r
    induction r with
    | nil => simp
    | cons a r ih =>
      simp only [List.map_cons, List.sum_cons, List.length_cons]
      have : (vsh sb b a).category ≤ 2 := by cases a <;> simp [vsh, Value.category]
      omega
  have := h2 r
  omega
theorem vset_int (xs : List Int32) (i : Nat) (v : Int32) : (xs.map Value.int).set i (.int v) = (xs.set i v).map Value.int := by rw [List.map_set]
theorem vupd_int {cI : ClassId} {xs : List Int32} {i : Nat} {v : Int32} : (arrV cI xs.length (fun j => .int (xs.getD j 0))).setSlot i (.int v) = arrV cI (xs.set i v).length (fun j => .int ((xs.set i v).getD j 0)) := by
  rw [arrV_store, List.length_set]
  apply varr_congr
  intro j hj
  unfold updV
  by_cases hji : j = i
  · subst hji
    rw [if_pos rfl, List.getD_eq_getElem?_getD, List.getElem?_set_self hj]
    rfl
  · rw [if_neg hji]
    show Value.int (xs.getD j 0) = _
    rw [List.getD_eq_getElem?_getD, List.getD_eq_getElem?_getD, List.getElem?_set_ne (fun q => hji q.symm)]
theorem vat_mk_int {k t : Nat} {xs : List Int32} (ht : t = 100 ∨ t = 101) (hh : H[vrho sb b k]? = some (arrV (cA t) xs.length (fun j => .int (xs.getD j 0)))) : vAt D cA sb b s k (t, xs.map Value.int) H := by
  unfold vAt
  rw [if_neg (by simp only; omega), if_neg (by simp only; omega), if_pos (by simp only; omega)]
  exact ⟨xs, rfl, hh⟩
theorem vat_mk_ref {k t : Nat} {fs : List Value} (ht : t = 102 ∨ t = 103) (hh : H[vrho sb b k]? = some (arrV (cA t) fs.length (fun j => vsh sb b (fs.getD j .null)))) : vAt D cA sb b s k (t, fs) H := by
  unfold vAt
  rw [if_neg (by simp only; omega), if_neg (by simp only; omega), if_neg (by simp only; omega)]
  exact hh
theorem vrho_fr {k : Nat} (hk : k ≠ 0) : vFr b (vrho sb b k) := by
  cases k with
  | zero => exact absurd rfl hk
  | succ k => exact Nat.le_add_right _ _
set_option maxHeartbeats 4000000 in
theorem vsnd_get {idx r1 r2 : Nat} {y : vS} (C : vCx D cA mi p R s m args meth c) (hcode : vcode mi pc = some (.getfield idx, 3, r1, r2)) (hs : vstep (.getfield idx, 3, r1, r2) pc ls st h = some y) (hL : vLs sb b ars ls (vmaxL mi)) (hHR : vHR D cA sb b s h H) (hS : va_S (vFr b) H0 H locs) (kk : vGo p l e R s m args below meth c Q D cA sb b mi H0 cells slots h y) : W p l e R s m args below meth c H locs cells slots Q (F0 m pc ars (st.map (vsh sb b))) := by
  obtain ⟨hx, hb, hml, hown, hts, hK, -⟩ := C
  obtain ⟨q, hq, hk, hlk⟩ := vok_get hcode
  simp only [vstep] at hs
  split at hs
  · rename_i a r
    split at hs
    · rename_i t fs hfs
      split at hs
      · rename_i ht
        split at hs
        · rename_i v hv
          cases hs
          subst ht
          have ht50 : t < 50 := vcl_lt hq
          have hat := (vat_obj (hHR.2.2.2 a _ hfs).2 ht50).1
          have hv' : (fs.map (vsh sb b))[r2]? = some (vsh sb b v) := by rw [List.getElem?_map, hv]; rfl
          rcases vlinkF_use hts hK hlk with hl | ⟨host, hl⟩
          · exact va_get (T := q.2.1) (N := q.2.2) (C := q.1) hx hb hts (vcl_in hq) hown hK.1 (va_one hat) 0 rfl hq r2 hk hl (fun _ h9 => h9) hv' (vdec hcode) (vgo_same kk hHR hS hL)
          · exact va_getN (T := q.2.1) (N := q.2.2) (C := q.1) hx hb hts (vcl_in hq) hown hK.1 (va_one hat) 0 rfl hq r2 hk hl (fun _ h9 => h9) hv' (vdec hcode) (vgo_same kk hHR hS hL)
        · cases hs
      · cases hs
    · cases hs
  · cases hs
set_option maxHeartbeats 4000000 in
theorem vsnd_put {idx r1 r2 : Nat} {y : vS} (C : vCx D cA mi p R s m args meth c) (hcode : vcode mi pc = some (.putfield idx, 3, r1, r2)) (hs : vstep (.putfield idx, 3, r1, r2) pc ls st h = some y) (hL : vLs sb b ars ls (vmaxL mi)) (hHR : vHR D cA sb b s h H) (hS : va_S (vFr b) H0 H locs) (kk : vGo p l e R s m args below meth c Q D cA sb b mi H0 cells slots h y) : W p l e R s m args below meth c H locs cells slots Q (F0 m pc ars (st.map (vsh sb b))) := by
  obtain ⟨hx, hb, hml, hown, hts, hK, -, -, hini⟩ := C
  obtain ⟨q, hq, hk, hlk, hfin⟩ := vok_put hcode
  simp only [vstep] at hs
  split at hs
  · rename_i v a r
    split at hs
    · rename_i t fs hfs
      split at hs
      · rename_i hc
        obtain ⟨ht, hlt, hf⟩ := hc
        cases hs
        subst ht
        have ht50 : t < 50 := vcl_lt hq
        obtain ⟨hat, hlen⟩ := vat_obj (hHR.2.2.2 a _ hfs).2 ht50
        have h0 : a ≠ 0 := fun h0 => by have := (hHR.2.2.2 a _ hfs).1.mp h0; simp only at this; omega
        unfold vfit at hf
        simp only [Bool.and_eq_true, decide_eq_true_eq] at hf
        have hf1 : narrow (vty t r2) (vsh sb b v) = vsh sb b v := by
          cases v with
          | ref a => cases hty : vty t r2 <;> rfl
          | _ => exact hf.1
        have hf2 : fits (vty t r2) (vsh sb b v) = true := by
          cases v with
          | ref a => have := hf.2; cases hty : vty t r2 <;> rw [hty] at this <;> first | exact this | rfl
          | _ => exact hf.2
        have hz : vz (h.set a (t, fs.set r2 v)) = vz h := vz_set h a (t, fs) _ hfs (by simp)
        have hset : (fs.map (vsh sb b)).set r2 (vsh sb b v) = (fs.set r2 v).map (vsh sb b) := by rw [List.map_set]
        have fin : ∀ (H1 : Heap) (locs1 : List Loc), va_at D vcl (vrho sb b a, .inr (t, (fs.map (vsh sb b)).set r2 (vsh sb b v))) H1 → H1.size = H.size → (∀ q : Nat, q ≠ vrho sb b a → H1[q]? = H[q]?) → va_S (vFr b) H0 H1 locs1 → W p l e R s m args below meth c H1 locs1 cells slots Q (F0 m (pc + 3) ars (r.map (vsh sb b))) := by
          intro H1 locs1 g1 g2 g3 g4
          refine kk H1 locs1 ars cells slots (by simp) (by simp [hz]) hL (hHR.set hfs (by omega) g2 g3 ?_) g4
          unfold vAt
          rw [if_pos ht50]
          refine ⟨by rw [hset] at g1; exact g1, fun q' hq' => ?_⟩
          simp only [List.length_set]
          exact hlen q' hq'
        rcases hfin with hfin | ⟨hfin, hkd, hdecl⟩
        · exact vput (T := q.2.1) (N := q.2.2) (C := q.1) hx hb hts (vcl_in hq) (vty t) (vcl_ty hq) (vcl_nm hq) hown hK.1 hat hS (vrho_fr h0) hq r2 hk (vlinkF_use hts hK hlk) hfin (vcl_ty hq r2 hk) hf1 hf2 (by simpa using hlt) (vdec hcode) fin
        · exact vputF (T := q.2.1) (N := q.2.2) (C := q.1) hx hb hts (vcl_in hq) (vty t) (vcl_ty hq) (vcl_nm hq) hown hK.1 hat hS (vrho_fr h0) hq r2 hk (vlinkF_use hts hK hlk) hfin (hini hkd) hdecl (vcl_ty hq r2 hk) hf1 hf2 (by simpa using hlt) (vdec hcode) fin
      · cases hs
    · cases hs
  · cases hs
set_option maxHeartbeats 4000000 in
theorem vsnd_iald {r1 r2 : Nat} {y : vS} (C : vCx D cA mi p R s m args meth c) (hcode : vcode mi pc = some (.iaload, 1, r1, r2)) (hs : vstep (.iaload, 1, r1, r2) pc ls st h = some y) (hL : vLs sb b ars ls (vmaxL mi)) (hHR : vHR D cA sb b s h H) (hS : va_S (vFr b) H0 H locs) (kk : vGo p l e R s m args below meth c Q D cA sb b mi H0 cells slots h y) : W p l e R s m args below meth c H locs cells slots Q (F0 m pc ars (st.map (vsh sb b))) := by
  obtain ⟨hx, hb, hml, hown, hts, hK, -⟩ := C
  simp only [vstep] at hs
  split at hs
  · rename_i i a r
    split at hs
    · rename_i t fs hfs
      split at hs
      · rename_i ht
        split at hs
        · rename_i v hv
          cases hs
          obtain ⟨ht, hi0⟩ := ht
          have hlt : i.toNatClampNeg < fs.length := (List.getElem?_eq_some_iff.mp hv).1
          rcases ht with rfl | rfl
          · obtain ⟨xs, rfl, hh⟩ := vat_int (hHR.2.2.2 a _ hfs).2 (Or.inl rfl)
            rw [List.length_map] at hlt
            have hv2 : vsh sb b v = .int (xs.getD i.toNatClampNeg 0) := by
              rw [List.getElem?_map, Option.map_eq_some_iff] at hv
              obtain ⟨z, hz, rfl⟩ := hv
              rw [List.getD_eq_getElem?_getD, hz]; rfl
            refine W.iald (v := vsh sb b v) hx hb hh ((hK.1.2 0 _ rfl).1 _ _) (fun q => by cases q) (by rw [arrV_size]; rintro (q | q); exact hi0 q; omega) (by rw [arrV_read _ _ hlt, hv2]) rfl rfl (vdec hcode) (vgo_same kk hHR hS hL)
          · obtain ⟨xs, rfl, scr, g1, g2, g3, g4, g5⟩ := vat_scr (hHR.2.2.2 a _ hfs).2
            rw [List.length_map] at hlt
            have hv2 : vsh sb b v = .int (xs.getD i.toNatClampNeg 0) := by
              rw [List.getElem?_map, Option.map_eq_some_iff] at hv
              obtain ⟨z, hz, rfl⟩ := hv
              rw [List.getD_eq_getElem?_getD, hz]; rfl
            refine W.iald (v := vsh sb b v) hx hb g1 g2 g3 (by rw [g4]; rintro (q | q); exact hi0 q; omega) (by rw [g5 _ hlt, hv2]) rfl rfl (vdec hcode) (vgo_same kk hHR hS hL)
        · cases hs
      · cases hs
    · cases hs
  · cases hs
set_option maxHeartbeats 4000000 in
theorem vsnd_zald {r1 r2 : Nat} {y : vS} (C : vCx D cA mi p R s m args meth c) (hcode : vcode mi pc = some (.baload, 1, r1, r2)) (hs : vstep (.baload, 1, r1, r2) pc ls st h = some y) (hL : vLs sb b ars ls (vmaxL mi)) (hHR : vHR D cA sb b s h H) (hS : va_S (vFr b) H0 H locs) (kk : vGo p l e R s m args below meth c Q D cA sb b mi H0 cells slots h y) : W p l e R s m args below meth c H locs cells slots Q (F0 m pc ars (st.map (vsh sb b))) := by
  obtain ⟨hx, hb, hml, hown, hts, hK, -⟩ := C
  simp only [vstep] at hs
  split at hs
  · rename_i i a r
    split at hs
    · rename_i t fs hfs
      split at hs
      · rename_i ht
        split at hs
        · rename_i v hv
          cases hs
          obtain ⟨rfl, hi0⟩ := ht
          have hlt : i.toNatClampNeg < fs.length := (List.getElem?_eq_some_iff.mp hv).1
          obtain ⟨xs, rfl, hh⟩ := vat_int (hHR.2.2.2 a _ hfs).2 (Or.inr rfl)
          rw [List.length_map] at hlt
          have hv2 : vsh sb b v = .int (xs.getD i.toNatClampNeg 0) := by
            rw [List.getElem?_map, Option.map_eq_some_iff] at hv
            obtain ⟨z, hz, rfl⟩ := hv
            rw [List.getD_eq_getElem?_getD, hz]; rfl
          refine W.zald (v := vsh sb b v) hx hb hh ((hK.1.2 1 _ rfl).1 _ _) (fun q => by cases q) (by rw [arrV_size]; rintro (q | q); exact hi0 q; omega) (by rw [arrV_read _ _ hlt, hv2]) rfl rfl (vdec hcode) (vgo_same kk hHR hS hL)
        · cases hs
      · cases hs
    · cases hs
  · cases hs
set_option maxHeartbeats 4000000 in
theorem vsnd_aald {r1 r2 : Nat} {y : vS} (C : vCx D cA mi p R s m args meth c) (hcode : vcode mi pc = some (.aaload, 1, r1, r2)) (hs : vstep (.aaload, 1, r1, r2) pc ls st h = some y) (hL : vLs sb b ars ls (vmaxL mi)) (hHR : vHR D cA sb b s h H) (hS : va_S (vFr b) H0 H locs) (kk : vGo p l e R s m args below meth c Q D cA sb b mi H0 cells slots h y) : W p l e R s m args below meth c H locs cells slots Q (F0 m pc ars (st.map (vsh sb b))) := by
  obtain ⟨hx, hb, hml, hown, hts, hK, -⟩ := C
  simp only [vstep] at hs
  split at hs
  · rename_i i a r
    split at hs
    · rename_i t fs hfs
      split at hs
      · rename_i ht
        split at hs
        · rename_i v hv
          cases hs
          obtain ⟨ht, hi0⟩ := ht
          have hlt : i.toNatClampNeg < fs.length := (List.getElem?_eq_some_iff.mp hv).1
          have hh := vat_ref (hHR.2.2.2 a _ hfs).2 ht
          have hv2 : vsh sb b (fs.getD i.toNatClampNeg .null) = vsh sb b v := by rw [List.getD_eq_getElem?_getD, hv]; rfl
          have hArr : ∃ C, ArrOfT s (cA t) (.object C) := by
            rcases ht with rfl | rfl
            · exact ⟨_, (hK.1.2 2 _ rfl).1⟩
            · exact ⟨_, (hK.1.2 3 _ rfl).1⟩
          obtain ⟨Cn, hArr⟩ := hArr
          refine W.aald (v := vsh sb b v) (ty := .object Cn) hx hb hh (hArr _ _) rfl (fun q => by cases q) (by rw [arrV_size]; rintro (q | q); exact hi0 q; omega) (by rw [arrV_read _ _ hlt, hv2]) rfl rfl (vdec hcode) (vgo_same kk hHR hS hL)
        · cases hs
      · cases hs
    · cases hs
  · cases hs
set_option maxHeartbeats 4000000 in
theorem vsnd_iast {r1 r2 : Nat} {y : vS} (C : vCx D cA mi p R s m args meth c) (hcode : vcode mi pc = some (.iastore, 1, r1, r2)) (hs : vstep (.iastore, 1, r1, r2) pc ls st h = some y) (hL : vLs sb b ars ls (vmaxL mi)) (hHR : vHR D cA sb b s h H) (hS : va_S (vFr b) H0 H locs) (kk : vGo p l e R s m args below meth c Q D cA sb b mi H0 cells slots h y) : W p l e R s m args below meth c H locs cells slots Q (F0 m pc ars (st.map (vsh sb b))) := by
  obtain ⟨hx, hb, hml, hown, hts, hK, -⟩ := C
  simp only [vstep] at hs
  split at hs
  · rename_i v i a r
    split at hs
    · rename_i t fs hfs
      split at hs
      · rename_i ht
        cases hs
        obtain ⟨rfl, hi0, hlt⟩ := ht
        obtain ⟨xs, rfl, hh⟩ := vat_int (hHR.2.2.2 a _ hfs).2 (Or.inl rfl)
        have h0 : a ≠ 0 := fun h0 => by have := (hHR.2.2.2 a _ hfs).1.mp h0; simp at this
        refine W.iast hx hb hh ((hK.1.2 0 _ rfl).1 _ _) (fun q => by cases q) (by rw [arrV_size]; rw [List.length_map] at hlt; rintro (q | q); exact hi0 q; omega) rfl rfl (vdec hcode) fun H1 e1 e2 e3 => ?_
        refine kk H1 _ ars cells slots (by simp) (by rw [vz_set h a (100, xs.map Value.int) _ hfs (by simp)]; simp) hL (hHR.set hfs (by omega) e2 e3 ?_) (hS.put e2 e3 (vrho_fr h0))
        rw [vset_int]
        exact vat_mk_int (Or.inl rfl) (by rw [e1, vupd_int])
      · cases hs
    · cases hs
  · cases hs
theorem vand1 (v : Int32) : narrow .boolean (.int v) = .int (v &&& 1) := rfl
set_option maxHeartbeats 4000000 in
theorem vsnd_zast {r1 r2 : Nat} {y : vS} (C : vCx D cA mi p R s m args meth c) (hcode : vcode mi pc = some (.bastore, 1, r1, r2)) (hs : vstep (.bastore, 1, r1, r2) pc ls st h = some y) (hL : vLs sb b ars ls (vmaxL mi)) (hHR : vHR D cA sb b s h H) (hS : va_S (vFr b) H0 H locs) (kk : vGo p l e R s m args below meth c Q D cA sb b mi H0 cells slots h y) : W p l e R s m args below meth c H locs cells slots Q (F0 m pc ars (st.map (vsh sb b))) := by
  obtain ⟨hx, hb, hml, hown, hts, hK, -⟩ := C
  simp only [vstep] at hs
  split at hs
  · rename_i v i a r
    split at hs
    · rename_i t fs hfs
      split at hs
      · rename_i ht
        cases hs
        obtain ⟨rfl, hi0, hlt⟩ := ht
        obtain ⟨xs, rfl, hh⟩ := vat_int (hHR.2.2.2 a _ hfs).2 (Or.inr rfl)
        have h0 : a ≠ 0 := fun h0 => by have := (hHR.2.2.2 a _ hfs).1.mp h0; simp at this
        refine W.zast hx hb hh ((hK.1.2 1 _ rfl).1 _ _) (fun q => by cases q) (by rw [arrV_size]; rw [List.length_map] at hlt; rintro (q | q); exact hi0 q; omega) rfl rfl (vdec hcode) fun H1 e1 e2 e3 => ?_
        refine kk H1 _ ars cells slots (by simp) (by rw [vz_set h a (101, xs.map Value.int) _ hfs (by simp)]; simp) hL (hHR.set hfs (by omega) e2 e3 ?_) (hS.put e2 e3 (vrho_fr h0))
        rw [vset_int]
        exact vat_mk_int (Or.inr rfl) (by rw [e1, vand1, vupd_int])
      · cases hs
    · cases hs
  · cases hs
set_option maxHeartbeats 4000000 in
theorem vsnd_aast {r1 r2 : Nat} {y : vS} (C : vCx D cA mi p R s m args meth c) (hcode : vcode mi pc = some (.aastore, 1, r1, r2)) (hs : vstep (.aastore, 1, r1, r2) pc ls st h = some y) (hL : vLs sb b ars ls (vmaxL mi)) (hHR : vHR D cA sb b s h H) (hS : va_S (vFr b) H0 H locs) (kk : vGo p l e R s m args below meth c Q D cA sb b mi H0 cells slots h y) : W p l e R s m args below meth c H locs cells slots Q (F0 m pc ars (st.map (vsh sb b))) := by
  obtain ⟨hx, hb, hml, hown, hts, hK, -⟩ := C
  simp only [vstep] at hs
  split at hs
  · rename_i v i a r
    split at hs
    · rename_i t fs tv fv hfs hfv
      split at hs
      · rename_i ht
        cases hs
        obtain ⟨ht, htv, hi0, hlt⟩ := ht
        have hh := vat_ref (hHR.2.2.2 a _ hfs).2 ht
        have h0 : a ≠ 0 := fun h0 => by have := (hHR.2.2.2 a _ hfs).1.mp h0; simp only at this; omega
        obtain ⟨q, hq, hqn⟩ := vcomp_ok ht
        rw [← htv] at hq
        have hov := (vat_obj (hHR.2.2.2 v _ hfv).2 (vcl_lt hq)).1
        obtain ⟨r', hr', cellV, g1, g2, g3, -⟩ := hov
        have hcls := (hK.1.1 tv q hq).2
        have hRA : va_RA s (cA t) (.object q.1) := by
          rw [hqn]
          rcases ht with rfl | rfl
          · exact (hK.1.2 2 _ rfl).2
          · exact (hK.1.2 3 _ rfl).2
        obtain ⟨kA, comp, k1, k2, k3, -⟩ := hRA
        have hcomp : comp = D.1 tv := Option.some.inj (k3.symm.trans hcls.1)
        subst hcomp
        obtain ⟨kC, hkC, hkk⟩ := hcls.2
        refine W.aast hx hb hh (fun q h => by cases h) (fun h => by cases h) k1 k2 rfl hkC ⟨hi0, by rw [arrV_size]; exact hlt⟩ g1 (fun q h => by rw [g3] at h; cases h) (by rw [g2]; exact hkC) (by rw [g2]; exact va_assign hcls) rfl rfl (vdec hcode) fun H1 e1 e2 e3 => ?_
        refine kk H1 _ ars cells slots (by simp) (by rw [vz_set h a (t, fs) _ hfs (by simp)]; simp) hL (hHR.set hfs (by omega) e2 e3 ?_) (hS.put e2 e3 (vrho_fr h0))
        refine vat_mk_ref ht ?_
        rw [e1, arrV_store, List.length_set]
        congr 1
        apply varr_congr
        intro j hj
        unfold updV
        by_cases hji : j = i.toNatClampNeg
        · subst hji
          rw [if_pos rfl, List.getD_eq_getElem?_getD, List.getElem?_set_self hj]
          rfl
        · rw [if_neg hji]
          show vsh sb b (fs.getD j .null) = _
          rw [List.getD_eq_getElem?_getD, List.getD_eq_getElem?_getD, List.getElem?_set_ne (fun q => hji q.symm)]
      · cases hs
    · cases hs
  · cases hs
set_option maxHeartbeats 4000000 in
theorem vsnd_alen {r1 r2 : Nat} {y : vS} (C : vCx D cA mi p R s m args meth c) (hcode : vcode mi pc = some (.arraylength, 1, r1, r2)) (hs : vstep (.arraylength, 1, r1, r2) pc ls st h = some y) (hL : vLs sb b ars ls (vmaxL mi)) (hHR : vHR D cA sb b s h H) (hS : va_S (vFr b) H0 H locs) (kk : vGo p l e R s m args below meth c Q D cA sb b mi H0 cells slots h y) : W p l e R s m args below meth c H locs cells slots Q (F0 m pc ars (st.map (vsh sb b))) := by
  obtain ⟨hx, hb, hml, hown, hts, hK, -⟩ := C
  simp only [vstep] at hs
  split at hs
  · rename_i a r
    split at hs
    · rename_i t fs hfs
      split at hs
      · rename_i ht
        cases hs
        have hcase : t = 100 ∨ t = 101 ∨ t = 102 ∨ t = 103 ∨ t = 104 := by omega
        rcases hcase with rfl | rfl | rfl | rfl | rfl
        · obtain ⟨xs, rfl, hh⟩ := vat_int (hHR.2.2.2 a _ hfs).2 (Or.inl rfl)
          exact W.alen hx hb hh ((hK.1.2 0 _ rfl).1 _ _) (by rw [arrV_size, List.length_map] <;> rfl) rfl rfl (vdec hcode) (vgo_same kk hHR hS hL)
        · obtain ⟨xs, rfl, hh⟩ := vat_int (hHR.2.2.2 a _ hfs).2 (Or.inr rfl)
          exact W.alen hx hb hh ((hK.1.2 1 _ rfl).1 _ _) (by rw [arrV_size, List.length_map] <;> rfl) rfl rfl (vdec hcode) (vgo_same kk hHR hS hL)
        · have hh := vat_ref (hHR.2.2.2 a _ hfs).2 (Or.inl rfl)
          exact W.alen hx hb hh ((hK.1.2 2 _ rfl).1 _ _) (by rw [arrV_size] <;> rfl) rfl rfl (vdec hcode) (vgo_same kk hHR hS hL)
        · have hh := vat_ref (hHR.2.2.2 a _ hfs).2 (Or.inr rfl)
          exact W.alen hx hb hh ((hK.1.2 3 _ rfl).1 _ _) (by rw [arrV_size] <;> rfl) rfl rfl (vdec hcode) (vgo_same kk hHR hS hL)
        · obtain ⟨xs, rfl, scr, g1, g2, g3, g4, g5⟩ := vat_scr (hHR.2.2.2 a _ hfs).2
          exact W.alen hx hb g1 g2 (by rw [g4, List.length_map] <;> rfl) rfl rfl (vdec hcode) (vgo_same kk hHR hS hL)
      · cases hs
    · cases hs
  · cases hs
end VSND
end
section
section VSND2
variable {p : Program} {l : Launch} {e : Env} {R : Room} {s : State} {m : MethodId} {args : Array Value} {below : List Frame} {meth : Method} {c : Code} {H : Heap} {locs : List Loc} {cells slots : Nat} {Q : State → Prop}
variable {D : va_G} {cA : Nat → ClassId} {sb b mi pc : Nat} {ls : vL} {st : List Value} {h : vH} {ars : Array Slot} {H0 : Heap}
theorem vS_push {H1 : Heap} (hS : va_S (vFr b) H0 H locs) (hz : H1.size = H.size + 1) (hq : ∀ q : Nat, q < H.size → H1[q]? = H[q]?) : va_S (vFr b) H0 H1 locs :=
  ⟨Nat.le_trans hS.1 (by omega), fun x h1 h2 => (hq x (Nat.lt_of_lt_of_le h1 hS.1)).trans (hS.2.1 x h1 h2), hS.2.2⟩
set_option maxHeartbeats 4000000 in
theorem vsnd_new {idx r1 r2 : Nat} {y : vS} (C : vCx D cA mi p R s m args meth c) (hcode : vcode mi pc = some (.new idx, 3, r1, r2)) (hs : vstep (.new idx, 3, r1, r2) pc ls st h = some y) (hL : vLs sb b ars ls (vmaxL mi)) (hHR : vHR D cA sb b s h H) (hS : va_S (vFr b) H0 H locs) (hc1 : cells + (y.2.2.2.length - h.length) ≤ R.cells) (hc2 : slots + (vz y.2.2.2 - vz h) ≤ R.slots) (kk : vGo p l e R s m args below meth c Q D cA sb b mi H0 cells slots h y) : W p l e R s m args below meth c H locs cells slots Q (F0 m pc ars (st.map (vsh sb b))) := by
  obtain ⟨hx, hb, hml, hown, hts, hK, -⟩ := C
  obtain ⟨q, hq, w1, w2, w3⟩ := vok_new hcode
  simp only [vstep] at hs
  cases hs
  have ht50 : r1 < 50 := vcl_lt hq
  have hlen : (vdef r1).length = q.2.2 := vdef_len hq
  have hKn := hK.1.1 r1 q hq
  have htop : vrho sb b h.length = H.size := vrho_top hHR.1 hHR.2.2.1
  simp only [vz_push, List.length_append, List.length_singleton] at hc1 hc2
  refine W.newcK hx hb hown (hts _ w1) (hts _ w2) (hts _ w3) rfl (vdec hcode) (by omega) (by omega) hKn.2.1 rfl fun H1 kC hkC e1 z1 o1 => ?_
  have hsh : (vdef r1).map (vsh sb b) = vdef r1 := by
    have h10 : r1 < 10 := (List.getElem?_eq_some_iff.mp hq).1
    have := vdef_sh r1 h10
    apply List.ext_getElem?
    intro j
    rw [List.getElem?_map]
    cases hj : (vdef r1)[j]? with
    | none => rfl
    | some v =>
      rcases this v (List.mem_of_getElem? hj) with rfl | rfl <;> rfl
  have hA : vAt D cA sb b s h.length (r1, vdef r1) H1 := by
    unfold vAt
    rw [if_pos ht50]
    refine ⟨⟨q, hq, ?_⟩, fun q' hq' => by rw [hq] at hq'; cases hq'; exact hlen⟩
    simp only [htop, hsh]
    exact (u_born (vty r1) hts (vcl_in hq) hKn hkC e1 (vcl_ty hq)).to (fun j hj => by rw [vdef_ok hq j hj])
  have z : W p l e R s m args below meth c H1 locs (cells + 1) (slots + q.2.2) Q (F0 m (pc + 3) ars (vsh sb b (.ref h.length) :: st.map (vsh sb b))) := kk H1 locs ars (cells + 1) (slots + q.2.2) (by simp) (by simp only [vz_push]; omega) hL (hHR.push (by simp only; omega) z1 o1 hA) (vS_push hS z1 o1)
  rw [show vsh sb b (.ref h.length) = .ref H.size by show Value.ref (vrho sb b h.length) = _; rw [htop]] at z
  exact z
theorem vrep_sh (sb b n : Nat) : (fun j => vsh sb b ((List.replicate n Value.null).getD j .null)) = fun _ => Value.null := by
  funext j
  rw [List.getD_eq_getElem?_getD, List.getElem?_replicate]
  split <;> rfl
theorem vrep_int (n : Nat) : (fun j => Value.int ((List.replicate n (0 : Int32)).getD j 0)) = fun _ => Value.int 0 := by
  funext j
  rw [List.getD_eq_getElem?_getD, List.getElem?_replicate]
  split <;> rfl
set_option maxHeartbeats 4000000 in
theorem vsnd_newa {at_ : ArrayType} {r1 r2 : Nat} {y : vS} (C : vCx D cA mi p R s m args meth c) (hcode : vcode mi pc = some (.newarray at_, 2, r1, r2)) (hs : vstep (.newarray at_, 2, r1, r2) pc ls st h = some y) (hL : vLs sb b ars ls (vmaxL mi)) (hHR : vHR D cA sb b s h H) (hS : va_S (vFr b) H0 H locs) (hc1 : cells + (y.2.2.2.length - h.length) ≤ R.cells) (hc2 : slots + (vz y.2.2.2 - vz h) ≤ R.slots) (kk : vGo p l e R s m args below meth c Q D cA sb b mi H0 cells slots h y) : W p l e R s m args below meth c H locs cells slots Q (F0 m pc ars (st.map (vsh sb b))) := by
  obtain ⟨hx, hb, hml, hown, hts, hK, -⟩ := C
  have htop : vrho sb b h.length = H.size := vrho_top hHR.1 hHR.2.2.1
  simp only [vstep] at hs
  split at hs
  · rename_i n r
    split at hs
    · rename_i hn
      obtain ⟨hn0, hn1⟩ := hn
      split at hs
      · cases hs
        simp only [vz_push, List.length_append, List.length_singleton, List.length_replicate] at hc1 hc2
        refine va_newaK (atype := .int) hx hb (hts _ vaw.1) rfl (vdec hcode) rfl hn0 rfl (by show n.toNatClampNeg * 4 ≤ _; omega) (by omega) (by omega) rfl fun H1 cA1 e1 z1 o1 hAr hNm => ?_
        have hcA : cA1 = cA 100 := Option.some.inj (hNm.symm.trans (hK.1.2 0 _ rfl).2)
        subst hcA
        have hA : vAt D cA sb b s h.length (100, List.replicate n.toNatClampNeg (Value.int 0)) H1 := by
          have hr : List.replicate n.toNatClampNeg (Value.int 0) = (List.replicate n.toNatClampNeg (0 : Int32)).map Value.int := by rw [List.map_replicate]
          rw [hr]
          refine vat_mk_int (Or.inl rfl) ?_
          rw [htop, vrep_int, List.length_replicate]
          exact e1
        have z : W p l e R s m args below meth c H1 locs (cells + 1) (slots + n.toNatClampNeg) Q (F0 m (pc + 2) ars (vsh sb b (.ref h.length) :: r.map (vsh sb b))) := kk H1 locs ars (cells + 1) (slots + n.toNatClampNeg) (by simp) (by simp only [vz_push, List.length_replicate]; omega) hL (hHR.push (by simp) z1 o1 hA) (vS_push hS z1 o1)
        rw [show vsh sb b (.ref h.length) = .ref H.size by show Value.ref (vrho sb b h.length) = _; rw [htop]] at z
        exact z
      · cases hs
        simp only [vz_push, List.length_append, List.length_singleton, List.length_replicate] at hc1 hc2
        refine va_newaK (atype := .boolean) hx hb (hts _ vaw.2.1) rfl (vdec hcode) rfl hn0 rfl (by show n.toNatClampNeg * 1 ≤ _; omega) (by omega) (by omega) rfl fun H1 cA1 e1 z1 o1 hAr hNm => ?_
        have hcA : cA1 = cA 101 := Option.some.inj (hNm.symm.trans (hK.1.2 1 _ rfl).2)
        subst hcA
        have hA : vAt D cA sb b s h.length (101, List.replicate n.toNatClampNeg (Value.int 0)) H1 := by
          have hr : List.replicate n.toNatClampNeg (Value.int 0) = (List.replicate n.toNatClampNeg (0 : Int32)).map Value.int := by rw [List.map_replicate]
          rw [hr]
          refine vat_mk_int (Or.inr rfl) ?_
          rw [htop, vrep_int, List.length_replicate]
          exact e1
        have z : W p l e R s m args below meth c H1 locs (cells + 1) (slots + n.toNatClampNeg) Q (F0 m (pc + 2) ars (vsh sb b (.ref h.length) :: r.map (vsh sb b))) := kk H1 locs ars (cells + 1) (slots + n.toNatClampNeg) (by simp) (by simp only [vz_push, List.length_replicate]; omega) hL (hHR.push (by simp) z1 o1 hA) (vS_push hS z1 o1)
        rw [show vsh sb b (.ref h.length) = .ref H.size by show Value.ref (vrho sb b h.length) = _; rw [htop]] at z
        exact z
      · cases hs
    · cases hs
  · cases hs
set_option maxHeartbeats 4000000 in
theorem vsnd_anew {idx r1 r2 : Nat} {y : vS} (C : vCx D cA mi p R s m args meth c) (hcode : vcode mi pc = some (.anewarray idx, 3, r1, r2)) (hs : vstep (.anewarray idx, 3, r1, r2) pc ls st h = some y) (hL : vLs sb b ars ls (vmaxL mi)) (hHR : vHR D cA sb b s h H) (hS : va_S (vFr b) H0 H locs) (hc1 : cells + (y.2.2.2.length - h.length) ≤ R.cells) (hc2 : slots + (vz y.2.2.2 - vz h) ≤ R.slots) (kk : vGo p l e R s m args below meth c Q D cA sb b mi H0 cells slots h y) : W p l e R s m args below meth c H locs cells slots Q (F0 m pc ars (st.map (vsh sb b))) := by
  obtain ⟨hx, hb, hml, hown, hts, hK, -⟩ := C
  have w1 := vok_anew hcode
  have htop : vrho sb b h.length = H.size := vrho_top hHR.1 hHR.2.2.1
  simp only [vstep] at hs
  split at hs
  · rename_i n r
    split at hs
    · rename_i hn
      obtain ⟨hr1, hn0, hn1⟩ := hn
      cases hs
      simp only [vz_push, List.length_append, List.length_singleton, List.length_replicate] at hc1 hc2
      have hAO : va_AO (vcn r1) s := by
        rcases hr1 with rfl | rfl
        · exact hK.2.2.1
        · exact hK.2.2.2
      have hRA : va_RA s (cA r1) (.object (vcn r1)) := by
        rcases hr1 with rfl | rfl
        · exact (hK.1.2 2 _ rfl).2
        · exact (hK.1.2 3 _ rfl).2
      obtain ⟨-, -, -, -, -, hRA4⟩ := hRA
      refine W.anew hx hb hown (hts _ w1) (va_AO.use hAO) rfl (vdec hcode) rfl hn0 (by omega) (by omega) (by omega) fun cA1 kA comp f1 f2 f3 f4 => ?_
      have hcA : cA1 = cA r1 := Option.some.inj (f1.symm.trans hRA4)
      subst hcA
      generalize hH1 : H.push ({ cls := cA r1, slots := Array.replicate n.toNatClampNeg .null, vm := .none } : Cell) = H1
      have z1 : H1.size = H.size + 1 := by rw [← hH1, Array.size_push]
      have e1 : H1[H.size]? = some (arrV (cA r1) n.toNatClampNeg (fun _ => .null)) := by rw [← hH1, Array.getElem?_push_size, ← arrV_new]
      have o1 : ∀ q : Nat, q < H.size → H1[q]? = H[q]? := fun q hq => by rw [← hH1, Array.getElem?_push, if_neg (Nat.ne_of_lt hq)]
      have hA : vAt D cA sb b s h.length (r1, List.replicate n.toNatClampNeg Value.null) H1 := by
        refine vat_mk_ref hr1 ?_
        rw [htop, vrep_sh, List.length_replicate]
        exact e1
      have z : W p l e R s m args below meth c H1 locs (cells + 1) (slots + n.toNatClampNeg) Q (F0 m (pc + 3) ars (vsh sb b (.ref h.length) :: r.map (vsh sb b))) := kk H1 locs ars (cells + 1) (slots + n.toNatClampNeg) (by simp) (by simp only [vz_push, List.length_replicate]; omega) hL (hHR.push (by simp only; omega) z1 o1 hA) (vS_push hS z1 o1)
      rw [show vsh sb b (.ref h.length) = .ref H.size by show Value.ref (vrho sb b h.length) = _; rw [htop]] at z
      exact z
    · cases hs
  · cases hs
set_option maxHeartbeats 4000000 in
theorem vsnd_oinit {idx r1 r2 : Nat} {y : vS} (C : vCx D cA mi p R s m args meth c) (hcode : vcode mi pc = some (.invokespecial idx, 3, r1, r2)) (hs : vstep (.invokespecial idx, 3, r1, r2) pc ls st h = some y) (hL : vLs sb b ars ls (vmaxL mi)) (hHR : vHR D cA sb b s h H) (hS : va_S (vFr b) H0 H locs) (kk : vGo p l e R s m args below meth c Q D cA sb b mi H0 cells slots h y) : W p l e R s m args below meth c H locs cells slots Q (F0 m pc ars (st.map (vsh sb b))) := by
  obtain ⟨hx, hb, hml, hown, hts, hK, hfr, hlo, -⟩ := C
  simp only [vstep] at hs
  split at hs
  · rename_i a r
    split at hs
    · rename_i hr
      obtain ⟨hr1, hr2⟩ := hr
      cases hs
      subst hr1
      obtain ⟨w1, hlo1⟩ := vok_oinit hcode
      have hrk := vrk_pos hcode
      have hsum := vcat_sum sb b hr2
      exact W.objInit hx hb hown (hts _ w1) (hts _ voi.1) (hts _ voi.2) rfl (by rw [hml]; exact hL.1) rfl (vdec hcode) (by omega) (by show 2 * 0 + _ + 12 ≤ _; omega) (vgo_same kk hHR hS hL)
    · cases hs
  · cases hs
theorem vcpy_int (xs ys : List Int32) (sp dp n : Nat) : vcpy (xs.map Value.int) (ys.map Value.int) sp dp n = (ys.take dp ++ (xs.drop sp).take n ++ ys.drop (dp + n)).map Value.int := by
  unfold vcpy
  simp only [List.map_append, List.map_take, List.map_drop]
theorem vcpy_get (xs ys : List Int32) {sp dp n j : Nat} (h4 : sp + n ≤ xs.length) (h5 : dp + n ≤ ys.length) : (ys.take dp ++ (xs.drop sp).take n ++ ys.drop (dp + n)).getD j 0 = va_cpy (fun j => xs.getD j 0) (fun j => ys.getD j 0) sp dp n j := by
  simp only [List.getD_eq_getElem?_getD, va_cpy]
  by_cases h1 : j < dp
  · rw [if_neg (by omega), List.getElem?_append_left (by simp; omega), List.getElem?_append_left (by simp; omega), List.getElem?_take_of_lt h1]
  · by_cases h2 : j < dp + n
    · rw [if_pos (by omega), List.getElem?_append_left (by simp; omega), List.getElem?_append_right (by simp; omega), List.getElem?_take_of_lt (by simp; omega), List.getElem?_drop]
      congr 2
      simp
      omega
    · rw [if_neg (by omega), List.getElem?_append_right (by simp; omega), List.getElem?_drop]
      congr 2
      simp
      omega
set_option maxHeartbeats 4000000 in
theorem vsnd_stat {idx r1 r2 : Nat} {y : vS} (C : vCx D cA mi p R s m args meth c) (hcode : vcode mi pc = some (.invokestatic idx, 3, r1, r2)) (hs : vstep (.invokestatic idx, 3, r1, r2) pc ls st h = some y) (hL : vLs sb b ars ls (vmaxL mi)) (hHR : vHR D cA sb b s h H) (hS : va_S (vFr b) H0 H locs) (hc1 : cells ≤ R.cells) (hc2 : slots ≤ R.slots) (kk : vGo p l e R s m args below meth c Q D cA sb b mi H0 cells slots h y) : W p l e R s m args below meth c H locs cells slots Q (F0 m pc ars (st.map (vsh sb b))) := by
  obtain ⟨hx, hb, hml, hown, hts, hK, hfr, hlo, -⟩ := C
  have hrk := vrk_pos hcode
  simp only [vstep] at hs
  split at hs
  · rename_i n dp d sp s0 r
    split at hs
    · rename_i hr
      obtain ⟨hr1, hr2⟩ := hr
      subst hr1
      obtain ⟨w1, hlo1⟩ := vok_copy hcode
      have hsum := vcat_sum sb b hr2
      split at hs
      · rename_i ts f td g hf hg
        split at hs
        · rename_i hcond
          obtain ⟨rfl, rfl, g1, g2, g3, g4, g5⟩ := hcond
          cases hs
          obtain ⟨xs, rfl, hhx⟩ := vat_int (hHR.2.2.2 s0 _ hf).2 (Or.inl rfl)
          obtain ⟨ys, rfl, hhy⟩ := vat_int (hHR.2.2.2 d _ hg).2 (Or.inl rfl)
          rw [List.length_map] at g4 g5
          have h0 : d ≠ 0 := fun h0 => by have := (hHR.2.2.2 d _ hg).1.mp h0; simp at this
          have hlen : (ys.take dp.toNatClampNeg ++ (xs.drop sp.toNatClampNeg).take n.toNatClampNeg ++ ys.drop (dp.toNatClampNeg + n.toNatClampNeg)).length = ys.length := by simp; omega
          have hnf : nativeFrameWords "java/lang/System" "arraycopy" 5 = 7 := by decide +kernel
          refine vcopy hx hb (by rw [hml]; exact hL.1.symm) hown (hts _ w1) (hts _ vac.1) (hts _ vac.2.1) (hts _ vac.2.2) (hK.1.2 0 _ rfl).1 hhx hhy hS (vrho_fr h0) g1 g2 g3 g4 g5 (by omega) (by omega) (vdec hcode) fun H1 locs1 e1 e2 e3 e4 => ?_
          refine kk H1 locs1 ars cells slots (by simp) (by rw [vz_set h d (100, ys.map Value.int) _ hg (by rw [vcpy_int, List.length_map, List.length_map]; exact hlen)]; simp) hL (hHR.set hg (by omega) e2 e3 ?_) e4
          rw [vcpy_int]
          refine vat_mk_int (Or.inl rfl) ?_
          rw [e1, hlen]
          congr 1
          apply varr_congr
          intro j hj
          rw [vcpy_get xs ys g4 g5]
        · cases hs
      · cases hs
    · cases hs
  · rename_i y z r hnot
    split at hs
    · rename_i hr
      obtain ⟨hr1, hr2⟩ := hr
      subst hr1
      obtain ⟨w1, hlo1⟩ := vok_min hcode
      have hsum := vcat_sum sb b hr2
      cases hs
      exact va_mmin hx hb (by rw [hml]; exact hL.1.symm) hown (hts _ w1) (hts _ vmm.1) (hts _ vmm.2.1) (hts _ vmm.2.2) (by omega) (by omega) hc1 hc2 (vdec hcode) (vgo_same kk hHR hS hL)
    · cases hs
  · cases hs
end VSND2
end
section
section VALL
variable {p : Program} {l : Launch} {e : Env} {R : Room} {s : State} {m : MethodId} {args : Array Value} {below : List Frame} {meth : Method} {c : Code} {H : Heap} {locs : List Loc} {cells slots : Nat} {Q : State → Prop}
variable {D : va_G} {cA : Nat → ClassId} {sb b mi pc : Nat} {ls : vL} {st : List Value} {h : vH} {ars : Array Slot} {H0 : Heap}
theorem vtgt_eq {pc : Nat} {off : Int} (h0 : 0 ≤ (pc : Int) + off) : (pc : Int) + off = (vtgt pc off : Nat) := by
  unfold vtgt
  omega
set_option maxHeartbeats 4000000 in
theorem vsnd_load {i : Instr} {len r1 r2 : Nat} {y : vS} (hi : (∃ k, i = .iload k) ∨ (∃ k, i = .iload_n k) ∨ (∃ k, i = .aload k) ∨ (∃ k, i = .aload_n k)) (C : vCx D cA mi p R s m args meth c) (hcode : vcode mi pc = some (i, len, r1, r2)) (hs : vstep (i, len, r1, r2) pc ls st h = some y) (hL : vLs sb b ars ls (vmaxL mi)) (hHR : vHR D cA sb b s h H) (hS : va_S (vFr b) H0 H locs) (kk : vGo p l e R s m args below meth c Q D cA sb b mi H0 cells slots h y) : W p l e R s m args below meth c H locs cells slots Q (F0 m pc ars (st.map (vsh sb b))) := by
  obtain ⟨hx, hb, -⟩ := C
  have hd := vdec hcode
  rcases hi with ⟨k, rfl⟩ | ⟨k, rfl⟩ | ⟨k, rfl⟩ | ⟨k, rfl⟩
  · obtain rfl := vlen_of (n := 2) hcode rfl (by decide)
    simp only [vstep] at hs
    split at hs
    · rename_i v hv
      cases hs
      exact lv_iload hx hb hd (hL.get hv) (vgo_same kk hHR hS hL)
    · cases hs
  · obtain rfl := vlen_of (n := 1) hcode rfl (by decide)
    simp only [vstep] at hs
    split at hs
    · rename_i v hv
      cases hs
      exact lv_iload_n hx hb hd rfl (hL.get hv) (vgo_same kk hHR hS hL)
    · cases hs
  · obtain rfl := vlen_of (n := 2) hcode rfl (by decide)
    simp only [vstep] at hs
    split at hs
    · rename_i v hv
      cases hs
      exact lv_aload hx hb hd (hL.get hv) (vgo_same kk hHR hS hL)
    · rename_i hv
      cases hs
      exact lv_aloadN hx hb hd (hL.get hv) (vgo_same kk hHR hS hL)
    · cases hs
  · obtain rfl := vlen_of (n := 1) hcode rfl (by decide)
    simp only [vstep] at hs
    split at hs
    · rename_i v hv
      cases hs
      exact lv_aload_n hx hb hd rfl (hL.get hv) (vgo_same kk hHR hS hL)
    · rename_i hv
      cases hs
      exact lv_aload_nN hx hb hd rfl (hL.get hv) (vgo_same kk hHR hS hL)
    · cases hs
set_option maxHeartbeats 4000000 in
theorem vsnd_store {i : Instr} {len r1 r2 : Nat} {y : vS} (hi : (∃ k, i = .istore k) ∨ (∃ k, i = .istore_n k) ∨ (∃ k, i = .astore k) ∨ (∃ k, i = .astore_n k) ∨ (∃ k n, i = .iinc k n)) (C : vCx D cA mi p R s m args meth c) (hcode : vcode mi pc = some (i, len, r1, r2)) (hs : vstep (i, len, r1, r2) pc ls st h = some y) (hL : vLs sb b ars ls (vmaxL mi)) (hHR : vHR D cA sb b s h H) (hS : va_S (vFr b) H0 H locs) (kk : vGo p l e R s m args below meth c Q D cA sb b mi H0 cells slots h y) : W p l e R s m args below meth c H locs cells slots Q (F0 m pc ars (st.map (vsh sb b))) := by
  obtain ⟨hx, hb, -⟩ := C
  have hd := vdec hcode
  rcases hi with ⟨k, rfl⟩ | ⟨k, rfl⟩ | ⟨k, rfl⟩ | ⟨k, rfl⟩ | ⟨k, n, rfl⟩
  · obtain rfl := vlen_of (n := 2) hcode rfl (by decide)
    simp only [vstep] at hs
    split at hs
    · rename_i v r
      split at hs
      · rename_i hk
        cases hs
        exact lv_istore hx hb hd hL.has (by rw [← hL.2.1]; exact hk) rfl fun ars1 h1 => vgo_same kk hHR hS (hL.back rfl hk h1)
      · cases hs
    · cases hs
  · obtain rfl := vlen_of (n := 1) hcode rfl (by decide)
    simp only [vstep] at hs
    split at hs
    · rename_i v r
      split at hs
      · rename_i hk
        cases hs
        exact lv_istore_n hx hb hd rfl hL.has (by rw [← hL.2.1]; exact hk) rfl fun ars1 h1 => vgo_same kk hHR hS (hL.back rfl hk h1)
      · cases hs
    · cases hs
  · obtain rfl := vlen_of (n := 2) hcode rfl (by decide)
    simp only [vstep] at hs
    split at hs
    · rename_i v r
      split at hs
      · rename_i hk
        cases hs
        exact lv_astore hx hb hd hL.has (by rw [← hL.2.1]; exact hk) rfl fun ars1 h1 => vgo_same kk hHR hS (hL.back (v := .ref v) rfl hk h1)
      · cases hs
    · rename_i r
      split at hs
      · rename_i hk
        cases hs
        exact lv_astoreN hx hb hd hL.has (by rw [← hL.2.1]; exact hk) rfl fun ars1 h1 => vgo_same kk hHR hS (hL.back (v := .null) rfl hk h1)
      · cases hs
    · cases hs
  · obtain rfl := vlen_of (n := 1) hcode rfl (by decide)
    simp only [vstep] at hs
    split at hs
    · rename_i v r
      split at hs
      · rename_i hk
        cases hs
        exact lv_astore_n hx hb hd rfl hL.has (by rw [← hL.2.1]; exact hk) rfl fun ars1 h1 => vgo_same kk hHR hS (hL.back (v := .ref v) rfl hk h1)
      · cases hs
    · rename_i r
      split at hs
      · rename_i hk
        cases hs
        exact lv_astore_nN hx hb hd rfl hL.has (by rw [← hL.2.1]; exact hk) rfl fun ars1 h1 => vgo_same kk hHR hS (hL.back (v := .null) rfl hk h1)
      · cases hs
    · cases hs
  · obtain rfl := vlen_of (n := 3) hcode rfl (by decide)
    simp only [vstep] at hs
    split at hs
    · rename_i v hv
      cases hs
      obtain ⟨q, hq⟩ := vas_at (sb := sb) (b := b) hv
      have hk : k < ls.length := (List.getElem?_eq_some_iff.mp (vld_some.mp hv)).1
      exact lv_iinc hx hb hd hL.has hq rfl (by rw [← hL.2.1]; exact hk) rfl fun ars1 h1 => vgo_same kk hHR hS (hL.back (v := .int (v + Int32.ofInt n)) rfl hk h1)
    · cases hs
set_option maxHeartbeats 4000000 in
theorem vsnd_if {i : Instr} {len r1 r2 : Nat} {y : vS} (hi : (∃ k off, i = .ifCond k off) ∨ (∃ k off, i = .if_icmp k off)) (C : vCx D cA mi p R s m args meth c) (hcode : vcode mi pc = some (i, len, r1, r2)) (hs : vstep (i, len, r1, r2) pc ls st h = some y) (hL : vLs sb b ars ls (vmaxL mi)) (hHR : vHR D cA sb b s h H) (hS : va_S (vFr b) H0 H locs) (kk : vGo p l e R s m args below meth c Q D cA sb b mi H0 cells slots h y) : W p l e R s m args below meth c H locs cells slots Q (F0 m pc ars (st.map (vsh sb b))) := by
  obtain ⟨hx, hb, -⟩ := C
  have hd := vdec hcode
  rcases hi with ⟨k, off, rfl⟩ | ⟨k, off, rfl⟩
  · obtain rfl := vlen_of (n := 3) hcode rfl (by decide)
    simp only [vstep] at hs
    split at hs
    · rename_i v r
      split at hs
      · rename_i hc
        obtain ⟨hj, rfl⟩ := vjump_some hs
        cases k <;> simp only [vcmp, decide_eq_true_eq] at hc
        · exact lv_if_eq hx hb hd hj (fun _ => vgo_same kk hHR hS hL) (fun q => absurd hc q)
        · exact lv_if_ne hx hb hd hj (fun _ => vgo_same kk hHR hS hL) (fun q => absurd q hc)
        · exact lv_if_lt hx hb hd hj (fun _ => vgo_same kk hHR hS hL) (fun q => absurd hc q)
        · exact lv_if_ge hx hb hd hj (fun _ => vgo_same kk hHR hS hL) (fun q => absurd hc q)
        · exact lv_if_gt hx hb hd hj (fun _ => vgo_same kk hHR hS hL) (fun q => absurd hc q)
        · exact lv_if_le hx hb hd hj (fun _ => vgo_same kk hHR hS hL) (fun q => absurd hc q)
      · rename_i hc
        cases hs
        have hj : (pc : Int) + off = (vtgt pc off : Nat) := vtgt_eq (vok_if hcode)
        cases k <;> simp only [vcmp, decide_eq_true_eq] at hc
        · exact lv_if_eq hx hb hd hj (fun q => absurd q hc) (fun _ => vgo_same kk hHR hS hL)
        · exact lv_if_ne hx hb hd hj (fun q => absurd q hc) (fun _ => vgo_same kk hHR hS hL)
        · exact lv_if_lt hx hb hd hj (fun q => absurd q hc) (fun _ => vgo_same kk hHR hS hL)
        · exact lv_if_ge hx hb hd hj (fun q => absurd q hc) (fun _ => vgo_same kk hHR hS hL)
        · exact lv_if_gt hx hb hd hj (fun q => absurd q hc) (fun _ => vgo_same kk hHR hS hL)
        · exact lv_if_le hx hb hd hj (fun q => absurd q hc) (fun _ => vgo_same kk hHR hS hL)
    · cases hs
  · obtain rfl := vlen_of (n := 3) hcode rfl (by decide)
    simp only [vstep] at hs
    split at hs
    · rename_i w v r
      split at hs
      · rename_i hc
        obtain ⟨hj, rfl⟩ := vjump_some hs
        cases k <;> simp only [vcmp, decide_eq_true_eq] at hc
        · exact lv_icmp_eq hx hb hd hj (fun _ => vgo_same kk hHR hS hL) (fun q => absurd hc q)
        · exact lv_icmp_ne hx hb hd hj (fun _ => vgo_same kk hHR hS hL) (fun q => absurd q hc)
        · exact lv_icmp_lt hx hb hd hj (fun _ => vgo_same kk hHR hS hL) (fun q => absurd hc q)
        · exact lv_icmp_ge hx hb hd hj (fun _ => vgo_same kk hHR hS hL) (fun q => absurd hc q)
        · exact lv_icmp_gt hx hb hd hj (fun _ => vgo_same kk hHR hS hL) (fun q => absurd hc q)
        · exact lv_icmp_le hx hb hd hj (fun _ => vgo_same kk hHR hS hL) (fun q => absurd hc q)
      · rename_i hc
        cases hs
        have hj : (pc : Int) + off = (vtgt pc off : Nat) := vtgt_eq (vok_icmp hcode)
        cases k <;> simp only [vcmp, decide_eq_true_eq] at hc
        · exact lv_icmp_eq hx hb hd hj (fun q => absurd q hc) (fun _ => vgo_same kk hHR hS hL)
        · exact lv_icmp_ne hx hb hd hj (fun q => absurd q hc) (fun _ => vgo_same kk hHR hS hL)
        · exact lv_icmp_lt hx hb hd hj (fun q => absurd q hc) (fun _ => vgo_same kk hHR hS hL)
        · exact lv_icmp_ge hx hb hd hj (fun q => absurd q hc) (fun _ => vgo_same kk hHR hS hL)
        · exact lv_icmp_gt hx hb hd hj (fun q => absurd q hc) (fun _ => vgo_same kk hHR hS hL)
        · exact lv_icmp_le hx hb hd hj (fun q => absurd q hc) (fun _ => vgo_same kk hHR hS hL)
    · cases hs
set_option maxHeartbeats 8000000 in
theorem vstep_snd {x : vI} {y : vS} (C : vCx D cA mi p R s m args meth c) (hcode : vcode mi pc = some x) (hk : vkind x = 0) (hs : vstep x pc ls st h = some y) (hL : vLs sb b ars ls (vmaxL mi)) (hHR : vHR D cA sb b s h H) (hS : va_S (vFr b) H0 H locs) (hc1 : cells + (y.2.2.2.length - h.length) ≤ R.cells) (hc2 : slots + (vz y.2.2.2 - vz h) ≤ R.slots) (kk : vGo p l e R s m args below meth c Q D cA sb b mi H0 cells slots h y) : W p l e R s m args below meth c H locs cells slots Q (F0 m pc ars (st.map (vsh sb b))) := by
  obtain ⟨i, len, r1, r2⟩ := x
  have hd := vdec hcode
  have C0 := C
  obtain ⟨hx, hb, hml, hown, hts, hK, hfr, hlo, hini⟩ := C
  cases i with
  | iload k => exact vsnd_load (Or.inl ⟨k, rfl⟩) C0 hcode hs hL hHR hS kk
  | iload_n k => exact vsnd_load (Or.inr (Or.inl ⟨k, rfl⟩)) C0 hcode hs hL hHR hS kk
  | aload k => exact vsnd_load (Or.inr (Or.inr (Or.inl ⟨k, rfl⟩))) C0 hcode hs hL hHR hS kk
  | aload_n k => exact vsnd_load (Or.inr (Or.inr (Or.inr ⟨k, rfl⟩))) C0 hcode hs hL hHR hS kk
  | istore k => exact vsnd_store (Or.inl ⟨k, rfl⟩) C0 hcode hs hL hHR hS kk
  | istore_n k => exact vsnd_store (Or.inr (Or.inl ⟨k, rfl⟩)) C0 hcode hs hL hHR hS kk
  | astore k => exact vsnd_store (Or.inr (Or.inr (Or.inl ⟨k, rfl⟩))) C0 hcode hs hL hHR hS kk
  | astore_n k => exact vsnd_store (Or.inr (Or.inr (Or.inr (Or.inl ⟨k, rfl⟩)))) C0 hcode hs hL hHR hS kk
  | iinc k n => exact vsnd_store (Or.inr (Or.inr (Or.inr (Or.inr ⟨k, n, rfl⟩)))) C0 hcode hs hL hHR hS kk
  | ifCond k off => exact vsnd_if (Or.inl ⟨k, off, rfl⟩) C0 hcode hs hL hHR hS kk
  | if_icmp k off => exact vsnd_if (Or.inr ⟨k, off, rfl⟩) C0 hcode hs hL hHR hS kk
  | getfield idx => obtain rfl := vlen_of (n := 3) hcode rfl (by decide); exact vsnd_get C0 hcode hs hL hHR hS kk
  | putfield idx => obtain rfl := vlen_of (n := 3) hcode rfl (by decide); exact vsnd_put C0 hcode hs hL hHR hS kk
  | iaload => obtain rfl := vlen_of (n := 1) hcode rfl (by decide); exact vsnd_iald C0 hcode hs hL hHR hS kk
  | baload => obtain rfl := vlen_of (n := 1) hcode rfl (by decide); exact vsnd_zald C0 hcode hs hL hHR hS kk
  | aaload => obtain rfl := vlen_of (n := 1) hcode rfl (by decide); exact vsnd_aald C0 hcode hs hL hHR hS kk
  | iastore => obtain rfl := vlen_of (n := 1) hcode rfl (by decide); exact vsnd_iast C0 hcode hs hL hHR hS kk
  | bastore => obtain rfl := vlen_of (n := 1) hcode rfl (by decide); exact vsnd_zast C0 hcode hs hL hHR hS kk
  | aastore => obtain rfl := vlen_of (n := 1) hcode rfl (by decide); exact vsnd_aast C0 hcode hs hL hHR hS kk
  | arraylength => obtain rfl := vlen_of (n := 1) hcode rfl (by decide); exact vsnd_alen C0 hcode hs hL hHR hS kk
  | new idx => obtain rfl := vlen_of (n := 3) hcode rfl (by decide); exact vsnd_new C0 hcode hs hL hHR hS hc1 hc2 kk
  | newarray t => obtain rfl := vlen_of (n := 2) hcode rfl (by decide); exact vsnd_newa C0 hcode hs hL hHR hS hc1 hc2 kk
  | anewarray idx => obtain rfl := vlen_of (n := 3) hcode rfl (by decide); exact vsnd_anew C0 hcode hs hL hHR hS hc1 hc2 kk
  | invokespecial idx => obtain rfl := vlen_of (n := 3) hcode rfl (by decide); exact vsnd_oinit C0 hcode hs hL hHR hS kk
  | invokestatic idx => obtain rfl := vlen_of (n := 3) hcode rfl (by decide); exact vsnd_stat C0 hcode hs hL hHR hS (by omega) (by omega) kk
  | iconst n => obtain rfl := vlen_of (n := 1) hcode rfl (by decide); simp only [vstep] at hs; cases hs; exact lv_iconst hx hb hd rfl (vgo_same kk hHR hS hL)
  | bipush n => obtain rfl := vlen_of (n := 2) hcode rfl (by decide); simp only [vstep] at hs; cases hs; exact lv_bipush hx hb hd rfl (vgo_same kk hHR hS hL)
  | sipush n => obtain rfl := vlen_of (n := 3) hcode rfl (by decide); simp only [vstep] at hs; cases hs; exact lv_sipush hx hb hd rfl (vgo_same kk hHR hS hL)
  | ldc idx => obtain rfl := vlen_of (n := 2) hcode rfl (by decide); simp only [vstep] at hs; cases hs; exact lv_ldc hx hb hown (hts _ (vok_ldc hcode)) hd (vgo_same kk hHR hS hL)
  | ldc_w idx => obtain rfl := vlen_of (n := 3) hcode rfl (by decide); simp only [vstep] at hs; cases hs; exact lv_ldcw hx hb hown (hts _ (vok_ldcw hcode)) hd (vgo_same kk hHR hS hL)
  | aconst_null => obtain rfl := vlen_of (n := 1) hcode rfl (by decide); simp only [vstep] at hs; cases hs; exact lv_null hx hb hd (vgo_same kk hHR hS hL)
  | iadd =>
    obtain rfl := vlen_of (n := 1) hcode rfl (by decide); simp only [vstep] at hs
    split at hs
    · cases hs; exact lv_iadd hx hb hd (vgo_same kk hHR hS hL)
    · cases hs
  | isub =>
    obtain rfl := vlen_of (n := 1) hcode rfl (by decide); simp only [vstep] at hs
    split at hs
    · cases hs; exact lv_isub hx hb hd (vgo_same kk hHR hS hL)
    · cases hs
  | imul =>
    obtain rfl := vlen_of (n := 1) hcode rfl (by decide); simp only [vstep] at hs
    split at hs
    · cases hs; exact lv_imul hx hb hd (vgo_same kk hHR hS hL)
    · cases hs
  | iand =>
    obtain rfl := vlen_of (n := 1) hcode rfl (by decide); simp only [vstep] at hs
    split at hs
    · cases hs; exact lv_iand hx hb hd (vgo_same kk hHR hS hL)
    · cases hs
  | ishr =>
    obtain rfl := vlen_of (n := 1) hcode rfl (by decide); simp only [vstep] at hs
    split at hs
    · cases hs; exact lv_ishr hx hb hd (vgo_same kk hHR hS hL)
    · cases hs
  | idiv =>
    obtain rfl := vlen_of (n := 1) hcode rfl (by decide); simp only [vstep] at hs
    split at hs
    · split at hs
      · cases hs
      · rename_i hne
        cases hs; exact lv_idiv hx hb hd hne (vgo_same kk hHR hS hL)
    · cases hs
  | irem =>
    obtain rfl := vlen_of (n := 1) hcode rfl (by decide); simp only [vstep] at hs
    split at hs
    · split at hs
      · cases hs
      · rename_i hne
        cases hs; exact lv_irem hx hb hd hne (vgo_same kk hHR hS hL)
    · cases hs
  | dup =>
    obtain rfl := vlen_of (n := 1) hcode rfl (by decide); simp only [vstep] at hs
    split at hs
    · cases hs; exact lv_dup hx hb hd rfl (vgo_same kk hHR hS hL)
    · cases hs; exact lv_dup hx hb hd rfl (vgo_same kk hHR hS hL)
    · cases hs
  | pop =>
    obtain rfl := vlen_of (n := 1) hcode rfl (by decide); simp only [vstep] at hs
    split at hs
    · cases hs; exact lv_pop hx hb hd rfl (vgo_same kk hHR hS hL)
    · cases hs; exact lv_pop hx hb hd rfl (vgo_same kk hHR hS hL)
    · cases hs
  | ifnull off =>
    obtain rfl := vlen_of (n := 3) hcode rfl (by decide); simp only [vstep] at hs
    split at hs
    · cases hs; exact lv_ifnull hx hb hd (vgo_same kk hHR hS hL)
    · obtain ⟨hj, rfl⟩ := vjump_some hs; exact lv_ifnullN hx hb hd hj (vgo_same kk hHR hS hL)
    · cases hs
  | ifnonnull off =>
    obtain rfl := vlen_of (n := 3) hcode rfl (by decide); simp only [vstep] at hs
    split at hs
    · obtain ⟨hj, rfl⟩ := vjump_some hs; exact lv_ifnonnull hx hb hd hj (vgo_same kk hHR hS hL)
    · cases hs; exact lv_ifnonnullN hx hb hd (vgo_same kk hHR hS hL)
    · cases hs
  | goto off =>
    obtain rfl := vlen_of (n := 3) hcode rfl (by decide); simp only [vstep] at hs
    obtain ⟨hj, rfl⟩ := vjump_some hs; exact lv_goto hx hb hd hj (vgo_same kk hHR hS hL)
  | tableswitch d lo hi offs =>
    simp only [vstep] at hs
    split at hs
    · split at hs
      · rename_i hout
        obtain ⟨hj, rfl⟩ := vjump_some hs; exact lv_tableOut hx hb hd hout hj (vgo_same kk hHR hS hL)
      · rename_i hout
        split at hs
        · rename_i off hoff
          obtain ⟨hj, rfl⟩ := vjump_some hs; exact lv_tableIn hx hb hd (fun q => hout (Or.inl q)) (fun q => hout (Or.inr q)) hoff hj (vgo_same kk hHR hS hL)
        · cases hs
    · cases hs
  | lookupswitch d ps =>
    simp only [vstep] at hs
    split at hs
    · split at hs
      · rename_i hp
        obtain ⟨hj, rfl⟩ := vjump_some hs; exact lv_lookup hx hb hd hp rfl hj (vgo_same kk hHR hS hL)
      · cases hs
    · cases hs
  | _ => first | (simp [vstep] at hs; done) | (simp [vkind] at hk; done)
end VALL
end
section
/-! the small machine's run is the machine's run -/
theorem vretv_h {mi : Nat} {x : vI} {st : List Value} {h h1 : vH} {v : Option Value} (hr : vretv mi x st h = some (v, h1)) : h1 = h := by
  unfold vretv at hr
  split at hr
  · split at hr
    · cases hr; rfl
    · cases hr
  · split at hr
    · cases hr; rfl
    · split at hr
      · cases hr; rfl
      · cases hr
    · cases hr
  · split at hr
    · cases hr; rfl
    · cases hr
  · split at hr
    · cases hr; rfl
    · cases hr
  · cases hr
theorem vstep_mono {x : vI} {pc : Nat} {ls : vL} {st : List Value} {h : vH} {y : vS} (hs : vstep x pc ls st h = some y) : h.length ≤ y.2.2.2.length ∧ vz h ≤ vz y.2.2.2 := by
  obtain ⟨i, len, r1, r2⟩ := x
  have same : ∀ {pc1 : Nat} {ls1 : vL} {st1 : List Value}, some (pc1, ls1, st1, h) = some y → h.length ≤ y.2.2.2.length ∧ vz h ≤ vz y.2.2.2 := fun hq => by
    cases hq
    exact ⟨Nat.le_refl _, Nat.le_refl _⟩
  have jmp : ∀ {off : Int} {r : List Value}, vjump pc off ls r h = some y → h.length ≤ y.2.2.2.length ∧ vz h ≤ vz y.2.2.2 := fun hq => by
    obtain ⟨-, rfl⟩ := vjump_some hq
    exact ⟨Nat.le_refl _, Nat.le_refl _⟩
  have psh : ∀ {pc1 : Nat} {ls1 : vL} {st1 : List Value} {c : vC}, some (pc1, ls1, st1, h ++ [c]) = some y → h.length ≤ y.2.2.2.length ∧ vz h ≤ vz y.2.2.2 := fun hq => by
    cases hq
    exact ⟨by simp, by simp only [vz_push]; omega⟩
  have sett : ∀ {pc1 : Nat} {ls1 : vL} {st1 : List Value} {a t : Nat} {l l1 : List Value}, h[a]? = some (t, l) → l1.length = l.length → some (pc1, ls1, st1, h.set a (t, l1)) = some y → h.length ≤ y.2.2.2.length ∧ vz h ≤ vz y.2.2.2 := fun ha hl hq => by
    cases hq
    refine ⟨by simp, ?_⟩
    show vz h ≤ vz (h.set _ _)
    rw [vz_set h _ _ _ ha (by exact hl)]
    exact Nat.le_refl _
  cases i <;> simp only [vstep] at hs <;> first
    | (cases hs; done)
    | exact same hs
    | exact jmp hs
    | exact psh hs
    | (repeat' (split at hs)) <;> first
      | (cases hs; done)
      | exact same hs
      | exact jmp hs
      | exact psh hs
      | exact sett (by assumption) (by simp) hs
      | (rename_i hc; exact sett (by assumption) (by unfold vcpy; simp; omega) hs)
theorem vexec_mono {f mi pc : Nat} {ls : vL} {st : List Value} {h h1 : vH} {v : Option Value} (hs : vexec f mi pc ls st h = some (v, h1)) : h.length ≤ h1.length ∧ vz h ≤ vz h1 := by
  induction f generalizing mi pc ls st h h1 v with
  | zero => cases hs
  | succ f ih =>
    unfold vexec at hs
    split at hs
    · cases hs
    · rename_i x hx
      split at hs
      · split at hs
        · cases hs
        · rename_i y hy
          have h1 := vstep_mono hy
          have h2 := ih hs
          exact ⟨Nat.le_trans h1.1 h2.1, Nat.le_trans h1.2 h2.2⟩
      · rw [vretv_h hs]
        exact ⟨Nat.le_refl _, Nat.le_refl _⟩
      · split at hs
        · cases hs
        · split at hs
          · cases hs
          · rename_i v1 h2 hv1
            have g1 := ih hv1
            have g2 := ih hs
            exact ⟨Nat.le_trans g1.1 g2.1, Nat.le_trans g1.2 g2.2⟩
theorem vcall_spec {mi : Nat} {x : vI} {st as r : List Value} {h : vH} (hc : vcall mi x st h = some (as, r)) : st = as.reverse ++ r ∧ as.length = x.2.2.2 ∧ r.length ≤ 4 ∧ vrk x.2.2.1 < vrk mi ∧ vrecv x as h = true ∧ ∀ v ∈ as, v.category = 1 := by
  unfold vcall at hc
  split at hc
  · rename_i hq
    obtain ⟨h1, h2, h3, h4, h5⟩ := hq
    cases hc
    refine ⟨by rw [List.reverse_reverse, List.take_append_drop], by rw [List.length_reverse, List.length_take]; omega, h2, h3, h4, fun v hv => ?_⟩
    have := List.all_eq_true.mp h5 v (List.mem_reverse.mp hv)
    simpa using this
  · cases hc
def vPc (D : va_G) (cA : Nat → ClassId) (sb b : Nat) (as : List Value) (h : vH) : Array Value → State → Prop := fun v U => v = (as.map (vsh sb b)).toArray ∧ vHR D cA sb b U h U.heap ∧ vKn D cA U
def vQc (D : va_G) (cA : Nat → ClassId) (sb b : Nat) (v : Option Value) (h : vH) : Array Value → State → Outcome → State → Prop := fun _ st oc t => oc = .returned (v.map (vsh sb b)) ∧ vHR D cA sb b t h t.heap ∧ va_F (vFr b) st t
def vrm (r lo mc ms : Nat) : Room := { frames := r, cells := mc, slots := ms, locals := lo }
def vws (mi : Nat) : List Cond := Cond.code (vy mi) (vbytes mi) (vmaxL mi) (vret mi) :: vWS
theorem vgood_ok {w : Cond} (h : w ∈ vWS) : (w.onTables && w.keeps) = true ∨ ∃ ty, w = .arrayClass ty := by
  have h1 := (List.mem_filter.mp h).2
  unfold vgood at h1
  rcases Bool.or_eq_true_iff.mp h1 with h2 | h2
  · exact Or.inl h2
  · right
    split at h2
    · exact ⟨_, rfl⟩
    · cases h2
theorem vgoodIn {mi : Nat} (hc : Cond.code (vy mi) (vbytes mi) (vmaxL mi) (vret mi) ∈ vWS) : GoodIn vWS (vws mi) := by
  intro w hw
  rcases List.mem_cons.mp hw with rfl | hw
  · exact ⟨hc, vgood_ok hc⟩
  · exact ⟨hw, vgood_ok hw⟩
theorem vHR_vm {D : va_G} {cA : Nat → ClassId} {sb b : Nat} {U V : State} {h : vH} {H : Heap} (e : U.vm = V.vm) (hh : vHR D cA sb b U h H) : vHR D cA sb b V h H := hh.moved (by rw [e]; exact Vm.Alike.refl V.vm)
theorem vPc_blind {D : va_G} {cA : Nat → ClassId} {sb b : Nat} {as : List Value} {h : vH} : FrameBlind (vPc D cA sb b as h) := by
  intro a U g mk hq
  obtain ⟨h1, h2, h3⟩ := hq
  refine ⟨h1, vHR_vm (U := U) (V := U.calling g mk a) rfl h2, va_K.moved (u := U) (U := U.calling g mk a) (Vm.Alike.refl U.vm) h3.1, fun w hw hn => ?_, h3.2.2.1.moved (u := U) (U := U.calling g mk a) (Vm.Alike.refl U.vm), h3.2.2.2.moved (u := U) (U := U.calling g mk a) (Vm.Alike.refl U.vm)⟩
  have h4 := h3.2.1 w hw hn
  cases w <;> first | exact va_Nw.same rfl (u := U) (U := U.calling g mk a) rfl h4 | (simp [vnest] at hn; done)
section VCALL
variable {p : Program} {l : Launch} {e : Env} {R : Room} {s : State} {m : MethodId} {args : Array Value} {below : List Frame} {meth : Method} {c : Code} {H : Heap} {locs : List Loc} {cells slots : Nat} {Q : State → Prop}
variable {D : va_G} {cA : Nat → ClassId} {sb b mi pc : Nat} {ls : vL} {st : List Value} {h : vH} {ars : Array Slot} {H0 : Heap}
theorem vW_call {mc ms : Nat} {v1 : Option Value} {h2 : vH} {a : Array Value} {st0 rest : List Value} (hr : va_Run p l e R s m args below meth c H locs cells slots mc ms (F0 m pc ars st0) rest (vQc D cA sb b v1 h2 a) (vFr b)) (hS : va_S (vFr b) H0 H locs)
    (kk : ∀ (H1 : Heap) (locs1 : List Loc), vHR D cA sb b s h2 H1 → va_S (vFr b) H0 H1 locs1 → W p l e R s m args below meth c H1 locs1 (cells + mc) (slots + ms) Q (F0 m (pc + 3) ars ((v1.map (vsh sb b)).toList ++ rest))) : W p l e R s m args below meth c H locs cells slots Q (F0 m pc ars st0) := by
  intro T hT X
  obtain ⟨v, st₀, t, T', L, h0, X', hL, e1, e2, ⟨hv, hh, hz, hk⟩, st⟩ := hr T hT X
  cases hv
  rw [h0] at hz hk
  have hAl : s.vm.Alike t.vm := by rw [← e2]; exact X'.warmed.alike
  obtain ⟨t2, a1, b1⟩ := kk T'.heap (locs ++ L) (by rw [e1]; exact hh.moved hAl.symm)
    ⟨Nat.le_trans hS.1 (by rw [e1]; exact hz), fun q h1 h2 => by rw [e1, hk q (Nat.lt_of_lt_of_le h1 hS.1) h2]; exact hS.2.1 q h1 h2, fun q hq => by
      rcases List.mem_append.mp hq with h | h
      · exact hS.2.2 q h
      · exact hL q h⟩ T' rfl X'
  exact ⟨t2, st t2 a1, b1⟩
/-- how a body ends -/
abbrev vEnd (p : Program) (l : Launch) (e : Env) (R : Room) (s : State) (m : MethodId) (args : Array Value) (below : List Frame) (meth : Method) (c : Code) (Q : State → Prop) (D : va_G) (cA : Nat → ClassId) (sb b mi : Nat) (H0 : Heap) (cells slots : Nat) (v : Option Value) (h : vH) : Prop :=
  ∀ (H1 : Heap) (locs1 : List Loc) (ars1 : Array Slot) (pc1 : Nat) (x : vI) (st1 : List Value), vcode mi pc1 = some x → vretv mi x st1 h = some (v, h) → vHR D cA sb b s h H1 → va_S (vFr b) H0 H1 locs1 → W p l e R s m args below meth c H1 locs1 cells slots Q (F0 m pc1 ars1 (st1.map (vsh sb b)))
end VCALL
/-- soundness at a fuel -/
def vSnd (l : Launch) (D : va_G) (cA : Nat → ClassId) (sb b f : Nat) : Prop :=
  ∀ {mi pc : Nat} {ls : vL} {st : List Value} {h h1 : vH} {v : Option Value}, vexec f mi pc ls st h = some (v, h1) →
  ∀ {p : Program} {e : Env} {R : Room} {s : State} {m : MethodId} {args : Array Value} {below : List Frame} {meth : Method} {c : Code} {H : Heap} {locs : List Loc} {cells slots : Nat} {Q : State → Prop} {H0 : Heap} {ars : Array Slot},
  vCx D cA mi p R s m args meth c → vLs sb b ars ls (vmaxL mi) → vHR D cA sb b s h H → va_S (vFr b) H0 H locs → cells + (h1.length - h.length) ≤ R.cells → slots + (vz h1 - vz h) ≤ R.slots →
  vEnd p l e R s m args below meth c Q D cA sb b mi H0 (cells + (h1.length - h.length)) (slots + (vz h1 - vz h)) v h1 →
  W p l e R s m args below meth c H locs cells slots Q (F0 m pc ars (st.map (vsh sb b)))
theorem vLs_entry {sb b : Nat} {as : List Value} {nL : Nat} (hc : ∀ v ∈ as, v.category = 1) (hn : as.length ≤ nL) : vLs sb b (((as.map (vsh sb b)).map Slot.val ++ List.replicate (nL - (as.map (vsh sb b)).length) Slot.unset).toArray) (as.map some ++ List.replicate (nL - as.length) none) nL := by
  have hcase : ∀ (i : Nat) (x : Slot), (((as.map (vsh sb b)).map Slot.val ++ List.replicate (nL - (as.map (vsh sb b)).length) Slot.unset).toArray)[i]? = some x → x = .unset ∨ ∃ v, x = .val v ∧ v.category = 1 := by
    intro i x hx
    rw [List.getElem?_toArray] at hx
    rcases List.mem_append.mp (List.mem_of_getElem? hx) with h1 | h1
    · right
      obtain ⟨w, hw, rfl⟩ := List.mem_map.mp h1
      obtain ⟨u, hu, rfl⟩ := List.mem_map.mp hw
      exact ⟨_, rfl, by rw [vsh_cat]; exact hc u hu⟩
    · left
      exact (List.mem_replicate.mp h1).2
  refine ⟨by simp; omega, by simp; omega, ⟨fun i v h1 h2 => ?_, fun i h1 => ?_⟩, fun i v hi => ?_⟩
  · rcases hcase i _ h1 with h3 | ⟨w, h3, h4⟩
    · cases h3
    · cases h3; omega
  · rcases hcase i _ h1 with h3 | ⟨w, h3, h4⟩
    · cases h3
    · cases h3
  · by_cases hl : i < as.length
    · rw [List.getElem?_append_left (by simpa using hl), List.getElem?_map, Option.map_eq_some_iff] at hi
      obtain ⟨w, hw, hwv⟩ := hi
      cases hwv
      refine ⟨?_, hc v (List.mem_of_getElem? hw)⟩
      rw [List.getElem?_toArray, List.getElem?_append_left (by simpa using hl), List.getElem?_map, List.getElem?_map, hw]
      rfl
    · rw [List.getElem?_append_right (by simpa using hl)] at hi
      have := (List.mem_replicate.mp (List.mem_of_getElem? hi)).2
      cases this
set_option maxHeartbeats 4000000 in
theorem vmet {l : Launch} {D : va_G} {cA : Nat → ClassId} {sb b f : Nat} (ih : vSnd l D cA sb b f) {cm : Nat} {as : List Value} {h h1 : vH} {v : Option Value} (hv : vexec f cm 0 (vinit cm as) [] h = some (v, h1)) (hcat : ∀ u ∈ as, u.category = 1) (hst : vstat cm) (hn : as.length ≤ vmaxL cm) : Met l (vy cm) (vws cm) (vrm (vrk cm) (vlo cm) (h1.length - h.length) (vz h1 - vz h)) (vPc D cA sb b as h) (vQc D cA sb b v h1) (h1.length - h.length) (vz h1 - vz h) (vFr b) := by
  obtain ⟨s1, s2, s3, -⟩ := hst
  refine Met.ofW (cc := vbytes cm) (maxL := vmaxL cm) (ret := vret cm) s1 rfl ?_
  intro p e s m args below meth c s₁ B hml hq
  obtain ⟨rfl, hHR, hK⟩ := hq
  have hts := atoms_spec (ws := vws cm) B.pre
  have hr := B.returns
  have hb := B.bytes
  have hx := B.exec
  have hown : s.vm.findClass (vown cm) = some m.cls := by rw [← s2]; exact findClass_of_methodNamed B.named
  have hlocks := B.notSynchronized
  have C : vCx D cA cm p (headSpec (vws cm) (vrm (vrk cm) (vlo cm) (h1.length - h.length) (vz h1 - vz h))).room s m (as.map (vsh sb b)).toArray meth c :=
    ⟨hx, hb, hml, hown, fun w hw => hts w (List.mem_cons_of_mem _ hw), hK, Nat.le_refl _, Nat.le_refl _, fun h2 => by rw [(name_of_methodNamed B.named B.method).1]; exact (s3 h2).1⟩
  rw [entry_eq m (as.map (vsh sb b)) (fun u hu => by obtain ⟨w, hw, rfl⟩ := List.mem_map.mp hu; rw [vsh_cat]; exact hcat w hw)]
  refine ih hv (st := []) C (vLs_entry hcat hn) hHR va_S.rf (by show 0 + _ ≤ h1.length - h.length; omega) (by show 0 + _ ≤ vz h1 - vz h; omega) ?_
  intro H1 locs1 ars1 pc1 x st1 hcode hret hHR1 hS1
  rw [Nat.zero_add, Nat.zero_add]
  have hd := vdec hcode
  obtain ⟨i, len, r1, r2⟩ := x
  unfold vretv at hret
  have fin : ∀ t : State, t.heap = H1 → s.WarmedH t.vm → vQc D cA sb b v h1 (as.map (vsh sb b)).toArray s (.returned (v.map (vsh sb b))) t := fun t ht hW => ⟨rfl, by rw [ht]; exact hHR1.moved hW.alike, hS1.F ht⟩
  split at hret
  · rename_i hi
    cases hi
    split at hret
    · rename_i hrr
      cases hret
      obtain rfl := vlen_of (n := 1) hcode rfl (by decide)
      exact W.vret hx hb (by rw [hr, hrr]) fin hS1.2.2 hd
    · cases hret
  · rename_i w hi
    cases hi
    obtain rfl := vlen_of (n := 1) hcode rfl (by decide)
    split at hret
    · rename_i hrr
      cases hret
      exact W.iret hx hb (by rw [hr, hrr]) fin hS1.2.2 hd
    · rename_i hrr
      split at hret
      · rename_i hw
        cases hret
        exact W.zret hx hb (by rw [hr, hrr]) (by rw [vand1, hw]) fin hS1.2.2 hd
      · cases hret
    · cases hret
  · rename_i w hi
    cases hi
    obtain rfl := vlen_of (n := 1) hcode rfl (by decide)
    split at hret
    · rename_i n hrr
      cases hret
      exact W.aret hx hb (by rw [hr, hrr]) (Or.inl ⟨_, rfl⟩) (Or.inr ⟨_, rfl⟩) fin hS1.2.2 hd
    · cases hret
  · rename_i hi
    cases hi
    obtain rfl := vlen_of (n := 1) hcode rfl (by decide)
    split at hret
    · rename_i n hrr
      cases hret
      exact W.aret hx hb (by rw [hr, hrr]) (Or.inl ⟨_, rfl⟩) (Or.inl rfl) fin hS1.2.2 hd
    · cases hret
  · cases hret
set_option maxHeartbeats 4000000 in
theorem vrun {l : Launch} {D : va_G} {cA : Nat → ClassId} {sb b f : Nat} (ih : vSnd l D cA sb b f) {mi pc : Nat} {st as r : List Value} {h h1 : vH} {v : Option Value} {x : vI} (hcode : vcode mi pc = some x) (hk : 2 ≤ vkind x) (hc : vcall mi x st h = some (as, r)) (hv : vexec f x.2.2.1 0 (vinit x.2.2.1 as) [] h = some (v, h1))
    {p : Program} {e : Env} {R : Room} {s : State} {m : MethodId} {args : Array Value} {below : List Frame} {meth : Method} {c : Code} {H : Heap} {locs : List Loc} {cells slots : Nat} {ars : Array Slot}
    (C : vCx D cA mi p R s m args meth c) (hL : ars.size = vmaxL mi) (hHR : vHR D cA sb b s h H) (hc1 : cells + (h1.length - h.length) ≤ R.cells) (hc2 : slots + (vz h1 - vz h) ≤ R.slots) :
    va_Run p l e R s m args below meth c H locs cells slots (h1.length - h.length) (vz h1 - vz h) (F0 m pc ars (st.map (vsh sb b))) (r.map (vsh sb b)) (vQc D cA sb b v h1 (as.map (vsh sb b)).toArray) (vFr b) := by
  obtain ⟨q1, q2, q3, q4, q5, q6⟩ := vcall_spec hc
  obtain ⟨hx, hb, hml, hown, hts, hK, hfr, hlo, hini⟩ := C
  obtain ⟨i, len, cm, na⟩ := x
  simp only at q2 q4 hv ⊢
  have hd := vdec hcode
  have hsum := vcat_sum sb b q3
  have hp : ∀ U : State, U.heap = H → s.WarmedH U.vm → vPc D cA sb b as h (as.map (vsh sb b)).toArray U := fun U hU hW => ⟨rfl, by rw [hU]; exact hHR.moved hW.alike, hK.warm hW⟩
  cases i with
  | invokevirtual idx =>
    obtain rfl := vlen_of (n := 3) hcode rfl (by decide)
    obtain ⟨o2, o1, hkd, k1, k2, k3, k4, o7⟩ := vok_inv hcode
    have ⟨_, _, _, o0, o6, o5, _, p3, p4⟩ := o1
    have o3 := p3 (by omega)
    obtain ⟨o4, o9⟩ := p4 hkd
    have hM := vmet ih hv q6 o1 (by omega)
    have hR : (vrm (vrk cm) (vlo cm) (h1.length - h.length) (vz h1 - vz h)).frames + 1 ≤ R.frames ∧ 8 + (vmaxL cm + 11) + (vrm (vrk cm) (vlo cm) (h1.length - h.length) (vz h1 - vz h)).locals ≤ R.locals := by
      refine ⟨?_, ?_⟩
      · show vrk cm + 1 ≤ _
        omega
      · show 8 + (vmaxL cm + 11) + vlo cm ≤ _
        omega
    unfold vrecv at q5
    cases as with
    | nil => cases q5
    | cons a0 as =>
      cases a0 with
      | ref a =>
        simp only at q5
        split at q5
        · rename_i t fs hfs
          have ht : t = vci cm := of_decide_eq_true q5
          subst ht
          obtain ⟨q, hq, hqn⟩ := o9
          have hrecv := va_recv (q0 := 0) hK.1 (va_one (vat_obj (hHR.2.2.2 a _ hfs).2 (vcl_lt hq)).1) hq rfl
          rw [hqn] at hrecv
          have hstk : st.map (vsh sb b) = (as.map (vsh sb b)).reverse ++ .ref (vrho sb b a) :: r.map (vsh sb b) := by
            rw [q1]
            simp [vsh]
          have hlen : (as.map (vsh sb b)).length = na - 1 := by
            rw [List.length_map]
            simp only [List.length_cons] at q2
            omega
          rcases o2 with o2 | ⟨host, o2⟩
          · exact va_runV (Ts := vWS) (n := na - 1) ⟨hx, hb, hml, hown, hts⟩ hM ⟨callB_of (na - 1) hts (vgoodIn o6) rfl rfl rfl (hts _ o5) (hts _ o2) ⟨o0.1, o0.2, o7⟩ hR, hts _ o3, hts _ o4⟩ ⟨vPc_blind, hrecv, hp⟩ rfl hlen hL hstk (by show 2 * 0 + _ ≤ 8; omega) hd ⟨hc1, hc2⟩
          · exact va_runVN (Ts := vWS) (n := na - 1) ⟨hx, hb, hml, hown, hts⟩ hM ⟨va_cnB (na - 1) hts (vgoodIn o6) rfl rfl rfl (hK.2.1 _ o2 rfl) (hts _ o5) ⟨o0.1, o0.2, o7⟩ hR, hts _ o3, hts _ o4⟩ ⟨vPc_blind, hrecv, hp⟩ rfl hlen hL hstk (by show 2 * 0 + _ ≤ 8; omega) hd ⟨hc1, hc2⟩
        · cases q5
      | _ => cases q5
  | invokestatic idx =>
    obtain rfl := vlen_of (n := 3) hcode rfl (by decide)
    have hcm : cm < 1000 := Nat.not_le.mp fun hq => by simp [vkind, hq] at hk
    obtain ⟨o2, o1, hkd, k2, k3, k4, o7⟩ := vok_stat hcode hcm
    have ⟨_, _, _, o0, o6, o5, p2, _, _⟩ := o1
    have o3 := p2 hkd
    have hM := vmet ih hv q6 o1 (by omega)
    have hR : (vrm (vrk cm) (vlo cm) (h1.length - h.length) (vz h1 - vz h)).frames + 1 ≤ R.frames ∧ 8 + (vmaxL cm + 11) + (vrm (vrk cm) (vlo cm) (h1.length - h.length) (vz h1 - vz h)).locals ≤ R.locals := by
      refine ⟨?_, ?_⟩
      · show vrk cm + 1 ≤ _
        omega
      · show 8 + (vmaxL cm + 11) + vlo cm ≤ _
        omega
    have hstk : st.map (vsh sb b) = (as.map (vsh sb b)).reverse ++ r.map (vsh sb b) := by
      rw [q1]
      simp
    rcases o2 with o2 | ⟨host, o2⟩
    · exact va_runS (Ts := vWS) (n := na) ⟨hx, hb, hml, hown, hts⟩ hM ⟨callB_of na hts (vgoodIn o6) rfl rfl rfl (hts _ o5) (hts _ o2) ⟨o0.1, o0.2, o7⟩ hR, hts _ o3⟩ ⟨vPc_blind, hp⟩ rfl (by rw [List.length_map]; exact q2) hL hstk (by show 2 * 0 + _ ≤ 8; omega) hd ⟨hc1, hc2⟩
    · exact va_runSN (Ts := vWS) (n := na) ⟨hx, hb, hml, hown, hts⟩ hM ⟨va_cnB na hts (vgoodIn o6) rfl rfl rfl (hK.2.1 _ o2 rfl) (hts _ o5) ⟨o0.1, o0.2, o7⟩ hR, hts _ o3, trivial⟩ ⟨vPc_blind, hp⟩ rfl (by rw [List.length_map]; exact q2) hL hstk (by show 2 * 0 + _ ≤ 8; omega) hd ⟨hc1, hc2⟩
  | invokespecial idx =>
    obtain rfl := vlen_of (n := 3) hcode rfl (by decide)
    have hcm : cm < 1000 := Nat.not_le.mp fun hq => by simp [vkind, hq] at hk
    obtain ⟨o2, o1, hkd, k1, k2, k3, k4, o7⟩ := vok_spec hcode hcm
    have ⟨_, _, p1, o0, o6, o5, _, p3, _⟩ := o1
    have o3 := p3 (by omega)
    obtain ⟨o4, o9⟩ := p1 hkd
    have hM := vmet ih hv q6 o1 (by omega)
    have hR : (vrm (vrk cm) (vlo cm) (h1.length - h.length) (vz h1 - vz h)).frames + 1 ≤ R.frames ∧ 8 + (vmaxL cm + 11) + (vrm (vrk cm) (vlo cm) (h1.length - h.length) (vz h1 - vz h)).locals ≤ R.locals := by
      refine ⟨?_, ?_⟩
      · show vrk cm + 1 ≤ _
        omega
      · show 8 + (vmaxL cm + 11) + vlo cm ≤ _
        omega
    unfold vrecv at q5
    cases as with
    | nil => cases q5
    | cons a0 as =>
      cases a0 with
      | ref a =>
        have hstk : st.map (vsh sb b) = (as.map (vsh sb b)).reverse ++ .ref (vrho sb b a) :: r.map (vsh sb b) := by
          rw [q1]
          simp [vsh]
        have hlen : (as.map (vsh sb b)).length = na - 1 := by
          rw [List.length_map]
          simp only [List.length_cons] at q2
          omega
        have o6' : GoodIn vWS (vws cm) := vgoodIn o6
        unfold vws at o6' hM
        rw [o9] at o6' hM
        rcases o2 with o2 | ⟨host, o2⟩
        · exact va_runI (Ts := vWS) (n := na - 1) ⟨hx, hb, hml, hown, hts⟩ hM ⟨callB_of (na - 1) hts o6' rfl rfl rfl (hts _ o5) (hts _ o2) ⟨o0.1, o0.2, o7⟩ hR, o4, hts _ o3⟩ ⟨vPc_blind, hp⟩ rfl hlen hL hstk (by show 2 * 0 + _ ≤ 8; omega) hd ⟨hc1, hc2⟩
        · exact va_runIN (Ts := vWS) (n := na - 1) ⟨hx, hb, hml, hown, hts⟩ hM ⟨va_cnB (na - 1) hts o6' rfl rfl rfl (hK.2.1 _ o2 rfl) (hts _ o5) ⟨o0.1, o0.2, o7⟩ hR, o4, hts _ o3⟩ ⟨vPc_blind, hp⟩ rfl hlen hL hstk (by show 2 * 0 + _ ≤ 8; omega) hd ⟨hc1, hc2⟩
      | _ => cases q5
  | _ => exact absurd hk (by simp [vkind])
set_option maxHeartbeats 4000000 in
theorem vexec_snd (l : Launch) (D : va_G) (cA : Nat → ClassId) (sb b : Nat) : ∀ f, vSnd l D cA sb b f := by
  intro f
  induction f with
  | zero => intro mi pc ls st h h1 v hs; cases hs
  | succ f ih =>
    intro mi pc ls st h h1 v hs p e R s m args below meth c H locs cells slots Q H0 ars C hL hHR hS hc1 hc2 kk
    unfold vexec at hs
    split at hs
    · cases hs
    · rename_i x hx
      split at hs
      · rename_i hkd
        split at hs
        · cases hs
        · rename_i y hy
          have m1 := vstep_mono hy
          have m2 := vexec_mono hs
          refine vstep_snd C hx hkd hy hL hHR hS (by omega) (by omega) ?_
          intro H1 locs1 ars1 cells1 slots1 e1 e2 hL1 hHR1 hS1
          refine ih hs C hL1 hHR1 hS1 (by omega) (by omega) ?_
          rw [show cells1 + (h1.length - y.2.2.2.length) = cells + (h1.length - h.length) by omega, show slots1 + (vz h1 - vz y.2.2.2) = slots + (vz h1 - vz h) by omega]
          exact kk
      · rename_i hkd
        have e1 := vretv_h hs
        subst e1
        simp only [Nat.sub_self, Nat.add_zero] at kk
        exact kk H locs ars pc x st hx hs hHR hS
      · rename_i hk0 hk1
        split at hs
        · cases hs
        · rename_i as r hc
          split at hs
          · cases hs
          · rename_i v1 h2 hv1
            have m1 := vexec_mono hv1
            have m2 := vexec_mono hs
            have hk : 2 ≤ vkind x := by
              have : vkind x ≠ 0 := hk0
              have : vkind x ≠ 1 := hk1
              omega
            refine vW_call (vrun ih hx hk hc hv1 C hL.1 hHR (by omega) (by omega)) hS ?_
            intro H1 locs1 hHR1 hS1
            have e3 : (v1.map (vsh sb b)).toList ++ r.map (vsh sb b) = (v1.toList ++ r).map (vsh sb b) := by cases v1 <;> simp
            rw [e3]
            refine ih hs C hL hHR1 hS1 (by omega) (by omega) ?_
            rw [show cells + (h2.length - h.length) + (h1.length - h2.length) = cells + (h1.length - h.length) by omega, show slots + (vz h2 - vz h) + (vz h1 - vz h2) = slots + (vz h1 - vz h) by omega]
            exact kk
end
section
/-! the result of a run, as a function; one row an instruction is derived from these -/
theorem vexec_up {f mi pc : Nat} {ls : vL} {st : List Value} {h : vH} {r : Option Value × vH} (hs : vexec f mi pc ls st h = some r) : vexec (f + 1) mi pc ls st h = some r := by
  induction f generalizing mi pc ls st h r with
  | zero => cases hs
  | succ f ih =>
    unfold vexec at hs
    unfold vexec
    split at hs
    · cases hs
    · rename_i x hx
      split at hs
      · rename_i hkd
        split at hs
        · cases hs
        · rename_i y hy
          exact ih hs
      · exact hs
      · rename_i hk0 hk1
        split at hs
        · cases hs
        · rename_i as rr hc
          split at hs
          · cases hs
          · rename_i v1 h2 hv1
            simp only [ih hv1]
            exact ih hs
theorem vexec_le {f g mi pc : Nat} {ls : vL} {st : List Value} {h : vH} {r : Option Value × vH} (hfg : f ≤ g) (hs : vexec f mi pc ls st h = some r) : vexec g mi pc ls st h = some r := by
  induction hfg with
  | refl => exact hs
  | step _ ih => exact vexec_up ih
theorem vexec_det {f g mi pc : Nat} {ls : vL} {st : List Value} {h : vH} {r q : Option Value × vH} (hs : vexec f mi pc ls st h = some r) (hq : vexec g mi pc ls st h = some q) : r = q := by
  have h1 := vexec_le (Nat.le_max_left f g) hs
  have h2 := vexec_le (Nat.le_max_right f g) hq
  exact Option.some.inj (h1.symm.trans h2)
noncomputable def runv (mi pc : Nat) (ls : vL) (st : List Value) (h : vH) : Option (Option Value × vH) := Classical.epsilon fun o => ∀ r, o = some r ↔ ∃ f, vexec f mi pc ls st h = some r
theorem runv_iff {mi pc : Nat} {ls : vL} {st : List Value} {h : vH} {r : Option Value × vH} : runv mi pc ls st h = some r ↔ ∃ f, vexec f mi pc ls st h = some r := by
  have hex : ∃ o : Option (Option Value × vH), ∀ r, o = some r ↔ ∃ f, vexec f mi pc ls st h = some r := by
    by_cases hx : ∃ f r, vexec f mi pc ls st h = some r
    · obtain ⟨f, r, hr⟩ := hx
      exact ⟨some r, fun q => ⟨fun e => ⟨f, e ▸ hr⟩, fun ⟨g, hg⟩ => congrArg some (vexec_det hr hg)⟩⟩
    · exact ⟨none, fun q => ⟨fun e => (by cases e), fun ⟨g, hg⟩ => absurd ⟨g, q, hg⟩ hx⟩⟩
  exact Classical.epsilon_spec hex r
theorem runv_ext {mi pc mi' pc' : Nat} {ls ls' : vL} {st st' : List Value} {h h' : vH} (hh : ∀ r, (∃ f, vexec f mi pc ls st h = some r) ↔ ∃ f, vexec f mi' pc' ls' st' h' = some r) : runv mi pc ls st h = runv mi' pc' ls' st' h' := by
  apply Option.ext
  intro r
  rw [runv_iff, runv_iff]
  exact hh r
theorem runv_plain {mi pc : Nat} {ls : vL} {st : List Value} {h : vH} {x : vI} (hc : vcode mi pc = some x) (hk : vkind x = 0) : runv mi pc ls st h = (vstep x pc ls st h).bind fun y => runv mi y.1 y.2.1 y.2.2.1 y.2.2.2 := by
  cases hs : vstep x pc ls st h with
  | none =>
    apply Option.ext
    intro r
    rw [runv_iff]
    constructor
    · rintro ⟨f, hf⟩
      cases f with
      | zero => cases hf
      | succ f =>
        unfold vexec at hf
        simp only [hc, hk, hs] at hf
        cases hf
    · intro hr
      cases hr
  | some y =>
    refine runv_ext fun r => ⟨?_, ?_⟩
    · rintro ⟨f, hf⟩
      cases f with
      | zero => cases hf
      | succ f =>
        unfold vexec at hf
        simp only [hc, hk, hs] at hf
        exact ⟨f, hf⟩
    · rintro ⟨f, hf⟩
      refine ⟨f + 1, ?_⟩
      unfold vexec
      simp only [hc, hk, hs]
      exact hf
noncomputable def callv (mi : Nat) (as : List Value) (h : vH) : Option (Option Value × vH) := runv mi 0 (vinit mi as) [] h
def vbind (o : Option (Option Value × vH)) (K : Option Value → vH → Option (Option Value × vH)) : Option (Option Value × vH) := match o with
  | none => none
  | some (v, h) => K v h
theorem vbind_some (v : Option Value) (h : vH) (K : Option Value → vH → Option (Option Value × vH)) : vbind (some (v, h)) K = K v h := rfl
def vpush (v : Option Value) (st : List Value) : List Value := match v with
  | none => st
  | some w => w :: st
theorem vpush_none (st : List Value) : vpush none st = st := rfl
theorem vpush_some (w : Value) (st : List Value) : vpush (some w) st = w :: st := rfl
theorem runv_call {mi pc : Nat} {ls : vL} {st as r : List Value} {h : vH} {x : vI} (hc : vcode mi pc = some x) (hk : vkind x = 2) (hv : vcall mi x st h = some (as, r)) : runv mi pc ls st h = vbind (callv x.2.2.1 as h) fun v h' => runv mi (pc + 3) ls (vpush v r) h' := by
  have hpush : ∀ v : Option Value, v.toList ++ r = vpush v r := by intro v; cases v <;> rfl
  apply Option.ext
  intro q
  rw [runv_iff]
  constructor
  · rintro ⟨f, hf⟩
    cases f with
    | zero => cases hf
    | succ f =>
      unfold vexec at hf
      simp only [hc, hk, hv] at hf
      split at hf
      · cases hf
      · rename_i v1 h2 hv1
        have e1 : callv x.2.2.1 as h = some (v1, h2) := runv_iff.mpr ⟨f, hv1⟩
        rw [e1]
        show runv _ _ _ _ _ = some q
        rw [← hpush]
        exact runv_iff.mpr ⟨f, hf⟩
  · intro hq
    cases e1 : callv x.2.2.1 as h with
    | none => rw [e1] at hq; cases hq
    | some w =>
      obtain ⟨v1, h2⟩ := w
      rw [e1] at hq
      obtain ⟨f1, hf1⟩ := runv_iff.mp e1
      obtain ⟨f2, hf2⟩ := runv_iff.mp (show runv mi (pc + 3) ls (vpush v1 r) h2 = some q from hq)
      rw [← hpush] at hf2
      refine ⟨max f1 f2 + 1, ?_⟩
      unfold vexec
      simp only [hc, hk, hv, vexec_le (Nat.le_max_left f1 f2) hf1]
      exact vexec_le (Nat.le_max_right f1 f2) hf2
def vtag (h : vH) (a : Nat) : Nat := match h[a]? with
  | some (t, _) => t
  | none => 999
theorem vcall_mk {mi : Nat} {x : vI} {st as r : List Value} {h : vH} (h1 : st = as.reverse ++ r) (h2 : as.length = x.2.2.2) (h3 : r.length ≤ 4) (h4 : vrk x.2.2.1 < vrk mi) (h5 : vrecv x as h = true) (h6 : as.all (fun v => v.category == 1) = true) : vcall mi x st h = some (as, r) := by
  have e1 : st.take x.2.2.2 = as.reverse := by rw [h1, ← h2, ← List.length_reverse, List.take_left']; rfl
  have e2 : st.drop x.2.2.2 = r := by rw [h1, ← h2, ← List.length_reverse, List.drop_left']; rfl
  unfold vcall
  rw [e1, e2, List.reverse_reverse, if_pos]
  refine ⟨by rw [h1, List.length_append, List.length_reverse]; omega, h3, h4, h5, ?_⟩
  rw [List.all_reverse]
  exact h6
theorem vrecv_tag {a idx len cm n : Nat} {as : List Value} {h : vH} (ht : vtag h a = vci cm) (hn : vci cm ≠ 999) : vrecv (.invokevirtual idx, len, cm, n) (.ref a :: as) h = true := by
  unfold vtag at ht
  unfold vrecv
  split at ht
  · rename_i t l hl
    simp only [hl, ht, decide_true]
  · exact absurd ht.symm hn
theorem runv_ret {mi pc : Nat} {ls : vL} {st : List Value} {h : vH} {x : vI} {q : Option Value × vH} (hc : vcode mi pc = some x) (hk : vkind x = 1) (hv : vretv mi x st h = some q) : runv mi pc ls st h = some q := by
  refine runv_iff.mpr ⟨1, ?_⟩
  unfold vexec
  simp only [hc, hk]
  exact hv
/-! heap reads and writes, as functions with the rest of the run -/
def vgf (h : vH) (a ci k : Nat) (K : Value → Option (Option Value × vH)) : Option (Option Value × vH) := match h[a]? with
  | some (t, l) => if t = ci then match l[k]? with
    | some v => K v
    | none => none
    else none
  | none => none
def vpf (h : vH) (a ci k : Nat) (v : Value) (K : vH → Option (Option Value × vH)) : Option (Option Value × vH) := match h[a]? with
  | some (t, l) => if t = ci ∧ k < l.length ∧ vfit t k v = true then K (h.set a (t, l.set k v)) else none
  | none => none
def vld2 (h : vH) (a : Nat) (ok : Nat → Bool) (i : Int32) (K : Value → Option (Option Value × vH)) : Option (Option Value × vH) := match h[a]? with
  | some (t, l) => if ok t = true ∧ ¬ i < 0 then match l[i.toNatClampNeg]? with
    | some v => K v
    | none => none
    else none
  | none => none
def vst2 (h : vH) (a tg : Nat) (i : Int32) (v : Value) (K : vH → Option (Option Value × vH)) : Option (Option Value × vH) := match h[a]? with
  | some (t, l) => if t = tg ∧ ¬ i < 0 ∧ i.toNatClampNeg < l.length then K (h.set a (t, l.set i.toNatClampNeg v)) else none
  | none => none
def vlen2 (h : vH) (a : Nat) (K : Value → Option (Option Value × vH)) : Option (Option Value × vH) := match h[a]? with
  | some (t, l) => if 100 ≤ t ∧ t ≤ 104 then K (.int (Int32.ofNat l.length)) else none
  | none => none
def vcp2 (h : vH) (s0 d : Nat) (sp dp n : Int32) (K : vH → Option (Option Value × vH)) : Option (Option Value × vH) := match h[s0]?, h[d]? with
  | some (ts, f), some (td, g) => if ts = 100 ∧ td = 100 ∧ ¬ sp < 0 ∧ ¬ dp < 0 ∧ ¬ n < 0 ∧ sp.toNatClampNeg + n.toNatClampNeg ≤ f.length ∧ dp.toNatClampNeg + n.toNatClampNeg ≤ g.length then K (h.set d (td, vcpy f g sp.toNatClampNeg dp.toNatClampNeg n.toNatClampNeg)) else none
  | _, _ => none
section RUNV
variable {mi pc idx len ci k r2 : Nat} {ls : vL} {st : List Value} {h : vH}
theorem runv_get {a : Nat} (hc : vcode mi pc = some (.getfield idx, len, ci, k)) : runv mi pc ls (.ref a :: st) h = vgf h a ci k fun v => runv mi (pc + 3) ls (v :: st) h := by
  rw [runv_plain hc rfl]
  simp only [vstep, vgf]
  cases h[a]? with
  | none => rfl
  | some c =>
    obtain ⟨t, l⟩ := c
    by_cases ht : t = ci
    · simp only [if_pos ht]
      cases l[k]? <;> rfl
    · simp only [if_neg ht]
      rfl
theorem runv_put {a : Nat} {v : Value} (hc : vcode mi pc = some (.putfield idx, len, ci, k)) : runv mi pc ls (v :: .ref a :: st) h = vpf h a ci k v fun h1 => runv mi (pc + 3) ls st h1 := by
  rw [runv_plain hc rfl]
  simp only [vstep, vpf]
  cases h[a]? with
  | none => rfl
  | some c =>
    obtain ⟨t, l⟩ := c
    by_cases ht : t = ci ∧ k < l.length ∧ vfit t k v = true
    · simp only [if_pos ht]
      rfl
    · simp only [if_neg ht]
      rfl
theorem runv_iald {a : Nat} {i : Int32} (hc : vcode mi pc = some (.iaload, len, ci, k)) : runv mi pc ls (.int i :: .ref a :: st) h = vld2 h a (fun t => t == 100 || t == 104) i fun v => runv mi (pc + 1) ls (v :: st) h := by
  rw [runv_plain hc rfl]
  simp only [vstep, vld2, Bool.or_eq_true, beq_iff_eq]
  cases h[a]? with
  | none => rfl
  | some c =>
    obtain ⟨t, l⟩ := c
    by_cases ht : (t = 100 ∨ t = 104) ∧ ¬ i < 0
    · simp only [if_pos ht]
      cases l[i.toNatClampNeg]? <;> rfl
    · simp only [if_neg ht]
      rfl
theorem runv_zald {a : Nat} {i : Int32} (hc : vcode mi pc = some (.baload, len, ci, k)) : runv mi pc ls (.int i :: .ref a :: st) h = vld2 h a (fun t => t == 101) i fun v => runv mi (pc + 1) ls (v :: st) h := by
  rw [runv_plain hc rfl]
  simp only [vstep, vld2, Bool.or_eq_true, beq_iff_eq]
  cases h[a]? with
  | none => rfl
  | some c =>
    obtain ⟨t, l⟩ := c
    by_cases ht : t = 101 ∧ ¬ i < 0
    · simp only [if_pos ht]
      cases l[i.toNatClampNeg]? <;> rfl
    · simp only [if_neg ht]
      rfl
theorem runv_aald {a : Nat} {i : Int32} (hc : vcode mi pc = some (.aaload, len, ci, k)) : runv mi pc ls (.int i :: .ref a :: st) h = vld2 h a (fun t => t == 102 || t == 103) i fun v => runv mi (pc + 1) ls (v :: st) h := by
  rw [runv_plain hc rfl]
  simp only [vstep, vld2, Bool.or_eq_true, beq_iff_eq]
  cases h[a]? with
  | none => rfl
  | some c =>
    obtain ⟨t, l⟩ := c
    by_cases ht : (t = 102 ∨ t = 103) ∧ ¬ i < 0
    · simp only [if_pos ht]
      cases l[i.toNatClampNeg]? <;> rfl
    · simp only [if_neg ht]
      rfl
theorem runv_iast {a : Nat} {i v : Int32} (hc : vcode mi pc = some (.iastore, len, ci, k)) : runv mi pc ls (.int v :: .int i :: .ref a :: st) h = vst2 h a 100 i (.int v) fun h1 => runv mi (pc + 1) ls st h1 := by
  rw [runv_plain hc rfl]
  simp only [vstep, vst2]
  cases h[a]? with
  | none => rfl
  | some c =>
    obtain ⟨t, l⟩ := c
    by_cases ht : t = 100 ∧ ¬ i < 0 ∧ i.toNatClampNeg < l.length
    · simp only [if_pos ht]
      rfl
    · simp only [if_neg ht]
      rfl
theorem runv_zast {a : Nat} {i v : Int32} (hc : vcode mi pc = some (.bastore, len, ci, k)) : runv mi pc ls (.int v :: .int i :: .ref a :: st) h = vst2 h a 101 i (.int (v &&& 1)) fun h1 => runv mi (pc + 1) ls st h1 := by
  rw [runv_plain hc rfl]
  simp only [vstep, vst2]
  cases h[a]? with
  | none => rfl
  | some c =>
    obtain ⟨t, l⟩ := c
    by_cases ht : t = 101 ∧ ¬ i < 0 ∧ i.toNatClampNeg < l.length
    · simp only [if_pos ht]
      rfl
    · simp only [if_neg ht]
      rfl
theorem runv_alen {a : Nat} (hc : vcode mi pc = some (.arraylength, len, ci, k)) : runv mi pc ls (.ref a :: st) h = vlen2 h a fun v => runv mi (pc + 1) ls (v :: st) h := by
  rw [runv_plain hc rfl]
  simp only [vstep, vlen2]
  cases h[a]? with
  | none => rfl
  | some c =>
    obtain ⟨t, l⟩ := c
    by_cases ht : 100 ≤ t ∧ t ≤ 104
    · simp only [if_pos ht]
      rfl
    · simp only [if_neg ht]
      rfl
theorem runv_copy {s0 d : Nat} {sp dp n : Int32} (hc : vcode mi pc = some (.invokestatic idx, len, 1001, k)) (hst : st.length ≤ 4) : runv mi pc ls (.int n :: .int dp :: .ref d :: .int sp :: .ref s0 :: st) h = vcp2 h s0 d sp dp n fun h1 => runv mi (pc + 3) ls st h1 := by
  rw [runv_plain hc rfl]
  simp only [vstep, vcp2]
  rw [if_pos (show True ∧ st.length ≤ 4 from ⟨trivial, hst⟩)]
  cases h[s0]? with
  | none => rfl
  | some c =>
    cases h[d]? with
    | none => rfl
    | some e =>
      obtain ⟨ts, f⟩ := c
      obtain ⟨td, g⟩ := e
      by_cases ht : ts = 100 ∧ td = 100 ∧ ¬ sp < 0 ∧ ¬ dp < 0 ∧ ¬ n < 0 ∧ sp.toNatClampNeg + n.toNatClampNeg ≤ f.length ∧ dp.toNatClampNeg + n.toNatClampNeg ≤ g.length
      · simp only [if_pos ht]
        rfl
      · simp only [if_neg ht]
        rfl
theorem runv_min {x y : Int32} (hc : vcode mi pc = some (.invokestatic idx, len, 1002, k)) : runv mi pc ls [.int y, .int x] h = runv mi (pc + 3) ls [.int (if y < x then y else x)] h := by
  rw [runv_plain hc rfl]
  rfl
theorem runv_if {c : Jvm.ClassFile.Cond} {off : Int} {v : Int32} (hc : vcode mi pc = some (.ifCond c off, len, ci, k)) (h0 : 0 ≤ (pc : Int) + off) : runv mi pc ls (.int v :: st) h = if vcmp c v 0 = true then runv mi (vtgt pc off) ls st h else runv mi (pc + 3) ls st h := by
  rw [runv_plain hc rfl]
  simp only [vstep, vjump, if_pos h0]
  by_cases hq : vcmp c v 0 = true
  · simp only [if_pos hq]
    rfl
  · simp only [if_neg hq]
    rfl
theorem runv_icmp {c : Jvm.ClassFile.Cond} {off : Int} {v w : Int32} (hc : vcode mi pc = some (.if_icmp c off, len, ci, k)) (h0 : 0 ≤ (pc : Int) + off) : runv mi pc ls (.int w :: .int v :: st) h = if vcmp c v w = true then runv mi (vtgt pc off) ls st h else runv mi (pc + 3) ls st h := by
  rw [runv_plain hc rfl]
  simp only [vstep, vjump, if_pos h0]
  by_cases hq : vcmp c v w = true
  · simp only [if_pos hq]
    rfl
  · simp only [if_neg hq]
    rfl
theorem runv_div {v w : Int32} (hc : vcode mi pc = some (.idiv, len, ci, k)) (hw : ¬ w = 0) : runv mi pc ls (.int w :: .int v :: st) h = runv mi (pc + 1) ls (.int (v / w) :: st) h := by
  rw [runv_plain hc rfl]
  simp only [vstep, if_neg hw]
  rfl
theorem runv_rem {v w : Int32} (hc : vcode mi pc = some (.irem, len, ci, k)) (hw : ¬ w = 0) : runv mi pc ls (.int w :: .int v :: st) h = runv mi (pc + 1) ls (.int (v - v / w * w) :: st) h := by
  rw [runv_plain hc rfl]
  simp only [vstep, if_neg hw]
  rfl
theorem runv_tbl {d lo hi : Int} {offs : Array Int} {v : Int32} {tg : Nat} (hc : vcode mi pc = some (.tableswitch d lo hi offs, len, ci, k)) (ht : (if v.toInt < lo ∨ hi < v.toInt then some d else offs[(v.toInt - lo).toNat]?) = some ((tg : Int) - pc)) : runv mi pc ls (.int v :: st) h = runv mi tg ls st h := by
  rw [runv_plain hc rfl]
  have e0 : 0 ≤ (pc : Int) + ((tg : Int) - pc) := by omega
  have e1 : vtgt pc ((tg : Int) - pc) = tg := by unfold vtgt; omega
  simp only [vstep]
  by_cases hv : v.toInt < lo ∨ hi < v.toInt
  · rw [if_pos hv] at ht ⊢
    cases ht
    simp only [vjump, if_pos e0, e1]
    rfl
  · rw [if_neg hv] at ht ⊢
    simp only [ht, vjump, if_pos e0, e1]
    rfl
theorem runv_lkp {d : Int} {ps : Array (Int × Int)} {v : Int32} {tg : Nat} (hc : vcode mi pc = some (.lookupswitch d ps, len, ci, k)) (hp : (ps.toList.zip (ps.toList.drop 1)).all (fun (a, next) => a.1 < next.1) = true) (ht : Op.lookupswitch.offset ps.toList d v.toInt = (tg : Int) - pc) : runv mi pc ls (.int v :: st) h = runv mi tg ls st h := by
  rw [runv_plain hc rfl]
  have e0 : 0 ≤ (pc : Int) + ((tg : Int) - pc) := by omega
  have e1 : vtgt pc ((tg : Int) - pc) = tg := by unfold vtgt; omega
  simp only [vstep, if_pos hp, ht, vjump, if_pos e0, e1]
  rfl
end RUNV
end

section
-- ===== PART A: goes FIRST, ahead of the names: the tables' words, and 'selects' of the private methods out of them =====
/-- a private method of a class that the tables say can be made, by its rows of tables_1 -/
def lw_okq (q : MethodName × Nat) : Prop := (q.1.cls ≠ "java/lang/invoke/MethodHandle" ∧ q.1.cls ≠ "java/lang/invoke/VarHandle") ∧ Cond.instantiable q.1.cls q.2 ∈ tables_1 ∧ Cond.privateMethod q.1 ∈ tables_1 ∧ Cond.instanceMethod q.1 ∈ tables_1
theorem lw_p0 : lw_okq (⟨"CellToObject$Caches", "store", "(II)V"⟩, 13) := ⟨⟨by decide +kernel, by decide +kernel⟩, List.mem_of_getElem? (i := 68) (by decide +kernel), List.mem_of_getElem? (i := 319) (by decide +kernel), List.mem_of_getElem? (i := 320) (by decide +kernel)⟩
theorem lw_p1 : lw_okq (⟨"CellToObject$Memory", "leave", "(II)V"⟩, 15) := ⟨⟨by decide +kernel, by decide +kernel⟩, List.mem_of_getElem? (i := 116) (by decide +kernel), List.mem_of_getElem? (i := 354) (by decide +kernel), List.mem_of_getElem? (i := 355) (by decide +kernel)⟩
theorem lw_p2 : lw_okq (⟨"CellToObject", "loadTold", "(II)I"⟩, 6) := ⟨⟨by decide +kernel, by decide +kernel⟩, List.mem_of_getElem? (i := 12) (by decide +kernel), List.mem_of_getElem? (i := 377) (by decide +kernel), List.mem_of_getElem? (i := 378) (by decide +kernel)⟩
theorem lw_p3 : lw_okq (⟨"CellToObject$Memory", "frameToFill", "()I"⟩, 15) := ⟨⟨by decide +kernel, by decide +kernel⟩, List.mem_of_getElem? (i := 116) (by decide +kernel), List.mem_of_getElem? (i := 385) (by decide +kernel), List.mem_of_getElem? (i := 386) (by decide +kernel)⟩
theorem lw_p4 : lw_okq (⟨"CellToObject$Memory", "earliest", "([I)I"⟩, 15) := ⟨⟨by decide +kernel, by decide +kernel⟩, List.mem_of_getElem? (i := 116) (by decide +kernel), List.mem_of_getElem? (i := 389) (by decide +kernel), List.mem_of_getElem? (i := 390) (by decide +kernel)⟩
theorem lw_p5 : lw_okq (⟨"CellToObject$Memory", "handStops", "()I"⟩, 15) := ⟨⟨by decide +kernel, by decide +kernel⟩, List.mem_of_getElem? (i := 116) (by decide +kernel), List.mem_of_getElem? (i := 393) (by decide +kernel), List.mem_of_getElem? (i := 394) (by decide +kernel)⟩
theorem lw_p6 : lw_okq (⟨"CellToObject$Memory", "arrive", "(II)V"⟩, 15) := ⟨⟨by decide +kernel, by decide +kernel⟩, List.mem_of_getElem? (i := 116) (by decide +kernel), List.mem_of_getElem? (i := 397) (by decide +kernel), List.mem_of_getElem? (i := 398) (by decide +kernel)⟩
theorem lw_p7 : lw_okq (⟨"CellToObject$Caches", "miss", "(I)V"⟩, 13) := ⟨⟨by decide +kernel, by decide +kernel⟩, List.mem_of_getElem? (i := 68) (by decide +kernel), List.mem_of_getElem? (i := 411) (by decide +kernel), List.mem_of_getElem? (i := 412) (by decide +kernel)⟩
theorem lw_p8 : lw_okq (⟨"CellToObject$Caches", "causeOf", "(I)I"⟩, 13) := ⟨⟨by decide +kernel, by decide +kernel⟩, List.mem_of_getElem? (i := 68) (by decide +kernel), List.mem_of_getElem? (i := 418) (by decide +kernel), List.mem_of_getElem? (i := 419) (by decide +kernel)⟩
theorem lw_p9 : lw_okq (⟨"CellToObject$Caches", "leavingFor", "(I)I"⟩, 13) := ⟨⟨by decide +kernel, by decide +kernel⟩, List.mem_of_getElem? (i := 68) (by decide +kernel), List.mem_of_getElem? (i := 422) (by decide +kernel), List.mem_of_getElem? (i := 423) (by decide +kernel)⟩
theorem lw_p10 : lw_okq (⟨"CellToObject$Caches", "goesAhead", "(II)Z"⟩, 13) := ⟨⟨by decide +kernel, by decide +kernel⟩, List.mem_of_getElem? (i := 68) (by decide +kernel), List.mem_of_getElem? (i := 426) (by decide +kernel), List.mem_of_getElem? (i := 427) (by decide +kernel)⟩
theorem lw_p11 : lw_okq (⟨"CellToObject$Caches", "joinPlay", "(II)V"⟩, 13) := ⟨⟨by decide +kernel, by decide +kernel⟩, List.mem_of_getElem? (i := 68) (by decide +kernel), List.mem_of_getElem? (i := 431) (by decide +kernel), List.mem_of_getElem? (i := 432) (by decide +kernel)⟩
theorem lw_p12 : lw_okq (⟨"CellToObject$Caches", "leavePlay", "(I)V"⟩, 13) := ⟨⟨by decide +kernel, by decide +kernel⟩, List.mem_of_getElem? (i := 68) (by decide +kernel), List.mem_of_getElem? (i := 435) (by decide +kernel), List.mem_of_getElem? (i := 436) (by decide +kernel)⟩
theorem lw_p13 : lw_okq (⟨"CellToObject$Run", "furthest", "()I"⟩, 3) := ⟨⟨by decide +kernel, by decide +kernel⟩, List.mem_of_getElem? (i := 122) (by decide +kernel), List.mem_of_getElem? (i := 460) (by decide +kernel), List.mem_of_getElem? (i := 461) (by decide +kernel)⟩
theorem lw_p14 : lw_okq (⟨"CellToObject$Run", "nextUse", "(II)I"⟩, 3) := ⟨⟨by decide +kernel, by decide +kernel⟩, List.mem_of_getElem? (i := 122) (by decide +kernel), List.mem_of_getElem? (i := 464) (by decide +kernel), List.mem_of_getElem? (i := 465) (by decide +kernel)⟩
theorem lw_p15 : lw_okq (⟨"CellToObject$Heap", "freeStart", "(I)I"⟩, 14) := ⟨⟨by decide +kernel, by decide +kernel⟩, List.mem_of_getElem? (i := 188) (by decide +kernel), List.mem_of_getElem? (i := 479) (by decide +kernel), List.mem_of_getElem? (i := 480) (by decide +kernel)⟩
def lw_privs_1 : List (MethodName × Nat) := [(⟨"CellToObject$Caches", "store", "(II)V"⟩, 13), (⟨"CellToObject$Memory", "leave", "(II)V"⟩, 15), (⟨"CellToObject", "loadTold", "(II)I"⟩, 6), (⟨"CellToObject$Memory", "frameToFill", "()I"⟩, 15), (⟨"CellToObject$Memory", "earliest", "([I)I"⟩, 15), (⟨"CellToObject$Memory", "handStops", "()I"⟩, 15), (⟨"CellToObject$Memory", "arrive", "(II)V"⟩, 15), (⟨"CellToObject$Caches", "miss", "(I)V"⟩, 13), (⟨"CellToObject$Caches", "causeOf", "(I)I"⟩, 13), (⟨"CellToObject$Caches", "leavingFor", "(I)I"⟩, 13), (⟨"CellToObject$Caches", "goesAhead", "(II)Z"⟩, 13), (⟨"CellToObject$Caches", "joinPlay", "(II)V"⟩, 13), (⟨"CellToObject$Caches", "leavePlay", "(I)V"⟩, 13), (⟨"CellToObject$Run", "furthest", "()I"⟩, 3), (⟨"CellToObject$Run", "nextUse", "(II)I"⟩, 3), (⟨"CellToObject$Heap", "freeStart", "(I)I"⟩, 14)]
theorem lw_r1 : ∀ q ∈ lw_privs_1, lw_okq q := List.forall_mem_cons.mpr ⟨lw_p0, List.forall_mem_cons.mpr ⟨lw_p1, List.forall_mem_cons.mpr ⟨lw_p2, List.forall_mem_cons.mpr ⟨lw_p3, List.forall_mem_cons.mpr ⟨lw_p4, List.forall_mem_cons.mpr ⟨lw_p5, List.forall_mem_cons.mpr ⟨lw_p6, List.forall_mem_cons.mpr ⟨lw_p7, List.forall_mem_cons.mpr ⟨lw_p8, List.forall_mem_cons.mpr ⟨lw_p9, List.forall_mem_cons.mpr ⟨lw_p10, List.forall_mem_cons.mpr ⟨lw_p11, List.forall_mem_cons.mpr ⟨lw_p12, List.forall_mem_cons.mpr ⟨lw_p13, List.forall_mem_cons.mpr ⟨lw_p14, List.forall_mem_cons.mpr ⟨lw_p15, fun _ h => absurd h List.not_mem_nil⟩⟩⟩⟩⟩⟩⟩⟩⟩⟩⟩⟩⟩⟩⟩⟩
theorem lw_p16 : lw_okq (⟨"CellToObject$Heap", "objectFrom", "(I)I"⟩, 14) := ⟨⟨by decide +kernel, by decide +kernel⟩, List.mem_of_getElem? (i := 188) (by decide +kernel), List.mem_of_getElem? (i := 483) (by decide +kernel), List.mem_of_getElem? (i := 484) (by decide +kernel)⟩
theorem lw_p17 : lw_okq (⟨"CellToObject$Heap", "startRow", "(I)V"⟩, 14) := ⟨⟨by decide +kernel, by decide +kernel⟩, List.mem_of_getElem? (i := 188) (by decide +kernel), List.mem_of_getElem? (i := 500) (by decide +kernel), List.mem_of_getElem? (i := 501) (by decide +kernel)⟩
theorem lw_p18 : lw_okq (⟨"CellToObject$Heap", "putBehind", "(I)V"⟩, 14) := ⟨⟨by decide +kernel, by decide +kernel⟩, List.mem_of_getElem? (i := 188) (by decide +kernel), List.mem_of_getElem? (i := 504) (by decide +kernel), List.mem_of_getElem? (i := 505) (by decide +kernel)⟩
theorem lw_p19 : lw_okq (⟨"CellToObject$Heap", "follow", "(I)I"⟩, 14) := ⟨⟨by decide +kernel, by decide +kernel⟩, List.mem_of_getElem? (i := 188) (by decide +kernel), List.mem_of_getElem? (i := 512) (by decide +kernel), List.mem_of_getElem? (i := 513) (by decide +kernel)⟩
theorem lw_p20 : lw_okq (⟨"CellToObject$Heap", "buryOthers", "()I"⟩, 14) := ⟨⟨by decide +kernel, by decide +kernel⟩, List.mem_of_getElem? (i := 188) (by decide +kernel), List.mem_of_getElem? (i := 518) (by decide +kernel), List.mem_of_getElem? (i := 519) (by decide +kernel)⟩
theorem lw_p21 : lw_okq (⟨"CellToObject$Heap", "closeUp", "()V"⟩, 14) := ⟨⟨by decide +kernel, by decide +kernel⟩, List.mem_of_getElem? (i := 188) (by decide +kernel), List.mem_of_getElem? (i := 522) (by decide +kernel), List.mem_of_getElem? (i := 523) (by decide +kernel)⟩
theorem lw_p22 : lw_okq (⟨"CellToObjectModel", "drive", "(IIZ)V"⟩, 49) := ⟨⟨by decide +kernel, by decide +kernel⟩, List.mem_of_getElem? (i := 574) (by decide +kernel), List.mem_of_getElem? (i := 778) (by decide +kernel), List.mem_of_getElem? (i := 779) (by decide +kernel)⟩
theorem lw_p23 : lw_okq (⟨"CellToObjectModel", "find", "(II)I"⟩, 49) := ⟨⟨by decide +kernel, by decide +kernel⟩, List.mem_of_getElem? (i := 574) (by decide +kernel), List.mem_of_getElem? (i := 782) (by decide +kernel), List.mem_of_getElem? (i := 783) (by decide +kernel)⟩
theorem lw_p24 : lw_okq (⟨"CellToObjectModel", "store", "(II)V"⟩, 49) := ⟨⟨by decide +kernel, by decide +kernel⟩, List.mem_of_getElem? (i := 574) (by decide +kernel), List.mem_of_getElem? (i := 786) (by decide +kernel), List.mem_of_getElem? (i := 787) (by decide +kernel)⟩
theorem lw_p25 : lw_okq (⟨"CellToObjectModel", "openFor", "(I)V"⟩, 49) := ⟨⟨by decide +kernel, by decide +kernel⟩, List.mem_of_getElem? (i := 574) (by decide +kernel), List.mem_of_getElem? (i := 790) (by decide +kernel), List.mem_of_getElem? (i := 791) (by decide +kernel)⟩
theorem lw_p26 : lw_okq (⟨"CellToObjectModel", "tick", "(II)V"⟩, 49) := ⟨⟨by decide +kernel, by decide +kernel⟩, List.mem_of_getElem? (i := 574) (by decide +kernel), List.mem_of_getElem? (i := 794) (by decide +kernel), List.mem_of_getElem? (i := 795) (by decide +kernel)⟩
theorem lw_p27 : lw_okq (⟨"CellToObjectModel", "wearOut", "(II)V"⟩, 49) := ⟨⟨by decide +kernel, by decide +kernel⟩, List.mem_of_getElem? (i := 574) (by decide +kernel), List.mem_of_getElem? (i := 798) (by decide +kernel), List.mem_of_getElem? (i := 799) (by decide +kernel)⟩
theorem lw_p28 : lw_okq (⟨"CellToObjectModel", "writeLine", "(I)V"⟩, 49) := ⟨⟨by decide +kernel, by decide +kernel⟩, List.mem_of_getElem? (i := 574) (by decide +kernel), List.mem_of_getElem? (i := 802) (by decide +kernel), List.mem_of_getElem? (i := 803) (by decide +kernel)⟩
theorem lw_p29 : lw_okq (⟨"CellToObjectModel", "forget", "(I)V"⟩, 49) := ⟨⟨by decide +kernel, by decide +kernel⟩, List.mem_of_getElem? (i := 574) (by decide +kernel), List.mem_of_getElem? (i := 809) (by decide +kernel), List.mem_of_getElem? (i := 810) (by decide +kernel)⟩
theorem lw_p30 : lw_okq (⟨"CellToObjectModel", "goAway", "(IZ)V"⟩, 49) := ⟨⟨by decide +kernel, by decide +kernel⟩, List.mem_of_getElem? (i := 574) (by decide +kernel), List.mem_of_getElem? (i := 825) (by decide +kernel), List.mem_of_getElem? (i := 826) (by decide +kernel)⟩
theorem lw_p31 : lw_okq (⟨"CellToObjectModel", "readCell", "(I)I"⟩, 49) := ⟨⟨by decide +kernel, by decide +kernel⟩, List.mem_of_getElem? (i := 574) (by decide +kernel), List.mem_of_getElem? (i := 829) (by decide +kernel), List.mem_of_getElem? (i := 830) (by decide +kernel)⟩
def lw_privs_2 : List (MethodName × Nat) := [(⟨"CellToObject$Heap", "objectFrom", "(I)I"⟩, 14), (⟨"CellToObject$Heap", "startRow", "(I)V"⟩, 14), (⟨"CellToObject$Heap", "putBehind", "(I)V"⟩, 14), (⟨"CellToObject$Heap", "follow", "(I)I"⟩, 14), (⟨"CellToObject$Heap", "buryOthers", "()I"⟩, 14), (⟨"CellToObject$Heap", "closeUp", "()V"⟩, 14), (⟨"CellToObjectModel", "drive", "(IIZ)V"⟩, 49), (⟨"CellToObjectModel", "find", "(II)I"⟩, 49), (⟨"CellToObjectModel", "store", "(II)V"⟩, 49), (⟨"CellToObjectModel", "openFor", "(I)V"⟩, 49), (⟨"CellToObjectModel", "tick", "(II)V"⟩, 49), (⟨"CellToObjectModel", "wearOut", "(II)V"⟩, 49), (⟨"CellToObjectModel", "writeLine", "(I)V"⟩, 49), (⟨"CellToObjectModel", "forget", "(I)V"⟩, 49), (⟨"CellToObjectModel", "goAway", "(IZ)V"⟩, 49), (⟨"CellToObjectModel", "readCell", "(I)I"⟩, 49)]
theorem lw_r2 : ∀ q ∈ lw_privs_2, lw_okq q := List.forall_mem_cons.mpr ⟨lw_p16, List.forall_mem_cons.mpr ⟨lw_p17, List.forall_mem_cons.mpr ⟨lw_p18, List.forall_mem_cons.mpr ⟨lw_p19, List.forall_mem_cons.mpr ⟨lw_p20, List.forall_mem_cons.mpr ⟨lw_p21, List.forall_mem_cons.mpr ⟨lw_p22, List.forall_mem_cons.mpr ⟨lw_p23, List.forall_mem_cons.mpr ⟨lw_p24, List.forall_mem_cons.mpr ⟨lw_p25, List.forall_mem_cons.mpr ⟨lw_p26, List.forall_mem_cons.mpr ⟨lw_p27, List.forall_mem_cons.mpr ⟨lw_p28, List.forall_mem_cons.mpr ⟨lw_p29, List.forall_mem_cons.mpr ⟨lw_p30, List.forall_mem_cons.mpr ⟨lw_p31, fun _ h => absurd h List.not_mem_nil⟩⟩⟩⟩⟩⟩⟩⟩⟩⟩⟩⟩⟩⟩⟩⟩
theorem lw_p32 : lw_okq (⟨"CellToObjectModel", "loadByte", "(II)I"⟩, 49) := ⟨⟨by decide +kernel, by decide +kernel⟩, List.mem_of_getElem? (i := 574) (by decide +kernel), List.mem_of_getElem? (i := 844) (by decide +kernel), List.mem_of_getElem? (i := 845) (by decide +kernel)⟩
theorem lw_p33 : lw_okq (⟨"CellToObjectModel", "cellOf", "(I)I"⟩, 49) := ⟨⟨by decide +kernel, by decide +kernel⟩, List.mem_of_getElem? (i := 574) (by decide +kernel), List.mem_of_getElem? (i := 848) (by decide +kernel), List.mem_of_getElem? (i := 849) (by decide +kernel)⟩
theorem lw_p34 : lw_okq (⟨"CellToObjectModel", "touch", "(I)I"⟩, 49) := ⟨⟨by decide +kernel, by decide +kernel⟩, List.mem_of_getElem? (i := 574) (by decide +kernel), List.mem_of_getElem? (i := 852) (by decide +kernel), List.mem_of_getElem? (i := 853) (by decide +kernel)⟩
theorem lw_p35 : lw_okq (⟨"CellToObjectModel", "noteRun", "(I)V"⟩, 49) := ⟨⟨by decide +kernel, by decide +kernel⟩, List.mem_of_getElem? (i := 574) (by decide +kernel), List.mem_of_getElem? (i := 856) (by decide +kernel), List.mem_of_getElem? (i := 857) (by decide +kernel)⟩
theorem lw_p36 : lw_okq (⟨"CellToObjectModel", "freeFrame", "()I"⟩, 49) := ⟨⟨by decide +kernel, by decide +kernel⟩, List.mem_of_getElem? (i := 574) (by decide +kernel), List.mem_of_getElem? (i := 860) (by decide +kernel), List.mem_of_getElem? (i := 861) (by decide +kernel)⟩
theorem lw_p37 : lw_okq (⟨"CellToObjectModel", "whoGoes", "()I"⟩, 49) := ⟨⟨by decide +kernel, by decide +kernel⟩, List.mem_of_getElem? (i := 574) (by decide +kernel), List.mem_of_getElem? (i := 864) (by decide +kernel), List.mem_of_getElem? (i := 865) (by decide +kernel)⟩
theorem lw_p38 : lw_okq (⟨"CellToObjectModel", "readByte", "(II)I"⟩, 49) := ⟨⟨by decide +kernel, by decide +kernel⟩, List.mem_of_getElem? (i := 574) (by decide +kernel), List.mem_of_getElem? (i := 868) (by decide +kernel), List.mem_of_getElem? (i := 869) (by decide +kernel)⟩
theorem lw_p39 : lw_okq (⟨"CellToObjectModel", "ask", "(II)I"⟩, 49) := ⟨⟨by decide +kernel, by decide +kernel⟩, List.mem_of_getElem? (i := 574) (by decide +kernel), List.mem_of_getElem? (i := 872) (by decide +kernel), List.mem_of_getElem? (i := 873) (by decide +kernel)⟩
theorem lw_p40 : lw_okq (⟨"CellToObjectModel", "bring", "(II)I"⟩, 49) := ⟨⟨by decide +kernel, by decide +kernel⟩, List.mem_of_getElem? (i := 574) (by decide +kernel), List.mem_of_getElem? (i := 876) (by decide +kernel), List.mem_of_getElem? (i := 877) (by decide +kernel)⟩
theorem lw_p41 : lw_okq (⟨"CellToObjectModel", "causeOf", "(II)I"⟩, 49) := ⟨⟨by decide +kernel, by decide +kernel⟩, List.mem_of_getElem? (i := 574) (by decide +kernel), List.mem_of_getElem? (i := 880) (by decide +kernel), List.mem_of_getElem? (i := 881) (by decide +kernel)⟩
theorem lw_p42 : lw_okq (⟨"CellToObjectModel", "roomFor", "(III)I"⟩, 49) := ⟨⟨by decide +kernel, by decide +kernel⟩, List.mem_of_getElem? (i := 574) (by decide +kernel), List.mem_of_getElem? (i := 884) (by decide +kernel), List.mem_of_getElem? (i := 885) (by decide +kernel)⟩
theorem lw_p43 : lw_okq (⟨"CellToObjectModel", "playBeside", "(II)V"⟩, 49) := ⟨⟨by decide +kernel, by decide +kernel⟩, List.mem_of_getElem? (i := 574) (by decide +kernel), List.mem_of_getElem? (i := 888) (by decide +kernel), List.mem_of_getElem? (i := 889) (by decide +kernel)⟩
theorem lw_p44 : lw_okq (⟨"CellToObjectModel", "besideMany", "(I)I"⟩, 49) := ⟨⟨by decide +kernel, by decide +kernel⟩, List.mem_of_getElem? (i := 574) (by decide +kernel), List.mem_of_getElem? (i := 892) (by decide +kernel), List.mem_of_getElem? (i := 893) (by decide +kernel)⟩
theorem lw_p45 : lw_okq (⟨"CellToObjectModel", "allTicks", "()J"⟩, 49) := ⟨⟨by decide +kernel, by decide +kernel⟩, List.mem_of_getElem? (i := 574) (by decide +kernel), List.mem_of_getElem? (i := 900) (by decide +kernel), List.mem_of_getElem? (i := 901) (by decide +kernel)⟩
theorem lw_p46 : lw_okq (⟨"CellToObjectModel", "saveByte", "(III)V"⟩, 49) := ⟨⟨by decide +kernel, by decide +kernel⟩, List.mem_of_getElem? (i := 574) (by decide +kernel), List.mem_of_getElem? (i := 904) (by decide +kernel), List.mem_of_getElem? (i := 905) (by decide +kernel)⟩
theorem lw_p47 : lw_okq (⟨"CellToObjectModel", "writeByte", "(III)V"⟩, 49) := ⟨⟨by decide +kernel, by decide +kernel⟩, List.mem_of_getElem? (i := 574) (by decide +kernel), List.mem_of_getElem? (i := 908) (by decide +kernel), List.mem_of_getElem? (i := 909) (by decide +kernel)⟩
def lw_privs_3 : List (MethodName × Nat) := [(⟨"CellToObjectModel", "loadByte", "(II)I"⟩, 49), (⟨"CellToObjectModel", "cellOf", "(I)I"⟩, 49), (⟨"CellToObjectModel", "touch", "(I)I"⟩, 49), (⟨"CellToObjectModel", "noteRun", "(I)V"⟩, 49), (⟨"CellToObjectModel", "freeFrame", "()I"⟩, 49), (⟨"CellToObjectModel", "whoGoes", "()I"⟩, 49), (⟨"CellToObjectModel", "readByte", "(II)I"⟩, 49), (⟨"CellToObjectModel", "ask", "(II)I"⟩, 49), (⟨"CellToObjectModel", "bring", "(II)I"⟩, 49), (⟨"CellToObjectModel", "causeOf", "(II)I"⟩, 49), (⟨"CellToObjectModel", "roomFor", "(III)I"⟩, 49), (⟨"CellToObjectModel", "playBeside", "(II)V"⟩, 49), (⟨"CellToObjectModel", "besideMany", "(I)I"⟩, 49), (⟨"CellToObjectModel", "allTicks", "()J"⟩, 49), (⟨"CellToObjectModel", "saveByte", "(III)V"⟩, 49), (⟨"CellToObjectModel", "writeByte", "(III)V"⟩, 49)]
theorem lw_r3 : ∀ q ∈ lw_privs_3, lw_okq q := List.forall_mem_cons.mpr ⟨lw_p32, List.forall_mem_cons.mpr ⟨lw_p33, List.forall_mem_cons.mpr ⟨lw_p34, List.forall_mem_cons.mpr ⟨lw_p35, List.forall_mem_cons.mpr ⟨lw_p36, List.forall_mem_cons.mpr ⟨lw_p37, List.forall_mem_cons.mpr ⟨lw_p38, List.forall_mem_cons.mpr ⟨lw_p39, List.forall_mem_cons.mpr ⟨lw_p40, List.forall_mem_cons.mpr ⟨lw_p41, List.forall_mem_cons.mpr ⟨lw_p42, List.forall_mem_cons.mpr ⟨lw_p43, List.forall_mem_cons.mpr ⟨lw_p44, List.forall_mem_cons.mpr ⟨lw_p45, List.forall_mem_cons.mpr ⟨lw_p46, List.forall_mem_cons.mpr ⟨lw_p47, fun _ h => absurd h List.not_mem_nil⟩⟩⟩⟩⟩⟩⟩⟩⟩⟩⟩⟩⟩⟩⟩⟩
theorem lw_p48 : lw_okq (⟨"CellToObjectModel", "nextIn", "(II)I"⟩, 49) := ⟨⟨by decide +kernel, by decide +kernel⟩, List.mem_of_getElem? (i := 574) (by decide +kernel), List.mem_of_getElem? (i := 916) (by decide +kernel), List.mem_of_getElem? (i := 917) (by decide +kernel)⟩
theorem lw_p49 : lw_okq (⟨"CellToObjectModel", "roomFor", "(I)I"⟩, 49) := ⟨⟨by decide +kernel, by decide +kernel⟩, List.mem_of_getElem? (i := 574) (by decide +kernel), List.mem_of_getElem? (i := 924) (by decide +kernel), List.mem_of_getElem? (i := 925) (by decide +kernel)⟩
theorem lw_p50 : lw_okq (⟨"CellToObjectModel", "nextRoom", "(I)Z"⟩, 49) := ⟨⟨by decide +kernel, by decide +kernel⟩, List.mem_of_getElem? (i := 574) (by decide +kernel), List.mem_of_getElem? (i := 931) (by decide +kernel), List.mem_of_getElem? (i := 932) (by decide +kernel)⟩
theorem lw_p51 : lw_okq (⟨"CellToObjectModel", "firstFrom", "(I)I"⟩, 49) := ⟨⟨by decide +kernel, by decide +kernel⟩, List.mem_of_getElem? (i := 574) (by decide +kernel), List.mem_of_getElem? (i := 935) (by decide +kernel), List.mem_of_getElem? (i := 936) (by decide +kernel)⟩
theorem lw_p52 : lw_okq (⟨"CellToObjectModel", "freeNumber", "()I"⟩, 49) := ⟨⟨by decide +kernel, by decide +kernel⟩, List.mem_of_getElem? (i := 574) (by decide +kernel), List.mem_of_getElem? (i := 939) (by decide +kernel), List.mem_of_getElem? (i := 940) (by decide +kernel)⟩
theorem lw_p53 : lw_okq (⟨"CellToObjectModel", "gatherNow", "(I)I"⟩, 49) := ⟨⟨by decide +kernel, by decide +kernel⟩, List.mem_of_getElem? (i := 574) (by decide +kernel), List.mem_of_getElem? (i := 943) (by decide +kernel), List.mem_of_getElem? (i := 944) (by decide +kernel)⟩
theorem lw_p54 : lw_okq (⟨"CellToObjectModel", "putBehind", "(I)V"⟩, 49) := ⟨⟨by decide +kernel, by decide +kernel⟩, List.mem_of_getElem? (i := 574) (by decide +kernel), List.mem_of_getElem? (i := 947) (by decide +kernel), List.mem_of_getElem? (i := 948) (by decide +kernel)⟩
theorem lw_p55 : lw_okq (⟨"CellToObjectModel", "follow", "(I)V"⟩, 49) := ⟨⟨by decide +kernel, by decide +kernel⟩, List.mem_of_getElem? (i := 574) (by decide +kernel), List.mem_of_getElem? (i := 951) (by decide +kernel), List.mem_of_getElem? (i := 952) (by decide +kernel)⟩
theorem lw_p56 : lw_okq (⟨"CellToObjectModel", "isObject", "(I)Z"⟩, 49) := ⟨⟨by decide +kernel, by decide +kernel⟩, List.mem_of_getElem? (i := 574) (by decide +kernel), List.mem_of_getElem? (i := 955) (by decide +kernel), List.mem_of_getElem? (i := 956) (by decide +kernel)⟩
theorem lw_p57 : lw_okq (⟨"CellToObjectModel", "bury", "()I"⟩, 49) := ⟨⟨by decide +kernel, by decide +kernel⟩, List.mem_of_getElem? (i := 574) (by decide +kernel), List.mem_of_getElem? (i := 959) (by decide +kernel), List.mem_of_getElem? (i := 960) (by decide +kernel)⟩
theorem lw_p58 : lw_okq (⟨"CellToObjectModel", "moveAll", "()V"⟩, 49) := ⟨⟨by decide +kernel, by decide +kernel⟩, List.mem_of_getElem? (i := 574) (by decide +kernel), List.mem_of_getElem? (i := 963) (by decide +kernel), List.mem_of_getElem? (i := 964) (by decide +kernel)⟩
def lw_privs_4 : List (MethodName × Nat) := [(⟨"CellToObjectModel", "nextIn", "(II)I"⟩, 49), (⟨"CellToObjectModel", "roomFor", "(I)I"⟩, 49), (⟨"CellToObjectModel", "nextRoom", "(I)Z"⟩, 49), (⟨"CellToObjectModel", "firstFrom", "(I)I"⟩, 49), (⟨"CellToObjectModel", "freeNumber", "()I"⟩, 49), (⟨"CellToObjectModel", "gatherNow", "(I)I"⟩, 49), (⟨"CellToObjectModel", "putBehind", "(I)V"⟩, 49), (⟨"CellToObjectModel", "follow", "(I)V"⟩, 49), (⟨"CellToObjectModel", "isObject", "(I)Z"⟩, 49), (⟨"CellToObjectModel", "bury", "()I"⟩, 49), (⟨"CellToObjectModel", "moveAll", "()V"⟩, 49)]
theorem lw_r4 : ∀ q ∈ lw_privs_4, lw_okq q := List.forall_mem_cons.mpr ⟨lw_p48, List.forall_mem_cons.mpr ⟨lw_p49, List.forall_mem_cons.mpr ⟨lw_p50, List.forall_mem_cons.mpr ⟨lw_p51, List.forall_mem_cons.mpr ⟨lw_p52, List.forall_mem_cons.mpr ⟨lw_p53, List.forall_mem_cons.mpr ⟨lw_p54, List.forall_mem_cons.mpr ⟨lw_p55, List.forall_mem_cons.mpr ⟨lw_p56, List.forall_mem_cons.mpr ⟨lw_p57, List.forall_mem_cons.mpr ⟨lw_p58, fun _ h => absurd h List.not_mem_nil⟩⟩⟩⟩⟩⟩⟩⟩⟩⟩⟩
def lw_privs : List (MethodName × Nat) := lw_privs_1 ++ (lw_privs_2 ++ (lw_privs_3 ++ (lw_privs_4)))
def lw_tbl : List Cond := k2_sels lw_privs ++ tables_1
theorem lw_privs_ok : ∀ q ∈ lw_privs, lw_okq q := by
  show ∀ q ∈ lw_privs_1 ++ (lw_privs_2 ++ (lw_privs_3 ++ (lw_privs_4))), lw_okq q
  exact List.forall_mem_append.mpr ⟨lw_r1, List.forall_mem_append.mpr ⟨lw_r2, List.forall_mem_append.mpr ⟨lw_r3, lw_r4⟩⟩⟩
end
section
/-! the G layer: a side's memory as a function, cells at fixed numbers; a row an instruction, over it -/
abbrev gM : Type := Nat → Int → Int
abbrev gV : Type := Int ⊕ (Int ⊕ Nat)
abbrev gD : Type := (Nat × Nat) ⊕ (Nat × List (Option Nat))
abbrev gT : Type := List gD
abbrev gR : Type := gM × Int
abbrev gY : Type := ClassId × ClassId × ClassId
abbrev gO : Type := Option gR
def gTb : List Cond := lw_tbl.filter goodWord
theorem gTb_good {w : Cond} (h : w ∈ gTb) : goodWord w = true := (List.mem_filter.mp h).2
theorem gTb_lw {w : Cond} (h : w ∈ gTb) : w ∈ lw_tbl := (List.mem_filter.mp h).1
theorem gmem {w : Cond} (i : Nat) (h : lw_tbl[i]? = some w) (hg : goodWord w = true) : w ∈ gTb := List.mem_filter.mpr ⟨List.mem_of_getElem? h, hg⟩
theorem gsubs {ws : List Cond} (h : ws.all (fun w => decide (w ∈ gTb)) = true) : ∀ w ∈ ws, w ∈ gTb := fun w hw => of_decide_eq_true (List.all_eq_true.mp h w hw)
theorem gts {args : Array Value} {s : State} (h : ∀ w ∈ lw_tbl, w.before args s = true) : ∀ w ∈ gTb, w.before args s = true := fun w hw => h w (gTb_lw hw)
def gc (ad : Nat → Nat) (v : gV) : Value := match v with
  | .inl x => .int (Int32.ofInt x)
  | .inr (.inl x) => .long (Int64.ofInt x)
  | .inr (.inr k) => .ref (ad k)
def g32 (x : Int) : Prop := -2147483648 ≤ x ∧ x ≤ 2147483647
def g64 (x : Int) : Prop := -9223372036854775808 ≤ x ∧ x ≤ 9223372036854775807
def gok (v : gV) : Prop := match v with
  | .inl x => g32 x
  | .inr (.inl x) => g64 x
  | .inr (.inr _) => True
def gOk (st : List gV) : Prop := ∀ v ∈ st, gok v
def gOkL (L : List (Nat × gV)) : Prop := ∀ q ∈ L, gok q.2
def gU (σ : gM) (k : Nat) (i : Int) (v : Int) : gM := fun k' i' => if k' = k ∧ i' = i then v else σ k' i'
def gF (ad : Nat → Nat) (σ : gM) (k : Nat) (fl : List (Option Nat)) : List Value := fl.mapIdx fun j o => match o with
  | none => .int (Int32.ofInt (σ k (j : Int)))
  | some t => .ref (ad t)
def gE (cy : gY) (ad : Nat → Nat) (σ : gM) (k : Nat) (d : gD) : va_E := match d with
  | .inl (0, n) => .inl (cy.1, (n, .inl (fun j => Int32.ofInt (σ k (j : Int)))))
  | .inl (1, n) => .inl (cy.2.1, (n, .inl (fun j => Int32.ofInt (σ k (j : Int)))))
  | .inl (_, n) => .inl (cy.2.2, (n, .inr (.inl (fun j => Int64.ofInt (σ k (j : Int))))))
  | .inr (ci, fl) => .inr (ci, gF ad σ k fl)
def gW (ct : gT) (cy : gY) (ad : Nat → Nat) (σ : gM) : va_W := ct.mapIdx fun k d => (ad k, gE cy ad σ k d)
def gLong (ct : gT) (k : Nat) : Bool := match ct[k]? with
  | some (.inl (0, _)) => false
  | some (.inl (1, _)) => false
  | some (.inl _) => true
  | _ => false
def gIn (ct : gT) (σ : gM) : Prop := ∀ (k : Nat) (i : Int), (gLong ct k = false → g32 (σ k i)) ∧ g64 (σ k i)
def gtys (cy : gY) : List (ClassId × FieldType) := [(cy.1, .int), (cy.2.1, .boolean), (cy.2.2, .long)]
def gA (n : Nat) (ad : Nat → Nat) (sz : Nat) : Nat → Prop := fun q => (∃ k, k < n ∧ q = ad k) ∨ sz ≤ q
def gVP (i : Int) : Int := ([3, 5, 6, 7, 9, 10, 11, 12] : List Int).getD i.toNat 0
def gHR (i : Int) : Int := ([2, 1, 2, 1] : List Int).getD i.toNat 0
/-- the two static rows: at ad 1000 and ad 1001, never written -/
def gS (ad : Nat → Nat) (A : Nat → Prop) (U : State) (H : Heap) : Prop :=
  (va_Z "CellToObject$Cells" "VALUE_PLACES" "[I" (.ref (ad 1000)) A U H ∧ va_X (ad 1000) 8 (fun j => Int32.ofInt (gVP (j : Int))) U H ∧ ad 1000 < H.size ∧ ¬ A (ad 1000)) ∧
  (va_Z "CellToObject" "HIGHEST_RULE" "[I" (.ref (ad 1001)) A U H ∧ va_X (ad 1001) 4 (fun j => Int32.ofInt (gHR (j : Int))) U H ∧ ad 1001 < H.size ∧ ¬ A (ad 1001))
/-! the checks and binders of the functions -/
def ga (x : Int) (f : Int → gO) : gO := if -2147483648 ≤ x ∧ x ≤ 2147483647 then f x else none
def gal (x : Int) (f : Int → gO) : gO := if -9223372036854775808 ≤ x ∧ x ≤ 9223372036854775807 then f x else none
def gi (i n : Int) (o : gO) : gO := if 0 ≤ i ∧ i < n then o else none
def gb (x : Int) (o : gO) : gO := if 0 ≤ x ∧ x ≤ 1 then o else none
def gd (x y : Int) (o : gO) : gO := if 0 ≤ x ∧ 0 < y then o else none
def gv (x : Int) (f : Int → gO) : gO := f x
def gw (σ : gM) (k : Nat) (n i v : Int) (f : gM → gO) : gO := if 0 ≤ i ∧ i < n then f (gU σ k i v) else none
def gwb (σ : gM) (k : Nat) (n i v : Int) (f : gM → gO) : gO := if (0 ≤ i ∧ i < n) ∧ (0 ≤ v ∧ v ≤ 1) then f (gU σ k i v) else none
def gp (σ : gM) (k : Nat) (j v : Int) (f : gM → gO) : gO := f (gU σ k j v)
def gpb (σ : gM) (k : Nat) (j v : Int) (f : gM → gO) : gO := if 0 ≤ v ∧ v ≤ 1 then f (gU σ k j v) else none
def gk (o : gO) (K : gM → Int → gO) : gO := match o with
  | none => none
  | some q => K q.1 q.2
def gAnd (x y : Int) : Int := (Int32.ofInt x &&& Int32.ofInt y).toInt
def gOr (x y : Int) : Int := (Int32.ofInt x ||| Int32.ofInt y).toInt
def gXor (x y : Int) : Int := (Int32.ofInt x ^^^ Int32.ofInt y).toInt
def gShl (x y : Int) : Int := (Int32.ofInt x <<< (Int32.ofInt y &&& 31)).toInt
def gShr (x y : Int) : Int := (Int32.ofInt x >>> (Int32.ofInt y &&& 31)).toInt
def gUshr (x y : Int) : Int := ((Int32.ofInt x).toUInt32 >>> ((Int32.ofInt y).toUInt32 &&& Int32.toUInt32 31)).toInt32.toInt
def gl1 (body : (gM → Int → gO) → gM → Int → gO) : Nat → gM → Int → gO
  | 0 => fun _ _ => none
  | n + 1 => fun σ a => body (gl1 body n) σ a
def gl2 (body : (gM → Int → Int → gO) → gM → Int → Int → gO) : Nat → gM → Int → Int → gO
  | 0 => fun _ _ _ => none
  | n + 1 => fun σ a b => body (gl2 body n) σ a b
def gl3 (body : (gM → Int → Int → Int → gO) → gM → Int → Int → Int → gO) : Nat → gM → Int → Int → Int → gO
  | 0 => fun _ _ _ _ => none
  | n + 1 => fun σ a b c => body (gl3 body n) σ a b c
def gl4 (body : (gM → Int → Int → Int → Int → gO) → gM → Int → Int → Int → Int → gO) : Nat → gM → Int → Int → Int → Int → gO
  | 0 => fun _ _ _ _ _ => none
  | n + 1 => fun σ a b c d => body (gl4 body n) σ a b c d
/-! plain facts -/
theorem g32_neg {n : Int} (h : g32 n) : -2 ^ 31 ≤ n ∧ n < 2 ^ 31 := ⟨h.1, Int.lt_of_le_of_lt h.2 (by decide)⟩
theorem gti {x : Int} (h : g32 x) : (Int32.ofInt x).toInt = x := Int32.toInt_ofInt_of_le (g32_neg h).1 (g32_neg h).2
theorem gtl {x : Int} (h : g64 x) : (Int64.ofInt x).toInt = x := Int64.toInt_ofInt_of_le h.1 (Int.lt_of_le_of_lt h.2 (by decide))
theorem gin {x : Int} (h : g32 x) : (Int32.ofInt x).toNatClampNeg = x.toNat := by
  show (Int32.ofInt x).toInt.toNat = _
  rw [gti h]
theorem gof (x : Int32) : Int32.ofInt x.toInt = x := Int32.ofInt_toInt x
theorem g32_to (x : Int32) : g32 x.toInt := ⟨x.minValue_le_toInt, x.toInt_le⟩
theorem g32_64 {x : Int} (h : g32 x) : g64 x := ⟨by have := h.1; omega, by have := h.2; omega⟩
theorem glt {x y : Int} (hx : g32 x) (hy : g32 y) : Int32.ofInt x < Int32.ofInt y ↔ x < y := by
  rw [Int32.lt_iff_toInt_lt, gti hx, gti hy]
theorem gle {x y : Int} (hx : g32 x) (hy : g32 y) : Int32.ofInt x ≤ Int32.ofInt y ↔ x ≤ y := by
  rw [Int32.le_iff_toInt_le, gti hx, gti hy]
theorem geq {x y : Int} (hx : g32 x) (hy : g32 y) : Int32.ofInt x = Int32.ofInt y ↔ x = y := by
  rw [← Int32.toInt_inj, gti hx, gti hy]
theorem g32_0 : g32 0 := ⟨by decide, by decide⟩
theorem g32_1 {v : Int} (h : 0 ≤ v ∧ v ≤ 1) : g32 v := ⟨by omega, by omega⟩
theorem gvp {i : Int} {n : Nat} (h : g32 i) (h0 : 0 ≤ i) (h1 : i < (n : Int)) : vp_in (Int32.ofInt i) n := by
  intro q
  rcases q with q | q
  · rw [show (0 : Int32) = Int32.ofInt 0 from rfl, glt h g32_0] at q
    omega
  · rw [gin h] at q
    omega
theorem gOk_cons {v : gV} {st : List gV} (h : gok v) (hs : gOk st) : gOk (v :: st) := fun w hw => by
  rcases List.mem_cons.mp hw with rfl | hw
  · exact h
  · exact hs w hw
theorem gOk_hd {v : gV} {st : List gV} (h : gOk (v :: st)) : gok v := h v List.mem_cons_self
theorem gOk_tl {v : gV} {st : List gV} (h : gOk (v :: st)) : gOk st := fun w hw => h w (List.mem_cons_of_mem _ hw)
theorem gOkL_at {L : List (Nat × gV)} (h : gOkL L) {k i : Nat} {v : gV} (hk : L[k]? = some (i, v)) : gok v := h (i, v) (List.mem_of_getElem? hk)
theorem gW_get {ct : gT} {cy : gY} {ad : Nat → Nat} {σ : gM} {k : Nat} {d : gD} (h : ct[k]? = some d) : (gW ct cy ad σ)[k]? = some (ad k, gE cy ad σ k d) := by
  simp [gW, h]
theorem gE_congr {cy : gY} {ad : Nat → Nat} {σ σ' : gM} {k : Nat} (d : gD) (h : ∀ i, σ k i = σ' k i) : gE cy ad σ k d = gE cy ad σ' k d := by
  unfold gE gF
  simp only [h]
theorem gU_ne {σ : gM} {k k' : Nat} {i i' v : Int} (h : k' ≠ k) : gU σ k i v k' i' = σ k' i' := by simp [gU, h]
theorem gU_self {σ : gM} {k : Nat} {i v : Int} : gU σ k i v k i = v := by simp [gU]
theorem gW_set {ct : gT} {cy : gY} {ad : Nat → Nat} {σ : gM} {k : Nat} {d : gD} {i v : Int} {e : va_E} (h : ct[k]? = some d) (he : gE cy ad (gU σ k i v) k d = e) : (gW ct cy ad σ).set k (ad k, e) = gW ct cy ad (gU σ k i v) := by
  apply List.ext_getElem?
  intro j
  rw [List.getElem?_set]
  have hlt : k < (gW ct cy ad σ).length := (List.getElem?_eq_some_iff.mp (gW_get (cy := cy) (ad := ad) (σ := σ) h)).1
  by_cases hj : k = j
  · subst hj
    rw [if_pos rfl, if_pos hlt, gW_get h, he]
  · rw [if_neg hj]
    cases hd : ct[j]? with
    | none => simp [gW, hd]
    | some d' =>
      rw [gW_get hd, gW_get hd]
      congr 2
      exact gE_congr d' fun i' => (gU_ne (fun q => hj q.symm)).symm
theorem gW_len (ct : gT) (cy : gY) (ad : Nat → Nat) (σ : gM) : (gW ct cy ad σ).length = ct.length := by simp [gW]
theorem gW_ad {ct : gT} {cy : gY} {ad : Nat → Nat} {σ : gM} {k : Nat} {q : Nat × va_E} (h : (gW ct cy ad σ)[k]? = some q) : k < ct.length ∧ q.1 = ad k := by
  have h1 := (List.getElem?_eq_some_iff.mp h).1
  rw [gW_len] at h1
  refine ⟨h1, ?_⟩
  rw [gW_get (List.getElem?_eq_getElem h1)] at h
  rw [← Option.some.inj h]
theorem gW_D {A : Nat → Prop} {ct : gT} {cy : gY} {ad : Nat → Nat} {σ σ' : gM} (h : va_D A (gW ct cy ad σ)) : va_D A (gW ct cy ad σ') := by
  have g : ∀ (k : Nat) (q : Nat × va_E), (gW ct cy ad σ')[k]? = some q → ∃ q' : Nat × va_E, (gW ct cy ad σ)[k]? = some q' ∧ q'.1 = q.1 := fun k q hq => by
    obtain ⟨h1, h2⟩ := gW_ad hq
    exact ⟨_, gW_get (List.getElem?_eq_getElem h1), h2.symm⟩
  refine ⟨fun i j p q hp hq e => ?_, fun k q hq => ?_⟩
  · obtain ⟨p', hp', ep⟩ := g i p hp
    obtain ⟨q', hq', eq⟩ := g j q hq
    exact h.1 i j p' q' hp' hq' (by rw [ep, eq, e])
  · obtain ⟨q', hq', eq⟩ := g k q hq
    rw [← eq]
    exact h.2 k q' hq'
theorem gW_DA {ct : gT} {cy : gY} {ad : Nat → Nat} {σ : gM} {sz : Nat} (h : va_D (fun _ => True) (gW ct cy ad σ)) : va_D (gA ct.length ad sz) (gW ct cy ad σ) :=
  ⟨h.1, fun k q hq => Or.inl ⟨k, (gW_ad hq).1, (gW_ad hq).2⟩⟩
theorem gIn_U {ct : gT} {σ : gM} {k : Nat} {i v : Int} (h : gIn ct σ) (hv : gLong ct k = false → g32 v) (h64 : g64 v) : gIn ct (gU σ k i v) := by
  intro k' i'
  by_cases hq : k' = k ∧ i' = i
  · have e : gU σ k i v k' i' = v := by simp [gU, hq]
    rw [e]
    exact ⟨fun h => hv (hq.1 ▸ h), h64⟩
  · have e : gU σ k i v k' i' = σ k' i' := by simp [gU, hq]
    rw [e]
    exact h k' i'
theorem gS_call {n : Nat} {ad : Nat → Nat} {s U : State} {H : Heap} {locs : List Loc} (hs : gS ad (gA n ad s.heap.size) s s.heap) (hS : va_S (gA n ad s.heap.size) s.heap H locs) (hvm : s.vm.Alike U.vm) : gS ad (gA n ad H.size) U H := by
  have hsub : ∀ q, gA n ad H.size q → gA n ad s.heap.size q := fun q h => h.imp id (Nat.le_trans hS.1)
  have hk : ∀ a : Nat, a < s.heap.size → ¬ gA n ad s.heap.size a → H[a]? = s.heap[a]? := hS.2.1
  obtain ⟨⟨a1, a2, a3, a4⟩, b1, b2, b3, b4⟩ := hs
  exact ⟨⟨((a1.kept hk).moved hvm).narrow hsub, (a2.kept (hk _ a3 a4)).moved hvm, Nat.lt_of_lt_of_le a3 hS.1, fun q => a4 (hsub _ q)⟩, ((b1.kept hk).moved hvm).narrow hsub, (b2.kept (hk _ b3 b4)).moved hvm, Nat.lt_of_lt_of_le b3 hS.1, fun q => b4 (hsub _ q)⟩
end
section
/-! the classes of both sides, by program out of the listing -/
def kR0 : String := "CellToObject$Caches"
def kT0 : u_T := fun k => match k with
  | 0 => ("CellToObject$Caches", "state", "[I", true)
  | 1 => ("CellToObject$Caches", "bytes", "[I", true)
  | 2 => ("CellToObject$Caches", "came", "[I", true)
  | 3 => ("CellToObject$Caches", "askedAt", "[I", true)
  | 4 => ("CellToObject$Caches", "taken", "[Z", true)
  | 5 => ("CellToObject$Caches", "beside", "[Z", true)
  | 6 => ("CellToObject$Caches", "playing", "[I", true)
  | 7 => ("CellToObject$Caches", "sets", "I", false)
  | 8 => ("CellToObject$Caches", "ways", "I", false)
  | 9 => ("CellToObject$Caches", "clock", "I", false)
  | 10 => ("CellToObject$Caches", "ledger", "LCellToObject$Ledger;", true)
  | 11 => ("CellToObject$Caches", "cells", "LCellToObject$Cells;", true)
  | _ => ("CellToObject$Caches", "rules", "[I", true)
def kY0 : Nat → FieldType := fun k => match k with
  | 0 => .array .int
  | 1 => .array .int
  | 2 => .array .int
  | 3 => .array .int
  | 4 => .array .boolean
  | 5 => .array .boolean
  | 6 => .array .int
  | 7 => .int
  | 8 => .int
  | 9 => .int
  | 10 => .object "CellToObject$Ledger"
  | 11 => .object "CellToObject$Cells"
  | _ => .array .int
theorem kN0 : ∀ a, a < 13 → ∀ b, b < 13 → a ≠ b → (kT0 a).2.1 ≠ (kT0 b).2.1 := by decide +kernel
theorem kO0 : ∀ k, k < 13 → parseFieldDescriptor (kT0 k).2.2.1 = some (kY0 k) := by decide +kernel
theorem kI0 : ∀ w ∈ u_ws kR0 kT0 13, w ∈ gTb := gsubs (by decide +kernel)
def kR1 : String := "CellToObject$Cells"
def kT1 : u_T := fun k => match k with
  | 0 => ("CellToObject$Cells", "bits", "[I", true)
  | 1 => ("CellToObject$Cells", "wear", "[I", true)
  | 2 => ("CellToObject$Cells", "openRow", "[I", true)
  | 3 => ("CellToObject$Cells", "limit", "I", false)
  | _ => ("CellToObject$Cells", "ledger", "LCellToObject$Ledger;", true)
def kY1 : Nat → FieldType := fun k => match k with
  | 0 => .array .int
  | 1 => .array .int
  | 2 => .array .int
  | 3 => .int
  | _ => .object "CellToObject$Ledger"
theorem kN1 : ∀ a, a < 5 → ∀ b, b < 5 → a ≠ b → (kT1 a).2.1 ≠ (kT1 b).2.1 := by decide +kernel
theorem kO1 : ∀ k, k < 5 → parseFieldDescriptor (kT1 k).2.2.1 = some (kY1 k) := by decide +kernel
theorem kI1 : ∀ w ∈ u_ws kR1 kT1 5, w ∈ gTb := gsubs (by decide +kernel)
def kR2 : String := "CellToObject$Heap"
def kT2 : u_T := fun k => match k with
  | 0 => ("CellToObject$Heap", "address", "[I", true)
  | 1 => ("CellToObject$Heap", "fields", "[I", true)
  | 2 => ("CellToObject$Heap", "age", "[I", true)
  | 3 => ("CellToObject$Heap", "rite", "[Z", true)
  | 4 => ("CellToObject$Heap", "ticks", "[I", true)
  | 5 => ("CellToObject$Heap", "roots", "[I", true)
  | 6 => ("CellToObject$Heap", "weak", "[I", true)
  | 7 => ("CellToObject$Heap", "row", "[I", true)
  | 8 => ("CellToObject$Heap", "inRow", "[Z", true)
  | 9 => ("CellToObject$Heap", "rowLength", "I", false)
  | 10 => ("CellToObject$Heap", "ledger", "LCellToObject$Ledger;", true)
  | 11 => ("CellToObject$Heap", "caches", "LCellToObject$Caches;", true)
  | 12 => ("CellToObject$Heap", "memory", "LCellToObject$Memory;", true)
  | _ => ("CellToObject$Heap", "rules", "[I", true)
def kY2 : Nat → FieldType := fun k => match k with
  | 0 => .array .int
  | 1 => .array .int
  | 2 => .array .int
  | 3 => .array .boolean
  | 4 => .array .int
  | 5 => .array .int
  | 6 => .array .int
  | 7 => .array .int
  | 8 => .array .boolean
  | 9 => .int
  | 10 => .object "CellToObject$Ledger"
  | 11 => .object "CellToObject$Caches"
  | 12 => .object "CellToObject$Memory"
  | _ => .array .int
theorem kN2 : ∀ a, a < 14 → ∀ b, b < 14 → a ≠ b → (kT2 a).2.1 ≠ (kT2 b).2.1 := by decide +kernel
theorem kO2 : ∀ k, k < 14 → parseFieldDescriptor (kT2 k).2.2.1 = some (kY2 k) := by decide +kernel
theorem kI2 : ∀ w ∈ u_ws kR2 kT2 14, w ∈ gTb := gsubs (by decide +kernel)
def kR3 : String := "CellToObject$Ledger"
def kT3 : u_T := fun k => match k with
  | 0 => ("CellToObject$Ledger", "blamed", "[I", true)
  | 1 => ("CellToObject$Ledger", "tally", "[I", true)
  | _ => ("CellToObject$Ledger", "gathering", "Z", false)
def kY3 : Nat → FieldType := fun k => match k with
  | 0 => .array .int
  | 1 => .array .int
  | _ => .boolean
theorem kN3 : ∀ a, a < 3 → ∀ b, b < 3 → a ≠ b → (kT3 a).2.1 ≠ (kT3 b).2.1 := by decide +kernel
theorem kO3 : ∀ k, k < 3 → parseFieldDescriptor (kT3 k).2.2.1 = some (kY3 k) := by decide +kernel
theorem kI3 : ∀ w ∈ u_ws kR3 kT3 3, w ∈ gTb := gsubs (by decide +kernel)
def kR4 : String := "CellToObject$Memory"
def kT4 : u_T := fun k => match k with
  | 0 => ("CellToObject$Memory", "frames", "I", false)
  | 1 => ("CellToObject$Memory", "frameOf", "[I", true)
  | 2 => ("CellToObject$Memory", "everTouched", "[Z", true)
  | 3 => ("CellToObject$Memory", "run", "LCellToObject$Run;", true)
  | 4 => ("CellToObject$Memory", "hand", "I", false)
  | 5 => ("CellToObject$Memory", "clock", "I", false)
  | 6 => ("CellToObject$Memory", "pageIn", "[I", true)
  | 7 => ("CellToObject$Memory", "came", "[I", true)
  | 8 => ("CellToObject$Memory", "touchedAt", "[I", true)
  | 9 => ("CellToObject$Memory", "touchedSinceHand", "[Z", true)
  | 10 => ("CellToObject$Memory", "disc", "[I", true)
  | 11 => ("CellToObject$Memory", "ledger", "LCellToObject$Ledger;", true)
  | 12 => ("CellToObject$Memory", "cells", "LCellToObject$Cells;", true)
  | 13 => ("CellToObject$Memory", "caches", "LCellToObject$Caches;", true)
  | _ => ("CellToObject$Memory", "rules", "[I", true)
def kY4 : Nat → FieldType := fun k => match k with
  | 0 => .int
  | 1 => .array .int
  | 2 => .array .boolean
  | 3 => .object "CellToObject$Run"
  | 4 => .int
  | 5 => .int
  | 6 => .array .int
  | 7 => .array .int
  | 8 => .array .int
  | 9 => .array .boolean
  | 10 => .array .int
  | 11 => .object "CellToObject$Ledger"
  | 12 => .object "CellToObject$Cells"
  | 13 => .object "CellToObject$Caches"
  | _ => .array .int
theorem kN4 : ∀ a, a < 15 → ∀ b, b < 15 → a ≠ b → (kT4 a).2.1 ≠ (kT4 b).2.1 := by decide +kernel
theorem kO4 : ∀ k, k < 15 → parseFieldDescriptor (kT4 k).2.2.1 = some (kY4 k) := by decide +kernel
theorem kI4 : ∀ w ∈ u_ws kR4 kT4 15, w ∈ gTb := gsubs (by decide +kernel)
def kR5 : String := "CellToObject$Run"
def kT5 : u_T := fun k => match k with
  | 0 => ("CellToObject$Run", "pages", "[I", true)
  | 1 => ("CellToObject$Run", "next", "[I", true)
  | _ => ("CellToObject$Run", "seen", "I", false)
def kY5 : Nat → FieldType := fun k => match k with
  | 0 => .array .int
  | 1 => .array .int
  | _ => .int
theorem kN5 : ∀ a, a < 3 → ∀ b, b < 3 → a ≠ b → (kT5 a).2.1 ≠ (kT5 b).2.1 := by decide +kernel
theorem kO5 : ∀ k, k < 3 → parseFieldDescriptor (kT5 k).2.2.1 = some (kY5 k) := by decide +kernel
theorem kI5 : ∀ w ∈ u_ws kR5 kT5 3, w ∈ gTb := gsubs (by decide +kernel)
def kR6 : String := "CellToObject"
def kT6 : u_T := fun k => match k with
  | 0 => ("CellToObject", "rules", "[I", true)
  | 1 => ("CellToObject", "ledger", "LCellToObject$Ledger;", true)
  | 2 => ("CellToObject", "cells", "LCellToObject$Cells;", true)
  | 3 => ("CellToObject", "caches", "LCellToObject$Caches;", true)
  | 4 => ("CellToObject", "memory", "LCellToObject$Memory;", true)
  | _ => ("CellToObject", "heap", "LCellToObject$Heap;", true)
def kY6 : Nat → FieldType := fun k => match k with
  | 0 => .array .int
  | 1 => .object "CellToObject$Ledger"
  | 2 => .object "CellToObject$Cells"
  | 3 => .object "CellToObject$Caches"
  | 4 => .object "CellToObject$Memory"
  | _ => .object "CellToObject$Heap"
theorem kN6 : ∀ a, a < 6 → ∀ b, b < 6 → a ≠ b → (kT6 a).2.1 ≠ (kT6 b).2.1 := by decide +kernel
theorem kO6 : ∀ k, k < 6 → parseFieldDescriptor (kT6 k).2.2.1 = some (kY6 k) := by decide +kernel
theorem kI6 : ∀ w ∈ u_ws kR6 kT6 6, w ∈ gTb := gsubs (by decide +kernel)
def kR7 : String := "CellToObjectModel"
def kT7 : u_T := fun k => match k with
  | 0 => ("CellToObjectModel", "cells", "[I", true)
  | 1 => ("CellToObjectModel", "limit", "I", false)
  | 2 => ("CellToObjectModel", "wear", "[I", true)
  | 3 => ("CellToObjectModel", "openRow", "[I", true)
  | 4 => ("CellToObjectModel", "mended", "I", false)
  | 5 => ("CellToObjectModel", "sets", "I", false)
  | 6 => ("CellToObjectModel", "ways", "I", false)
  | 7 => ("CellToObjectModel", "who", "I", false)
  | 8 => ("CellToObjectModel", "late", "I", false)
  | 9 => ("CellToObjectModel", "lineBlock", "[I", true)
  | 10 => ("CellToObjectModel", "lineDirty", "[Z", true)
  | 11 => ("CellToObjectModel", "lineAsked", "[I", true)
  | 12 => ("CellToObjectModel", "lineCame", "[I", true)
  | 13 => ("CellToObjectModel", "lineBytes", "[I", true)
  | 14 => ("CellToObjectModel", "lineLost", "[I", true)
  | 15 => ("CellToObjectModel", "wasAsked", "[Z", true)
  | 16 => ("CellToObjectModel", "wasTaken", "[Z", true)
  | 17 => ("CellToObjectModel", "beside", "[I", true)
  | 18 => ("CellToObjectModel", "clock", "I", false)
  | 19 => ("CellToObjectModel", "frameMany", "I", false)
  | 20 => ("CellToObjectModel", "goes", "I", false)
  | 21 => ("CellToObjectModel", "hand", "I", false)
  | 22 => ("CellToObjectModel", "pageOf", "[I", true)
  | 23 => ("CellToObjectModel", "isMarked", "[Z", true)
  | 24 => ("CellToObjectModel", "frameCame", "[I", true)
  | 25 => ("CellToObjectModel", "frameTouched", "[I", true)
  | 26 => ("CellToObjectModel", "frameOf", "[I", true)
  | 27 => ("CellToObjectModel", "wasTouched", "[Z", true)
  | 28 => ("CellToObjectModel", "disc", "[I", true)
  | 29 => ("CellToObjectModel", "runMany", "I", false)
  | 30 => ("CellToObjectModel", "run", "[I", true)
  | 31 => ("CellToObjectModel", "fit", "I", false)
  | 32 => ("CellToObjectModel", "isThere", "[Z", true)
  | 33 => ("CellToObjectModel", "address", "[I", true)
  | 34 => ("CellToObjectModel", "fields", "[I", true)
  | 35 => ("CellToObjectModel", "age", "[I", true)
  | 36 => ("CellToObjectModel", "hasRite", "[Z", true)
  | 37 => ("CellToObjectModel", "objectTicks", "[J", true)
  | 38 => ("CellToObjectModel", "roots", "[I", true)
  | 39 => ("CellToObjectModel", "weaks", "[I", true)
  | 40 => ("CellToObjectModel", "isGathering", "Z", false)
  | 41 => ("CellToObjectModel", "ticks", "[J", true)
  | 42 => ("CellToObjectModel", "counts", "[I", true)
  | 43 => ("CellToObjectModel", "held", "[Z", true)
  | 44 => ("CellToObjectModel", "roomsAt", "I", false)
  | 45 => ("CellToObjectModel", "roomsLong", "I", false)
  | 46 => ("CellToObjectModel", "rowMany", "I", false)
  | 47 => ("CellToObjectModel", "row", "[I", true)
  | _ => ("CellToObjectModel", "inRow", "[Z", true)
def kY7 : Nat → FieldType := fun k => match k with
  | 0 => .array .int
  | 1 => .int
  | 2 => .array .int
  | 3 => .array .int
  | 4 => .int
  | 5 => .int
  | 6 => .int
  | 7 => .int
  | 8 => .int
  | 9 => .array .int
  | 10 => .array .boolean
  | 11 => .array .int
  | 12 => .array .int
  | 13 => .array .int
  | 14 => .array .int
  | 15 => .array .boolean
  | 16 => .array .boolean
  | 17 => .array .int
  | 18 => .int
  | 19 => .int
  | 20 => .int
  | 21 => .int
  | 22 => .array .int
  | 23 => .array .boolean
  | 24 => .array .int
  | 25 => .array .int
  | 26 => .array .int
  | 27 => .array .boolean
  | 28 => .array .int
  | 29 => .int
  | 30 => .array .int
  | 31 => .int
  | 32 => .array .boolean
  | 33 => .array .int
  | 34 => .array .int
  | 35 => .array .int
  | 36 => .array .boolean
  | 37 => .array .long
  | 38 => .array .int
  | 39 => .array .int
  | 40 => .boolean
  | 41 => .array .long
  | 42 => .array .int
  | 43 => .array .boolean
  | 44 => .int
  | 45 => .int
  | 46 => .int
  | 47 => .array .int
  | _ => .array .boolean
theorem kN7 : ∀ a, a < 49 → ∀ b, b < 49 → a ≠ b → (kT7 a).2.1 ≠ (kT7 b).2.1 := by decide +kernel
theorem kO7 : ∀ k, k < 49 → parseFieldDescriptor (kT7 k).2.2.1 = some (kY7 k) := by decide +kernel
theorem kI7 : ∀ w ∈ u_ws kR7 kT7 49, w ∈ gTb := gsubs (by decide +kernel)
def gcl : List vw_C := [(kR0, kT0, 13), (kR1, kT1, 5), (kR2, kT2, 14), (kR3, kT3, 3), (kR4, kT4, 15), (kR5, kT5, 3), (kR6, kT6, 6), (kR7, kT7, 49)]
end
section
/-! the goal over a side's memory, and its rows -/
abbrev gX : Type := (Program × Launch × Env × Room × State × MethodId × Array Value × List Frame × Method × Code) × ((Nat → Prop) × va_G × gY × (Nat → Nat) × Nat × (State → Prop) × gR)
abbrev xp (X : gX) : Program := X.1.1
abbrev xl (X : gX) : Launch := X.1.2.1
abbrev xe (X : gX) : Env := X.1.2.2.1
abbrev xR (X : gX) : Room := X.1.2.2.2.1
abbrev xs (X : gX) : State := X.1.2.2.2.2.1
abbrev xm (X : gX) : MethodId := X.1.2.2.2.2.2.1
abbrev xa (X : gX) : Array Value := X.1.2.2.2.2.2.2.1
abbrev xb (X : gX) : List Frame := X.1.2.2.2.2.2.2.2.1
abbrev xh (X : gX) : Method := X.1.2.2.2.2.2.2.2.2.1
abbrev xc (X : gX) : Code := X.1.2.2.2.2.2.2.2.2.2
abbrev xA (X : gX) : Nat → Prop := X.2.1
abbrev xD (X : gX) : va_G := X.2.2.1
abbrev xy (X : gX) : gY := X.2.2.2.1
abbrev xd (X : gX) : Nat → Nat := X.2.2.2.2.1
abbrev xn (X : gX) : Nat := X.2.2.2.2.2.1
abbrev xQ (X : gX) : State → Prop := X.2.2.2.2.2.2.1
abbrev xr (X : gX) : gR := X.2.2.2.2.2.2.2
def GG (ct : gT) (X : gX) (pc : Nat) (L : List (Nat × gV)) (st : List gV) (σ : gM) (o : gO) : Prop :=
  o = some (xr X) → gOkL L → gOk st → gIn ct σ → ∀ (H : Heap) (locs : List Loc) (ls : Array Slot), va_P (xD X) gcl (gW ct (xy X) (xd X) σ) H → va_D (xA X) (gW ct (xy X) (xd X) σ) → va_S (xA X) (xs X).heap H locs →
    lv_has ls (xn X) (L.map fun q => (q.1, gc (xd X) q.2)) → W (xp X) (xl X) (xe X) (xR X) (xs X) (xm X) (xa X) (xb X) (xh X) (xc X) H locs 0 0 (xQ X) (F0 (xm X) pc ls (st.map (gc (xd X))))
/-- a method's end: the answer and the memory behind it -/
def gB (ct : gT) (D : va_G) (cy : gY) (ad : Nat → Nat) (u : gM) (t : State) : Prop := va_P D gcl (gW ct cy ad u) t.heap ∧ va_K D gcl (gtys cy) t ∧ va_D (fun _ => True) (gW ct cy ad u)
def gPost (ret : Option FieldType) (ct : gT) (D : va_G) (cy : gY) (ad : Nat → Nat) (A : Nat → Prop) (res : gR) : Array Value → State → Outcome → State → Prop := match ret with
  | none => va_Qv (fun u : gM => u = res.1 ∧ gIn ct res.1) (gB ct D cy ad) A
  | some .long => va_Ql (fun (r : Int64) (u : gM) => r = Int64.ofInt res.2 ∧ u = res.1 ∧ gIn ct res.1 ∧ g64 res.2) (gB ct D cy ad) A
  | _ => va_Qi (fun (r : Int32) (u : gM) => r = Int32.ofInt res.2 ∧ u = res.1 ∧ gIn ct res.1 ∧ g32 res.2) (gB ct D cy ad) A
/-- what holds all through a method's walk -/
def gC (ct : gT) (cc : ByteArray) (own : String) (nL fr lo : Nat) (ret : Option FieldType) (X : gX) : Prop :=
  ((xp X).tables.exec = Jvm.exec ∧ (xc X).code = cc ∧ (xc X).maxLocals = nL ∧ (xs X).vm.findClass own = some (xm X).cls ∧ (∀ w ∈ gTb, w.before (xa X) (xs X) = true)) ∧ xn X = nL ∧ (xR X).frames = fr ∧ (xR X).locals = lo ∧
  (xh X).sig.returnType = ret ∧ (xh X).locks = false ∧ va_K (xD X) gcl (gtys (xy X)) (xs X) ∧ xA X = gA ct.length (xd X) (xs X).heap.size ∧ gS (xd X) (xA X) (xs X) (xs X).heap ∧ xQ X = MQ (xb X) (gPost ret ct (xD X) (xy X) (xd X) (xA X) (xr X)) (xa X) (xs X) 0 0 (xA X)
/-- a method's start -/
def gPre (ct : gT) (D : va_G) (cy : gY) (ad : Nat → Nat) (sz : Nat) (σ : gM) : State → Prop := fun U => U.heap.size = sz ∧ va_P D gcl (gW ct cy ad σ) U.heap ∧ va_K D gcl (gtys cy) U ∧ va_D (fun _ => True) (gW ct cy ad σ) ∧ gS ad (gA ct.length ad sz) U U.heap
/-- a method's contract at a memory, some arguments, an answer -/
def gCt (ct : gT) (y : MethodName) (cc : ByteArray) (nL : Nat) (ret : Option FieldType) (fr lo : Nat) (as : List gV) (σ : gM) (res : gR) : Prop :=
  ∀ (l : Launch) (D : va_G) (cy : gY) (ad : Nat → Nat) (sz : Nat), Met l y (.code y cc nL ret :: gTb) { frames := fr, cells := 0, slots := 0, locals := lo } (va_Pc (as.map (gc ad)) (gPre ct D cy ad sz σ)) (gPost ret ct D cy ad (gA ct.length ad sz) res) 0 0 (gA ct.length ad sz)
def gargs : Nat → List gV → List (Nat × gV)
  | _, [] => []
  | i, v :: vs => (i, v) :: gargs (i + 1) vs
def gsh (v : gV) : Bool := match v with
  | .inr (.inl _) => false
  | _ => true
theorem gargs_map (ad : Nat → Nat) : ∀ (as : List gV) (i : Nat), as.all gsh = true → lv_args i (as.map (gc ad)) = (gargs i as).map fun q => (q.1, gc ad q.2)
  | [], _, _ => rfl
  | v :: vs, i, h => by
    rw [List.all_cons, Bool.and_eq_true] at h
    have hc : (gc ad v).category ≠ 2 := by
      rcases v with x | x | x
      · simp [gc, Value.category]
      · simp [gsh] at h
      · simp [gc, Value.category]
    simp only [List.map_cons, lv_args, gargs, if_neg hc]
    rw [gargs_map ad vs (i + 1) h.2]
theorem gsl_len (ad : Nat → Nat) : ∀ (as : List gV), as.all gsh = true → (lg_sl (as.map (gc ad))).length = as.length
  | [], _ => rfl
  | v :: vs, h => by
    rw [List.all_cons, Bool.and_eq_true] at h
    have ih := gsl_len ad vs h.2
    rcases v with x | x | x
    · simp [gc, lg_sl, Value.category] at ih ⊢
      exact ih
    · simp [gsh] at h
    · simp [gc, lg_sl, Value.category] at ih ⊢
      exact ih
theorem gargs_ok : ∀ (as : List gV) (i : Nat), gOk as → gOkL (gargs i as)
  | [], _, _ => fun q h => by cases h
  | v :: vs, i, h => fun q hq => by
    rcases List.mem_cons.mp hq with rfl | hq
    · exact gOk_hd h
    · exact gargs_ok vs (i + 1) (gOk_tl h) q hq
theorem g_entry {ct : gT} {y : MethodName} {cc : ByteArray} {nL : Nat} {ret : Option FieldType} {fr lo : Nat} {as : List gV} {σ : gM} {res : gR} {o : gO} (hy : plainName y.cls = true) (hsh : as.all gsh = true) (hn : as.length ≤ nL) (ho : o = some res) (hok : gOk as) (hin : gIn ct σ)
    (body : ∀ X : gX, gC ct cc y.cls nL fr lo ret X → GG ct X 0 (gargs 0 as) [] σ o) : gCt ct y cc nL ret fr lo as σ res := by
  intro l D cy ad sz
  refine Met.ofW (cc := cc) (maxL := nL) (ret := ret) hy rfl ?_
  intro p e s m args below meth c s₁ B hml hv
  obtain ⟨rfl, rfl, hP, hK, hD0, hS⟩ := hv
  have hts := atoms_spec (ws := .code y cc nL ret :: gTb) B.pre
  have hown : s.vm.findClass y.cls = some m.cls := findClass_of_methodNamed B.named
  have hl := lv_entry (as.map (gc ad)) (n := nL) (by rw [gsl_len ad as hsh]; exact hn)
  rw [lg_entry_eq]
  generalize (lg_sl (as.map (gc ad)) ++ List.replicate (nL - (lg_sl (as.map (gc ad))).length) Slot.unset).toArray = ls at hl ⊢
  rw [gargs_map ad as 0 hsh] at hl
  have key := body ((p, l, e, (headSpec (.code y cc nL ret :: gTb) { frames := fr, cells := 0, slots := 0, locals := lo }).room, s, m, (as.map (gc ad)).toArray, below, meth, c), (gA ct.length ad s.heap.size, D, cy, ad, nL, MQ below (gPost ret ct D cy ad (gA ct.length ad s.heap.size) res) (as.map (gc ad)).toArray s 0 0 (gA ct.length ad s.heap.size), res))
    ⟨⟨B.exec, B.bytes, hml, hown, fun w hw => hts w (List.mem_cons_of_mem _ hw)⟩, rfl, rfl, rfl, B.returns, B.notSynchronized, hK, rfl, hS, rfl⟩
  exact key ho (gargs_ok as 0 hok) (fun v h => by cases h) hin s.heap [] ls hP (gW_DA hD0) va_S.rf hl
section GR
variable {ct : gT} {cc : ByteArray} {own : String} {nL fr lo : Nat} {ret : Option FieldType} {X : gX} {pc : Nat} {L : List (Nat × gV)} {st : List gV} {σ : gM}
theorem g_none : GG ct X pc L st σ none := fun h => by cases h
theorem g_ite {c : Prop} (dc : Decidable c) {o1 o2 : gO} (k1 : c → GG ct X pc L st σ o1) (k2 : ¬ c → GG ct X pc L st σ o2) : GG ct X pc L st σ (@ite _ c dc o1 o2) := by
  by_cases h : c
  · rw [if_pos h]; exact k1 h
  · rw [if_neg h]; exact k2 h
theorem g_sub {o : gO} {L' : List (Nat × gV)} (ks : List Nat) (hL : ks.filterMap (fun k => L[k]?) = L') (k : GG ct X pc L' st σ o) : GG ct X pc L st σ o := by
  intro ho hok hst hin H locs ls hP hD hS hl
  refine k ho (fun q hq => ?_) hst hin H locs ls hP hD hS (lv_sub hl ks ?_)
  · rw [← hL] at hq
    obtain ⟨i, -, hi⟩ := List.mem_filterMap.mp hq
    exact hok q (List.mem_of_getElem? hi)
  · rw [← hL]
    unfold lv_pick
    rw [List.map_filterMap]
    congr 1
    funext i
    rw [List.getElem?_map]
theorem g_iconst (C : gC ct cc own nL fr lo ret X) {o : gO} {n : Int} (hdg : decode cc pc = .ok (.iconst n, 1)) (hn : g32 n) (k : GG ct X (pc + 1) L (.inl n :: st) σ o) : GG ct X pc L st σ o := by
  intro ho hL hst hin H locs ls hP hD hS hl
  exact lv_iconst C.1.1 C.1.2.1 hdg rfl (k ho hL (gOk_cons hn hst) hin H locs ls hP hD hS hl)
theorem g_bipush (C : gC ct cc own nL fr lo ret X) {o : gO} {n : Int} (hdg : decode cc pc = .ok (.bipush n, 2)) (hv : (Int8.ofInt n).toInt32 = Int32.ofInt n) (hn : g32 n) (k : GG ct X (pc + 2) L (.inl n :: st) σ o) : GG ct X pc L st σ o := by
  intro ho hL hst hin H locs ls hP hD hS hl
  exact lv_bipush C.1.1 C.1.2.1 hdg hv (k ho hL (gOk_cons hn hst) hin H locs ls hP hD hS hl)
theorem g_sipush (C : gC ct cc own nL fr lo ret X) {o : gO} {n : Int} (hdg : decode cc pc = .ok (.sipush n, 3)) (hv : (Int16.ofInt n).toInt32 = Int32.ofInt n) (hn : g32 n) (k : GG ct X (pc + 3) L (.inl n :: st) σ o) : GG ct X pc L st σ o := by
  intro ho hL hst hin H locs ls hP hD hS hl
  exact lv_sipush C.1.1 C.1.2.1 hdg hv (k ho hL (gOk_cons hn hst) hin H locs ls hP hD hS hl)
theorem g_lconst (C : gC ct cc own nL fr lo ret X) {o : gO} {n : Fin 2} {v : Int} (hdg : decode cc pc = .ok (.lconst n, 1)) (hv : Int64.ofNat (n : Nat) = Int64.ofInt v) (hn : g64 v) (k : GG ct X (pc + 1) L (.inr (.inl v) :: st) σ o) : GG ct X pc L st σ o := by
  intro ho hL hst hin H locs ls hP hD hS hl
  exact lv_lconst C.1.1 C.1.2.1 hdg hv (k ho hL (gOk_cons hn hst) hin H locs ls hP hD hS hl)
theorem g_ldcw (C : gC ct cc own nL fr lo ret X) {o : gO} {ix : Nat} {n : Int} (hdg : decode cc pc = .ok (.ldc_w ix, 3)) (hw : Cond.constant own ix (Int32.ofInt n) ∈ gTb) (hn : g32 n) (k : GG ct X (pc + 3) L (.inl n :: st) σ o) : GG ct X pc L st σ o := by
  intro ho hL hst hin H locs ls hP hD hS hl
  exact lv_ldcw C.1.1 C.1.2.1 C.1.2.2.2.1 (C.1.2.2.2.2 _ hw) hdg (k ho hL (gOk_cons hn hst) hin H locs ls hP hD hS hl)
theorem g_ldc2 (C : gC ct cc own nL fr lo ret X) {o : gO} {ix : Nat} {n : Int} (hdg : decode cc pc = .ok (.ldc2_w ix, 3)) (hw : Cond.constantLong own ix (Int64.ofInt n) ∈ gTb) (hn : g64 n) (k : GG ct X (pc + 3) L (.inr (.inl n) :: st) σ o) : GG ct X pc L st σ o := by
  intro ho hL hst hin H locs ls hP hD hS hl
  exact lv_ldc2 C.1.1 C.1.2.1 C.1.2.2.2.1 (C.1.2.2.2.2 _ hw) hdg (k ho hL (gOk_cons hn hst) hin H locs ls hP hD hS hl)
theorem g_at {ls : Array Slot} {n : Nat} {ad : Nat → Nat} (hl : lv_has ls n (L.map fun q => (q.1, gc ad q.2))) {k i : Nat} {v : gV} (hk : L[k]? = some (i, v)) : ls[i]? = some (.val (gc ad v)) :=
  lv_at hl k (by rw [List.getElem?_map, hk]; rfl)
theorem g_iload_n (C : gC ct cc own nL fr lo ret X) {o : gO} {j : Fin 4} {i : Nat} {x : Int} (hdg : decode cc pc = .ok (.iload_n j, 1)) (hi : (j : Nat) = i) (t : Nat) (ht : L[t]? = some (i, .inl x)) (k : GG ct X (pc + 1) L (.inl x :: st) σ o) : GG ct X pc L st σ o := by
  intro ho hL hst hin H locs ls hP hD hS hl
  exact lv_iload_n C.1.1 C.1.2.1 hdg hi (g_at hl ht) (k ho hL (gOk_cons (gOkL_at hL ht) hst) hin H locs ls hP hD hS hl)
theorem g_iload (C : gC ct cc own nL fr lo ret X) {o : gO} {i : Nat} {x : Int} (hdg : decode cc pc = .ok (.iload i, 2)) (t : Nat) (ht : L[t]? = some (i, .inl x)) (k : GG ct X (pc + 2) L (.inl x :: st) σ o) : GG ct X pc L st σ o := by
  intro ho hL hst hin H locs ls hP hD hS hl
  exact lv_iload C.1.1 C.1.2.1 hdg (g_at hl ht) (k ho hL (gOk_cons (gOkL_at hL ht) hst) hin H locs ls hP hD hS hl)
theorem g_lload_n (C : gC ct cc own nL fr lo ret X) {o : gO} {j : Fin 4} {i : Nat} {x : Int} (hdg : decode cc pc = .ok (.lload_n j, 1)) (hi : (j : Nat) = i) (t : Nat) (ht : L[t]? = some (i, .inr (.inl x))) (k : GG ct X (pc + 1) L (.inr (.inl x) :: st) σ o) : GG ct X pc L st σ o := by
  intro ho hL hst hin H locs ls hP hD hS hl
  exact lv_lload_n C.1.1 C.1.2.1 hdg hi (g_at hl ht) (k ho hL (gOk_cons (gOkL_at hL ht) hst) hin H locs ls hP hD hS hl)
theorem g_lload (C : gC ct cc own nL fr lo ret X) {o : gO} {i : Nat} {x : Int} (hdg : decode cc pc = .ok (.lload i, 2)) (t : Nat) (ht : L[t]? = some (i, .inr (.inl x))) (k : GG ct X (pc + 2) L (.inr (.inl x) :: st) σ o) : GG ct X pc L st σ o := by
  intro ho hL hst hin H locs ls hP hD hS hl
  exact lv_lload C.1.1 C.1.2.1 hdg (g_at hl ht) (k ho hL (gOk_cons (gOkL_at hL ht) hst) hin H locs ls hP hD hS hl)
theorem g_aload_n (C : gC ct cc own nL fr lo ret X) {o : gO} {j : Fin 4} {i r : Nat} (hdg : decode cc pc = .ok (.aload_n j, 1)) (hi : (j : Nat) = i) (t : Nat) (ht : L[t]? = some (i, .inr (.inr r))) (k : GG ct X (pc + 1) L (.inr (.inr r) :: st) σ o) : GG ct X pc L st σ o := by
  intro ho hL hst hin H locs ls hP hD hS hl
  exact lv_aload_n C.1.1 C.1.2.1 hdg hi (g_at hl ht) (k ho hL (gOk_cons trivial hst) hin H locs ls hP hD hS hl)
theorem g_aload (C : gC ct cc own nL fr lo ret X) {o : gO} {i r : Nat} (hdg : decode cc pc = .ok (.aload i, 2)) (t : Nat) (ht : L[t]? = some (i, .inr (.inr r))) (k : GG ct X (pc + 2) L (.inr (.inr r) :: st) σ o) : GG ct X pc L st σ o := by
  intro ho hL hst hin H locs ls hP hD hS hl
  exact lv_aload C.1.1 C.1.2.1 hdg (g_at hl ht) (k ho hL (gOk_cons trivial hst) hin H locs ls hP hD hS hl)
def gst1 (i : Nat) (v : gV) (L : List (Nat × gV)) : List (Nat × gV) := (i, v) :: L.filter fun q => !(q.1 == i) && !(q.1 + 1 == i && !gsh q.2)
def gst2 (i : Nat) (v : gV) (L : List (Nat × gV)) : List (Nat × gV) := (i, v) :: L.filter fun q => !(q.1 == i) && (!(q.1 == i + 1) && !(q.1 + 1 == i && !gsh q.2))
theorem gcat (ad : Nat → Nat) (v : gV) : ((gc ad v).category == 2) = !gsh v := by
  rcases v with x | x | x <;> simp [gc, gsh, Value.category]
theorem gst1_map (ad : Nat → Nat) (i : Nat) (v : gV) (L : List (Nat × gV)) : (i, gc ad v) :: (L.map fun q => (q.1, gc ad q.2)).filter (fun q => !(q.1 == i) && !(q.1 + 1 == i && q.2.category == 2)) = (gst1 i v L).map fun q => (q.1, gc ad q.2) := by
  unfold gst1
  rw [List.map_cons, List.filter_map]
  simp only [Function.comp_def, gcat]
theorem gst2_map (ad : Nat → Nat) (i : Nat) (v : gV) (L : List (Nat × gV)) : (i, gc ad v) :: (L.map fun q => (q.1, gc ad q.2)).filter (fun q => !(q.1 == i) && (!(q.1 == i + 1) && !(q.1 + 1 == i && q.2.category == 2))) = (gst2 i v L).map fun q => (q.1, gc ad q.2) := by
  unfold gst2
  rw [List.map_cons, List.filter_map]
  simp only [Function.comp_def, gcat]
theorem gst1_ok {i : Nat} {v : gV} (hL : gOkL L) (hv : gok v) : gOkL (gst1 i v L) := fun q hq => by
  rcases List.mem_cons.mp hq with rfl | hq
  · exact hv
  · exact hL q (List.mem_filter.mp hq).1
theorem gst2_ok {i : Nat} {v : gV} (hL : gOkL L) (hv : gok v) : gOkL (gst2 i v L) := fun q hq => by
  rcases List.mem_cons.mp hq with rfl | hq
  · exact hv
  · exact hL q (List.mem_filter.mp hq).1
theorem g_istore_n (C : gC ct cc own nL fr lo ret X) {o : gO} {j : Fin 4} {i : Nat} {x : Int} {L' : List (Nat × gV)} (hdg : decode cc pc = .ok (.istore_n j, 1)) (hi : (j : Nat) = i) (hn : i < nL) (hL' : gst1 i (.inl x) L = L') (k : GG ct X (pc + 1) L' st σ o) : GG ct X pc L (.inl x :: st) σ o := by
  intro ho hL hst hin H locs ls hP hD hS hl
  refine lv_istore_n C.1.1 C.1.2.1 hdg hi hl (by rw [C.2.1]; exact hn) (gst1_map (xd X) i (.inl x) L) fun ls hl => ?_
  subst hL'
  exact k ho (gst1_ok hL (gOk_hd hst)) (gOk_tl hst) hin H locs ls hP hD hS hl
theorem g_istore (C : gC ct cc own nL fr lo ret X) {o : gO} {i : Nat} {x : Int} {L' : List (Nat × gV)} (hdg : decode cc pc = .ok (.istore i, 2)) (hn : i < nL) (hL' : gst1 i (.inl x) L = L') (k : GG ct X (pc + 2) L' st σ o) : GG ct X pc L (.inl x :: st) σ o := by
  intro ho hL hst hin H locs ls hP hD hS hl
  refine lv_istore C.1.1 C.1.2.1 hdg hl (by rw [C.2.1]; exact hn) (gst1_map (xd X) i (.inl x) L) fun ls hl => ?_
  subst hL'
  exact k ho (gst1_ok hL (gOk_hd hst)) (gOk_tl hst) hin H locs ls hP hD hS hl
theorem g_astore (C : gC ct cc own nL fr lo ret X) {o : gO} {i r : Nat} {L' : List (Nat × gV)} (hdg : decode cc pc = .ok (.astore i, 2)) (hn : i < nL) (hL' : gst1 i (.inr (.inr r)) L = L') (k : GG ct X (pc + 2) L' st σ o) : GG ct X pc L (.inr (.inr r) :: st) σ o := by
  intro ho hL hst hin H locs ls hP hD hS hl
  refine lv_astore C.1.1 C.1.2.1 hdg hl (by rw [C.2.1]; exact hn) (gst1_map (xd X) i (.inr (.inr r)) L) fun ls hl => ?_
  subst hL'
  exact k ho (gst1_ok hL trivial) (gOk_tl hst) hin H locs ls hP hD hS hl
theorem g_lstore_n (C : gC ct cc own nL fr lo ret X) {o : gO} {j : Fin 4} {i : Nat} {x : Int} {L' : List (Nat × gV)} (hdg : decode cc pc = .ok (.lstore_n j, 1)) (hi : (j : Nat) = i) (hn : i + 1 < nL) (hL' : gst2 i (.inr (.inl x)) L = L') (k : GG ct X (pc + 1) L' st σ o) : GG ct X pc L (.inr (.inl x) :: st) σ o := by
  intro ho hL hst hin H locs ls hP hD hS hl
  refine lv_lstore_n C.1.1 C.1.2.1 hdg hi hl (by rw [C.2.1]; exact hn) (gst2_map (xd X) i (.inr (.inl x)) L) fun ls hl => ?_
  subst hL'
  exact k ho (gst2_ok hL (gOk_hd hst)) (gOk_tl hst) hin H locs ls hP hD hS hl
theorem g_lstore (C : gC ct cc own nL fr lo ret X) {o : gO} {i : Nat} {x : Int} {L' : List (Nat × gV)} (hdg : decode cc pc = .ok (.lstore i, 2)) (hn : i + 1 < nL) (hL' : gst2 i (.inr (.inl x)) L = L') (k : GG ct X (pc + 2) L' st σ o) : GG ct X pc L (.inr (.inl x) :: st) σ o := by
  intro ho hL hst hin H locs ls hP hD hS hl
  refine lv_lstore C.1.1 C.1.2.1 hdg hl (by rw [C.2.1]; exact hn) (gst2_map (xd X) i (.inr (.inl x)) L) fun ls hl => ?_
  subst hL'
  exact k ho (gst2_ok hL (gOk_hd hst)) (gOk_tl hst) hin H locs ls hP hD hS hl
theorem ga_in {x : Int} {f : Int → gO} {r : gR} (h : ga x f = some r) : g32 x ∧ f x = some r := by
  unfold ga at h
  split at h
  · rename_i q; exact ⟨q, h⟩
  · cases h
theorem gal_in {x : Int} {f : Int → gO} {r : gR} (h : gal x f = some r) : g64 x ∧ f x = some r := by
  unfold gal at h
  split at h
  · rename_i q; exact ⟨q, h⟩
  · cases h
theorem gi_in {i n : Int} {o : gO} {r : gR} (h : gi i n o = some r) : (0 ≤ i ∧ i < n) ∧ o = some r := by
  unfold gi at h
  split at h
  · rename_i q; exact ⟨q, h⟩
  · cases h
theorem gb_in {x : Int} {o : gO} {r : gR} (h : gb x o = some r) : (0 ≤ x ∧ x ≤ 1) ∧ o = some r := by
  unfold gb at h
  split at h
  · rename_i q; exact ⟨q, h⟩
  · cases h
theorem gd_in {x y : Int} {o : gO} {r : gR} (h : gd x y o = some r) : (0 ≤ x ∧ 0 < y) ∧ o = some r := by
  unfold gd at h
  split at h
  · rename_i q; exact ⟨q, h⟩
  · cases h
theorem gw_in {σ : gM} {k : Nat} {n i v : Int} {f : gM → gO} {r : gR} (h : gw σ k n i v f = some r) : (0 ≤ i ∧ i < n) ∧ f (gU σ k i v) = some r := by
  unfold gw at h
  split at h
  · rename_i q; exact ⟨q, h⟩
  · cases h
theorem gwb_in {σ : gM} {k : Nat} {n i v : Int} {f : gM → gO} {r : gR} (h : gwb σ k n i v f = some r) : ((0 ≤ i ∧ i < n) ∧ (0 ≤ v ∧ v ≤ 1)) ∧ f (gU σ k i v) = some r := by
  unfold gwb at h
  split at h
  · rename_i q; exact ⟨q, h⟩
  · cases h
theorem gpb_in {σ : gM} {k : Nat} {j v : Int} {f : gM → gO} {r : gR} (h : gpb σ k j v f = some r) : (0 ≤ v ∧ v ≤ 1) ∧ f (gU σ k j v) = some r := by
  unfold gpb at h
  split at h
  · rename_i q; exact ⟨q, h⟩
  · cases h
theorem gk_in {o : gO} {K : gM → Int → gO} {r : gR} (h : gk o K = some r) : ∃ q : gR, o = some q ∧ K q.1 q.2 = some r := by
  unfold gk at h
  split at h
  · cases h
  · rename_i q; exact ⟨q, rfl, h⟩
theorem g_iinc (C : gC ct cc own nL fr lo ret X) {i t : Nat} {n x : Int} {f : Int → gO} {L' : Int → List (Nat × gV)} (hdg : decode cc pc = .ok (.iinc i n, 3)) (ht : L[t]? = some (i, .inl x)) (hn : i < nL) (hL' : ∀ z, gst1 i (.inl z) L = L' z) (k : ∀ z, GG ct X (pc + 3) (L' z) st σ (f z)) : GG ct X pc L st σ (ga (x + n) f) := by
  intro ho hL hst hin H locs ls hP hD hS hl
  obtain ⟨h1, ho⟩ := ga_in ho
  refine lv_iinc (k := t) (x := Int32.ofInt x) (v := Int32.ofInt (x + n)) C.1.1 C.1.2.1 hdg hl (by rw [List.getElem?_map, ht]; rfl) (Int32.ofInt_add x n).symm (by rw [C.2.1]; exact hn) (gst1_map (xd X) i (.inl (x + n)) L) fun ls hl => ?_
  have k1 := k (x + n)
  rw [← hL' (x + n)] at k1
  exact k1 ho (gst1_ok hL h1) hst hin H locs ls hP hD hS hl
theorem g_iadd (C : gC ct cc own nL fr lo ret X) {x y : Int} {f : Int → gO} (hdg : decode cc pc = .ok (.iadd, 1)) (k : ∀ z, GG ct X (pc + 1) L (.inl z :: st) σ (f z)) : GG ct X pc L (.inl y :: .inl x :: st) σ (ga (x + y) f) := by
  intro ho hL hst hin H locs ls hP hD hS hl
  obtain ⟨h1, ho⟩ := ga_in ho
  have e : Int32.ofInt x + Int32.ofInt y = Int32.ofInt (x + y) := (Int32.ofInt_add x y).symm
  refine lv_iadd (x := Int32.ofInt x) (y := Int32.ofInt y) C.1.1 C.1.2.1 hdg ?_
  rw [e]
  exact k (x + y) ho hL (gOk_cons h1 (gOk_tl (gOk_tl hst))) hin H locs ls hP hD hS hl
theorem g_isub (C : gC ct cc own nL fr lo ret X) {x y : Int} {f : Int → gO} (hdg : decode cc pc = .ok (.isub, 1)) (k : ∀ z, GG ct X (pc + 1) L (.inl z :: st) σ (f z)) : GG ct X pc L (.inl y :: .inl x :: st) σ (ga (x - y) f) := by
  intro ho hL hst hin H locs ls hP hD hS hl
  obtain ⟨h1, ho⟩ := ga_in ho
  have e : Int32.ofInt x - Int32.ofInt y = Int32.ofInt (x - y) := (Int32.ofInt_sub x y).symm
  refine lv_isub (x := Int32.ofInt x) (y := Int32.ofInt y) C.1.1 C.1.2.1 hdg ?_
  rw [e]
  exact k (x - y) ho hL (gOk_cons h1 (gOk_tl (gOk_tl hst))) hin H locs ls hP hD hS hl
theorem g_imul (C : gC ct cc own nL fr lo ret X) {x y : Int} {f : Int → gO} (hdg : decode cc pc = .ok (.imul, 1)) (k : ∀ z, GG ct X (pc + 1) L (.inl z :: st) σ (f z)) : GG ct X pc L (.inl y :: .inl x :: st) σ (ga (x * y) f) := by
  intro ho hL hst hin H locs ls hP hD hS hl
  obtain ⟨h1, ho⟩ := ga_in ho
  have e : Int32.ofInt x * Int32.ofInt y = Int32.ofInt (x * y) := (Int32.ofInt_mul x y).symm
  refine lv_imul (x := Int32.ofInt x) (y := Int32.ofInt y) C.1.1 C.1.2.1 hdg ?_
  rw [e]
  exact k (x * y) ho hL (gOk_cons h1 (gOk_tl (gOk_tl hst))) hin H locs ls hP hD hS hl
theorem g_ineg (C : gC ct cc own nL fr lo ret X) {x : Int} {f : Int → gO} (hdg : decode cc pc = .ok (.ineg, 1)) (k : ∀ z, GG ct X (pc + 1) L (.inl z :: st) σ (f z)) : GG ct X pc L (.inl x :: st) σ (ga (-x) f) := by
  intro ho hL hst hin H locs ls hP hD hS hl
  obtain ⟨h1, ho⟩ := ga_in ho
  have e : -Int32.ofInt x = Int32.ofInt (-x) := (Int32.ofInt_neg x).symm
  refine lv_ineg (x := Int32.ofInt x) C.1.1 C.1.2.1 hdg ?_
  rw [e]
  exact k (-x) ho hL (gOk_cons h1 (gOk_tl hst)) hin H locs ls hP hD hS hl
theorem gdiv {x y : Int} (hx : g32 x) (hy : g32 y) (h : 0 ≤ x ∧ 0 < y) : Int32.ofInt x / Int32.ofInt y = Int32.ofInt (x / y) := by
  rw [← Int.tdiv_eq_ediv_of_nonneg h.1]
  exact (Int32.ofInt_tdiv hx.1 hx.2 hy.1 hy.2).symm
theorem gdiv_ne {y : Int} (hy : g32 y) (h : 0 < y) : ¬ Int32.ofInt y = 0 := by
  rw [show (0 : Int32) = Int32.ofInt 0 from rfl, geq hy g32_0]
  omega
theorem gdiv_ok {x y : Int} (hx : g32 x) (h : 0 ≤ x ∧ 0 < y) : g32 (x / y) := by
  have h1 : 0 ≤ x / y := Int.ediv_nonneg h.1 (Int.le_of_lt h.2)
  have h2 : x / y ≤ x := Int.ediv_le_self y h.1
  exact ⟨by omega, by have := hx.2; omega⟩
theorem g_idiv (C : gC ct cc own nL fr lo ret X) {x y : Int} {o : gO} (hdg : decode cc pc = .ok (.idiv, 1)) (k : GG ct X (pc + 1) L (.inl (x / y) :: st) σ o) : GG ct X pc L (.inl y :: .inl x :: st) σ (gd x y o) := by
  intro ho hL hst hin H locs ls hP hD hS hl
  obtain ⟨h1, ho⟩ := gd_in ho
  have hy : g32 y := gOk_hd hst
  have hx : g32 x := gOk_hd (gOk_tl hst)
  refine lv_idiv (x := Int32.ofInt x) (y := Int32.ofInt y) C.1.1 C.1.2.1 hdg (gdiv_ne hy h1.2) ?_
  rw [gdiv hx hy h1]
  exact k ho hL (gOk_cons (gdiv_ok hx h1) (gOk_tl (gOk_tl hst))) hin H locs ls hP hD hS hl
theorem g_irem (C : gC ct cc own nL fr lo ret X) {x y : Int} {o : gO} (hdg : decode cc pc = .ok (.irem, 1)) (k : GG ct X (pc + 1) L (.inl (x % y) :: st) σ o) : GG ct X pc L (.inl y :: .inl x :: st) σ (gd x y o) := by
  intro ho hL hst hin H locs ls hP hD hS hl
  obtain ⟨h1, ho⟩ := gd_in ho
  have hy : g32 y := gOk_hd hst
  have hx : g32 x := gOk_hd (gOk_tl hst)
  refine lv_irem (x := Int32.ofInt x) (y := Int32.ofInt y) C.1.1 C.1.2.1 hdg (gdiv_ne hy h1.2) ?_
  have e : Int32.ofInt x - Int32.ofInt x / Int32.ofInt y * Int32.ofInt y = Int32.ofInt (x % y) := by
    rw [gdiv hx hy h1, ← Int32.ofInt_mul, ← Int32.ofInt_sub, Int.emod_def, Int.mul_comm]
  rw [e]
  have m0 : 0 ≤ x % y := Int.emod_nonneg x (by omega)
  have m1 : x % y < y := Int.emod_lt_of_pos x h1.2
  exact k ho hL (gOk_cons (show g32 (x % y) from ⟨by omega, by have := hy.2; omega⟩) (gOk_tl (gOk_tl hst))) hin H locs ls hP hD hS hl
theorem g_iand (C : gC ct cc own nL fr lo ret X) {x y : Int} {o : gO} (hdg : decode cc pc = .ok (.iand, 1)) (k : GG ct X (pc + 1) L (.inl (gAnd x y) :: st) σ o) : GG ct X pc L (.inl y :: .inl x :: st) σ o := by
  intro ho hL hst hin H locs ls hP hD hS hl
  refine lv_iand (x := Int32.ofInt x) (y := Int32.ofInt y) C.1.1 C.1.2.1 hdg ?_
  rw [show Int32.ofInt x &&& Int32.ofInt y = Int32.ofInt (gAnd x y) from (gof _).symm]
  exact k ho hL (gOk_cons (show g32 _ from g32_to _) (gOk_tl (gOk_tl hst))) hin H locs ls hP hD hS hl
theorem g_ior (C : gC ct cc own nL fr lo ret X) {x y : Int} {o : gO} (hdg : decode cc pc = .ok (.ior, 1)) (k : GG ct X (pc + 1) L (.inl (gOr x y) :: st) σ o) : GG ct X pc L (.inl y :: .inl x :: st) σ o := by
  intro ho hL hst hin H locs ls hP hD hS hl
  refine lv_ior (x := Int32.ofInt x) (y := Int32.ofInt y) C.1.1 C.1.2.1 hdg ?_
  rw [show Int32.ofInt x ||| Int32.ofInt y = Int32.ofInt (gOr x y) from (gof _).symm]
  exact k ho hL (gOk_cons (show g32 _ from g32_to _) (gOk_tl (gOk_tl hst))) hin H locs ls hP hD hS hl
theorem g_ixor (C : gC ct cc own nL fr lo ret X) {x y : Int} {o : gO} (hdg : decode cc pc = .ok (.ixor, 1)) (k : GG ct X (pc + 1) L (.inl (gXor x y) :: st) σ o) : GG ct X pc L (.inl y :: .inl x :: st) σ o := by
  intro ho hL hst hin H locs ls hP hD hS hl
  refine lv_ixor (x := Int32.ofInt x) (y := Int32.ofInt y) C.1.1 C.1.2.1 hdg ?_
  rw [show Int32.ofInt x ^^^ Int32.ofInt y = Int32.ofInt (gXor x y) from (gof _).symm]
  exact k ho hL (gOk_cons (show g32 _ from g32_to _) (gOk_tl (gOk_tl hst))) hin H locs ls hP hD hS hl
theorem g_ishl (C : gC ct cc own nL fr lo ret X) {x y : Int} {o : gO} (hdg : decode cc pc = .ok (.ishl, 1)) (k : GG ct X (pc + 1) L (.inl (gShl x y) :: st) σ o) : GG ct X pc L (.inl y :: .inl x :: st) σ o := by
  intro ho hL hst hin H locs ls hP hD hS hl
  refine lv_ishl (x := Int32.ofInt x) (y := Int32.ofInt y) C.1.1 C.1.2.1 hdg ?_
  rw [show Int32.ofInt x <<< (Int32.ofInt y &&& 31) = Int32.ofInt (gShl x y) from (gof _).symm]
  exact k ho hL (gOk_cons (show g32 _ from g32_to _) (gOk_tl (gOk_tl hst))) hin H locs ls hP hD hS hl
theorem g_ishr (C : gC ct cc own nL fr lo ret X) {x y : Int} {o : gO} (hdg : decode cc pc = .ok (.ishr, 1)) (k : GG ct X (pc + 1) L (.inl (gShr x y) :: st) σ o) : GG ct X pc L (.inl y :: .inl x :: st) σ o := by
  intro ho hL hst hin H locs ls hP hD hS hl
  refine lv_ishr (x := Int32.ofInt x) (y := Int32.ofInt y) C.1.1 C.1.2.1 hdg ?_
  rw [show Int32.ofInt x >>> (Int32.ofInt y &&& 31) = Int32.ofInt (gShr x y) from (gof _).symm]
  exact k ho hL (gOk_cons (show g32 _ from g32_to _) (gOk_tl (gOk_tl hst))) hin H locs ls hP hD hS hl
theorem g_iushr (C : gC ct cc own nL fr lo ret X) {x y : Int} {o : gO} (hdg : decode cc pc = .ok (.iushr, 1)) (k : GG ct X (pc + 1) L (.inl (gUshr x y) :: st) σ o) : GG ct X pc L (.inl y :: .inl x :: st) σ o := by
  intro ho hL hst hin H locs ls hP hD hS hl
  exact lv_iushr (x := Int32.ofInt x) (y := Int32.ofInt y) (v := Int32.ofInt (gUshr x y)) C.1.1 C.1.2.1 hdg (gof _).symm (k ho hL (gOk_cons (show g32 _ from g32_to _) (gOk_tl (gOk_tl hst))) hin H locs ls hP hD hS hl)
theorem g_ladd (C : gC ct cc own nL fr lo ret X) {x y : Int} {f : Int → gO} (hdg : decode cc pc = .ok (.ladd, 1)) (k : ∀ z, GG ct X (pc + 1) L (.inr (.inl z) :: st) σ (f z)) : GG ct X pc L (.inr (.inl y) :: .inr (.inl x) :: st) σ (gal (x + y) f) := by
  intro ho hL hst hin H locs ls hP hD hS hl
  obtain ⟨h1, ho⟩ := gal_in ho
  have e : Int64.ofInt x + Int64.ofInt y = Int64.ofInt (x + y) := (Int64.ofInt_add x y).symm
  refine lv_ladd (x := Int64.ofInt x) (y := Int64.ofInt y) C.1.1 C.1.2.1 hdg ?_
  rw [e]
  exact k (x + y) ho hL (gOk_cons (show gok _ from h1) (gOk_tl (gOk_tl hst))) hin H locs ls hP hD hS hl
theorem g_lsub (C : gC ct cc own nL fr lo ret X) {x y : Int} {f : Int → gO} (hdg : decode cc pc = .ok (.lsub, 1)) (k : ∀ z, GG ct X (pc + 1) L (.inr (.inl z) :: st) σ (f z)) : GG ct X pc L (.inr (.inl y) :: .inr (.inl x) :: st) σ (gal (x - y) f) := by
  intro ho hL hst hin H locs ls hP hD hS hl
  obtain ⟨h1, ho⟩ := gal_in ho
  have e : Int64.ofInt x - Int64.ofInt y = Int64.ofInt (x - y) := (Int64.ofInt_sub x y).symm
  refine lv_lsub (x := Int64.ofInt x) (y := Int64.ofInt y) C.1.1 C.1.2.1 hdg ?_
  rw [e]
  exact k (x - y) ho hL (gOk_cons (show gok _ from h1) (gOk_tl (gOk_tl hst))) hin H locs ls hP hD hS hl
theorem g_i2l (C : gC ct cc own nL fr lo ret X) {x : Int} {o : gO} (hdg : decode cc pc = .ok (.i2l, 1)) (k : GG ct X (pc + 1) L (.inr (.inl x) :: st) σ o) : GG ct X pc L (.inl x :: st) σ o := by
  intro ho hL hst hin H locs ls hP hD hS hl
  have hx : g32 x := gOk_hd hst
  have e : (Int32.ofInt x).toInt64 = Int64.ofInt x := by
    apply Int64.toInt_inj.mp
    rw [Int32.toInt_toInt64, gti hx, gtl (g32_64 hx)]
  exact lv_i2l (x := Int32.ofInt x) C.1.1 C.1.2.1 hdg e (k ho hL (gOk_cons (show gok _ from g32_64 hx) (gOk_tl hst)) hin H locs ls hP hD hS hl)
theorem g_l2i (C : gC ct cc own nL fr lo ret X) {x : Int} {f : Int → gO} (hdg : decode cc pc = .ok (.l2i, 1)) (k : ∀ z, GG ct X (pc + 1) L (.inl z :: st) σ (f z)) : GG ct X pc L (.inr (.inl x) :: st) σ (ga x f) := by
  intro ho hL hst hin H locs ls hP hD hS hl
  obtain ⟨h1, ho⟩ := ga_in ho
  have e : (Int64.ofInt x).toInt32 = Int32.ofInt x := by
    rw [← gof (Int64.ofInt x).toInt32, Int64.toInt_toInt32, gtl (g32_64 h1)]
    congr 1
    have := h1.1
    have := h1.2
    exact Int.bmod_eq_of_le (by omega) (by omega)
  exact lv_l2i (x := Int64.ofInt x) C.1.1 C.1.2.1 hdg e (k x ho hL (gOk_cons (show gok _ from h1) (gOk_tl hst)) hin H locs ls hP hD hS hl)
theorem g_let (C : gC ct cc own nL fr lo ret X) {x : Int} {f : Int → gO} (k : ∀ z, GG ct X pc L (.inl z :: st) σ (f z)) : GG ct X pc L (.inl x :: st) σ (gv x f) := k x
theorem g_letl (C : gC ct cc own nL fr lo ret X) {x : Int} {f : Int → gO} (k : ∀ z, GG ct X pc L (.inr (.inl z) :: st) σ (f z)) : GG ct X pc L (.inr (.inl x) :: st) σ (gv x f) := k x
theorem gc_cat {ad : Nat → Nat} {v : gV} (h : gsh v = true) : (gc ad v).category = 1 := by
  rcases v with x | x | x
  · rfl
  · cases h
  · rfl
theorem g_dup (C : gC ct cc own nL fr lo ret X) {v : gV} {o : gO} (hdg : decode cc pc = .ok (.dup, 1)) (hv : gsh v = true) (k : GG ct X (pc + 1) L (v :: v :: st) σ o) : GG ct X pc L (v :: st) σ o := by
  intro ho hL hst hin H locs ls hP hD hS hl
  exact lv_dup C.1.1 C.1.2.1 hdg (gc_cat hv) (k ho hL (gOk_cons (gOk_hd hst) hst) hin H locs ls hP hD hS hl)
theorem g_dup2 (C : gC ct cc own nL fr lo ret X) {v w : gV} {o : gO} (hdg : decode cc pc = .ok (.dup2, 1)) (hv : gsh v = true) (hw : gsh w = true) (k : GG ct X (pc + 1) L (v :: w :: v :: w :: st) σ o) : GG ct X pc L (v :: w :: st) σ o := by
  intro ho hL hst hin H locs ls hP hD hS hl
  exact lv_dup2_11 C.1.1 C.1.2.1 hdg (gc_cat hv) (gc_cat hw) (k ho hL (gOk_cons (gOk_hd hst) (gOk_cons (gOk_hd (gOk_tl hst)) hst)) hin H locs ls hP hD hS hl)
theorem g_pop (C : gC ct cc own nL fr lo ret X) {v : gV} {o : gO} (hdg : decode cc pc = .ok (.pop, 1)) (hv : gsh v = true) (k : GG ct X (pc + 1) L st σ o) : GG ct X pc L (v :: st) σ o := by
  intro ho hL hst hin H locs ls hP hD hS hl
  exact lv_pop C.1.1 C.1.2.1 hdg (gc_cat hv) (k ho hL (gOk_tl hst) hin H locs ls hP hD hS hl)
theorem g_goto (C : gC ct cc own nL fr lo ret X) {off : Int} {tgt : Nat} {o : gO} (hdg : decode cc pc = .ok (.goto off, 3)) (ht : (pc : Int) + off = (tgt : Int)) (k : GG ct X tgt L st σ o) : GG ct X pc L st σ o := by
  intro ho hL hst hin H locs ls hP hD hS hl
  exact lv_goto C.1.1 C.1.2.1 hdg ht (k ho hL hst hin H locs ls hP hD hS hl)
end GR
end
section
/-! rows: branches, fields, arrays, calls, ends -/
section GR2
variable {ct : gT} {cc : ByteArray} {own : String} {nL fr lo : Nat} {ret : Option FieldType} {X : gX} {pc : Nat} {L : List (Nat × gV)} {st : List gV} {σ : gM}
theorem g_icmp_eq (C : gC ct cc own nL fr lo ret X) {x y : Int} {off : Int} {tgt : Nat} {o1 o2 : gO} (hdg : decode cc pc = .ok (.if_icmp .eq off, 3)) (ht : (pc : Int) + off = (tgt : Int)) (k1 : GG ct X tgt L st σ o1) (k2 : GG ct X (pc + 3) L st σ o2) : GG ct X pc L (.inl y :: .inl x :: st) σ (if x = y then o1 else o2) := by
  intro ho hL hst hin H locs ls hP hD hS hl
  have hy : g32 y := gOk_hd hst
  have hx : g32 x := gOk_hd (gOk_tl hst)
  have h2 := gOk_tl (gOk_tl hst)
  refine lv_icmp_eq (x := Int32.ofInt x) (y := Int32.ofInt y) C.1.1 C.1.2.1 hdg ht (fun q => ?_) (fun q => ?_)
  · rw [geq hx hy] at q
    exact k1 (by rw [if_pos q] at ho; exact ho) hL h2 hin H locs ls hP hD hS hl
  · rw [geq hx hy] at q
    exact k2 (by rw [if_neg q] at ho; exact ho) hL h2 hin H locs ls hP hD hS hl
theorem g_icmp_ne (C : gC ct cc own nL fr lo ret X) {x y : Int} {off : Int} {tgt : Nat} {o1 o2 : gO} (hdg : decode cc pc = .ok (.if_icmp .ne off, 3)) (ht : (pc : Int) + off = (tgt : Int)) (k1 : GG ct X tgt L st σ o1) (k2 : GG ct X (pc + 3) L st σ o2) : GG ct X pc L (.inl y :: .inl x :: st) σ (if x = y then o2 else o1) := by
  intro ho hL hst hin H locs ls hP hD hS hl
  have hy : g32 y := gOk_hd hst
  have hx : g32 x := gOk_hd (gOk_tl hst)
  have h2 := gOk_tl (gOk_tl hst)
  refine lv_icmp_ne (x := Int32.ofInt x) (y := Int32.ofInt y) C.1.1 C.1.2.1 hdg ht (fun q => ?_) (fun q => ?_)
  · rw [geq hx hy] at q
    exact k1 (by rw [if_neg q] at ho; exact ho) hL h2 hin H locs ls hP hD hS hl
  · rw [geq hx hy] at q
    exact k2 (by rw [if_pos q] at ho; exact ho) hL h2 hin H locs ls hP hD hS hl
theorem g_icmp_lt (C : gC ct cc own nL fr lo ret X) {x y : Int} {off : Int} {tgt : Nat} {o1 o2 : gO} (hdg : decode cc pc = .ok (.if_icmp .lt off, 3)) (ht : (pc : Int) + off = (tgt : Int)) (k1 : GG ct X tgt L st σ o1) (k2 : GG ct X (pc + 3) L st σ o2) : GG ct X pc L (.inl y :: .inl x :: st) σ (if x < y then o1 else o2) := by
  intro ho hL hst hin H locs ls hP hD hS hl
  have hy : g32 y := gOk_hd hst
  have hx : g32 x := gOk_hd (gOk_tl hst)
  have h2 := gOk_tl (gOk_tl hst)
  refine lv_icmp_lt (x := Int32.ofInt x) (y := Int32.ofInt y) C.1.1 C.1.2.1 hdg ht (fun q => ?_) (fun q => ?_)
  · rw [glt hx hy] at q
    exact k1 (by rw [if_pos q] at ho; exact ho) hL h2 hin H locs ls hP hD hS hl
  · rw [glt hx hy] at q
    exact k2 (by rw [if_neg q] at ho; exact ho) hL h2 hin H locs ls hP hD hS hl
theorem g_icmp_ge (C : gC ct cc own nL fr lo ret X) {x y : Int} {off : Int} {tgt : Nat} {o1 o2 : gO} (hdg : decode cc pc = .ok (.if_icmp .ge off, 3)) (ht : (pc : Int) + off = (tgt : Int)) (k1 : GG ct X tgt L st σ o1) (k2 : GG ct X (pc + 3) L st σ o2) : GG ct X pc L (.inl y :: .inl x :: st) σ (if x < y then o2 else o1) := by
  intro ho hL hst hin H locs ls hP hD hS hl
  have hy : g32 y := gOk_hd hst
  have hx : g32 x := gOk_hd (gOk_tl hst)
  have h2 := gOk_tl (gOk_tl hst)
  refine lv_icmp_ge (x := Int32.ofInt x) (y := Int32.ofInt y) C.1.1 C.1.2.1 hdg ht (fun q => ?_) (fun q => ?_)
  · rw [gle hy hx] at q
    exact k1 (by rw [if_neg (Int.not_lt.mpr q)] at ho; exact ho) hL h2 hin H locs ls hP hD hS hl
  · rw [gle hy hx] at q
    exact k2 (by rw [if_pos (Int.not_le.mp q)] at ho; exact ho) hL h2 hin H locs ls hP hD hS hl
theorem g_icmp_gt (C : gC ct cc own nL fr lo ret X) {x y : Int} {off : Int} {tgt : Nat} {o1 o2 : gO} (hdg : decode cc pc = .ok (.if_icmp .gt off, 3)) (ht : (pc : Int) + off = (tgt : Int)) (k1 : GG ct X tgt L st σ o1) (k2 : GG ct X (pc + 3) L st σ o2) : GG ct X pc L (.inl y :: .inl x :: st) σ (if y < x then o1 else o2) := by
  intro ho hL hst hin H locs ls hP hD hS hl
  have hy : g32 y := gOk_hd hst
  have hx : g32 x := gOk_hd (gOk_tl hst)
  have h2 := gOk_tl (gOk_tl hst)
  refine lv_icmp_gt (x := Int32.ofInt x) (y := Int32.ofInt y) C.1.1 C.1.2.1 hdg ht (fun q => ?_) (fun q => ?_)
  · have q := (glt hy hx).mp q
    exact k1 (by rw [if_pos q] at ho; exact ho) hL h2 hin H locs ls hP hD hS hl
  · have q := fun z => q ((glt hy hx).mpr z)
    exact k2 (by rw [if_neg q] at ho; exact ho) hL h2 hin H locs ls hP hD hS hl
theorem g_icmp_le (C : gC ct cc own nL fr lo ret X) {x y : Int} {off : Int} {tgt : Nat} {o1 o2 : gO} (hdg : decode cc pc = .ok (.if_icmp .le off, 3)) (ht : (pc : Int) + off = (tgt : Int)) (k1 : GG ct X tgt L st σ o1) (k2 : GG ct X (pc + 3) L st σ o2) : GG ct X pc L (.inl y :: .inl x :: st) σ (if y < x then o2 else o1) := by
  intro ho hL hst hin H locs ls hP hD hS hl
  have hy : g32 y := gOk_hd hst
  have hx : g32 x := gOk_hd (gOk_tl hst)
  have h2 := gOk_tl (gOk_tl hst)
  refine lv_icmp_le (x := Int32.ofInt x) (y := Int32.ofInt y) C.1.1 C.1.2.1 hdg ht (fun q => ?_) (fun q => ?_)
  · have q := (gle hx hy).mp q
    exact k1 (by rw [if_neg (Int.not_lt.mpr q)] at ho; exact ho) hL h2 hin H locs ls hP hD hS hl
  · have q := fun z => q ((gle hx hy).mpr z)
    exact k2 (by rw [if_pos (Int.not_le.mp q)] at ho; exact ho) hL h2 hin H locs ls hP hD hS hl
theorem g_if_eq (C : gC ct cc own nL fr lo ret X) {x : Int} {off : Int} {tgt : Nat} {o1 o2 : gO} (hdg : decode cc pc = .ok (.ifCond .eq off, 3)) (ht : (pc : Int) + off = (tgt : Int)) (k1 : GG ct X tgt L st σ o1) (k2 : GG ct X (pc + 3) L st σ o2) : GG ct X pc L (.inl x :: st) σ (if x = 0 then o1 else o2) := by
  intro ho hL hst hin H locs ls hP hD hS hl
  have hx : g32 x := gOk_hd hst
  refine lv_if_eq (x := Int32.ofInt x) C.1.1 C.1.2.1 hdg ht (fun q => ?_) (fun q => ?_)
  · have q := (geq hx g32_0).mp q
    exact k1 (by rw [if_pos q] at ho; exact ho) hL (gOk_tl hst) hin H locs ls hP hD hS hl
  · have q := fun z => q ((geq hx g32_0).mpr z)
    exact k2 (by rw [if_neg q] at ho; exact ho) hL (gOk_tl hst) hin H locs ls hP hD hS hl
theorem g_if_ne (C : gC ct cc own nL fr lo ret X) {x : Int} {off : Int} {tgt : Nat} {o1 o2 : gO} (hdg : decode cc pc = .ok (.ifCond .ne off, 3)) (ht : (pc : Int) + off = (tgt : Int)) (k1 : GG ct X tgt L st σ o1) (k2 : GG ct X (pc + 3) L st σ o2) : GG ct X pc L (.inl x :: st) σ (if x = 0 then o2 else o1) := by
  intro ho hL hst hin H locs ls hP hD hS hl
  have hx : g32 x := gOk_hd hst
  refine lv_if_ne (x := Int32.ofInt x) C.1.1 C.1.2.1 hdg ht (fun q => ?_) (fun q => ?_)
  · have q := fun z => q ((geq hx g32_0).mpr z)
    exact k1 (by rw [if_neg q] at ho; exact ho) hL (gOk_tl hst) hin H locs ls hP hD hS hl
  · have q := (geq hx g32_0).mp q
    exact k2 (by rw [if_pos q] at ho; exact ho) hL (gOk_tl hst) hin H locs ls hP hD hS hl
theorem g_if_lt (C : gC ct cc own nL fr lo ret X) {x : Int} {off : Int} {tgt : Nat} {o1 o2 : gO} (hdg : decode cc pc = .ok (.ifCond .lt off, 3)) (ht : (pc : Int) + off = (tgt : Int)) (k1 : GG ct X tgt L st σ o1) (k2 : GG ct X (pc + 3) L st σ o2) : GG ct X pc L (.inl x :: st) σ (if x < 0 then o1 else o2) := by
  intro ho hL hst hin H locs ls hP hD hS hl
  have hx : g32 x := gOk_hd hst
  refine lv_if_lt (x := Int32.ofInt x) C.1.1 C.1.2.1 hdg ht (fun q => ?_) (fun q => ?_)
  · have q := (glt hx g32_0).mp q
    exact k1 (by rw [if_pos q] at ho; exact ho) hL (gOk_tl hst) hin H locs ls hP hD hS hl
  · have q := fun z => q ((glt hx g32_0).mpr z)
    exact k2 (by rw [if_neg q] at ho; exact ho) hL (gOk_tl hst) hin H locs ls hP hD hS hl
theorem g_if_ge (C : gC ct cc own nL fr lo ret X) {x : Int} {off : Int} {tgt : Nat} {o1 o2 : gO} (hdg : decode cc pc = .ok (.ifCond .ge off, 3)) (ht : (pc : Int) + off = (tgt : Int)) (k1 : GG ct X tgt L st σ o1) (k2 : GG ct X (pc + 3) L st σ o2) : GG ct X pc L (.inl x :: st) σ (if x < 0 then o2 else o1) := by
  intro ho hL hst hin H locs ls hP hD hS hl
  have hx : g32 x := gOk_hd hst
  refine lv_if_ge (x := Int32.ofInt x) C.1.1 C.1.2.1 hdg ht (fun q => ?_) (fun q => ?_)
  · have q := (gle g32_0 hx).mp q
    exact k1 (by rw [if_neg (Int.not_lt.mpr q)] at ho; exact ho) hL (gOk_tl hst) hin H locs ls hP hD hS hl
  · have q := fun z => q ((gle g32_0 hx).mpr z)
    exact k2 (by rw [if_pos (Int.not_le.mp q)] at ho; exact ho) hL (gOk_tl hst) hin H locs ls hP hD hS hl
theorem g_if_gt (C : gC ct cc own nL fr lo ret X) {x : Int} {off : Int} {tgt : Nat} {o1 o2 : gO} (hdg : decode cc pc = .ok (.ifCond .gt off, 3)) (ht : (pc : Int) + off = (tgt : Int)) (k1 : GG ct X tgt L st σ o1) (k2 : GG ct X (pc + 3) L st σ o2) : GG ct X pc L (.inl x :: st) σ (if 0 < x then o1 else o2) := by
  intro ho hL hst hin H locs ls hP hD hS hl
  have hx : g32 x := gOk_hd hst
  refine lv_if_gt (x := Int32.ofInt x) C.1.1 C.1.2.1 hdg ht (fun q => ?_) (fun q => ?_)
  · have q := (glt g32_0 hx).mp q
    exact k1 (by rw [if_pos q] at ho; exact ho) hL (gOk_tl hst) hin H locs ls hP hD hS hl
  · have q := fun z => q ((glt g32_0 hx).mpr z)
    exact k2 (by rw [if_neg q] at ho; exact ho) hL (gOk_tl hst) hin H locs ls hP hD hS hl
theorem g_if_le (C : gC ct cc own nL fr lo ret X) {x : Int} {off : Int} {tgt : Nat} {o1 o2 : gO} (hdg : decode cc pc = .ok (.ifCond .le off, 3)) (ht : (pc : Int) + off = (tgt : Int)) (k1 : GG ct X tgt L st σ o1) (k2 : GG ct X (pc + 3) L st σ o2) : GG ct X pc L (.inl x :: st) σ (if 0 < x then o2 else o1) := by
  intro ho hL hst hin H locs ls hP hD hS hl
  have hx : g32 x := gOk_hd hst
  refine lv_if_le (x := Int32.ofInt x) C.1.1 C.1.2.1 hdg ht (fun q => ?_) (fun q => ?_)
  · have q := (gle hx g32_0).mp q
    exact k1 (by rw [if_neg (Int.not_lt.mpr q)] at ho; exact ho) hL (gOk_tl hst) hin H locs ls hP hD hS hl
  · have q := fun z => q ((gle hx g32_0).mpr z)
    exact k2 (by rw [if_pos (Int.not_le.mp q)] at ho; exact ho) hL (gOk_tl hst) hin H locs ls hP hD hS hl
theorem g_tabIn (C : gC ct cc own nL fr lo ret X) {x v : Int} {dflt lw hi off : Int} {offs : Array Int} {len tgt : Nat} {o : gO} (hdg : decode cc pc = .ok (.tableswitch dflt lw hi offs, len)) (hx : x = v) (h32 : g32 v) (h1 : ¬ v < lw) (h2 : ¬ hi < v) (hof : offs[(v - lw).toNat]? = some off) (ht : (pc : Int) + off = (tgt : Int)) (k : GG ct X tgt L st σ o) : GG ct X pc L (.inl x :: st) σ o := by
  intro ho hL hst hin H locs ls hP hD hS hl
  subst hx
  exact lv_tableIn (x := Int32.ofInt x) C.1.1 C.1.2.1 hdg (by rw [gti h32]; exact h1) (by rw [gti h32]; exact h2) (by rw [gti h32]; exact hof) ht (k ho hL (gOk_tl hst) hin H locs ls hP hD hS hl)
theorem g_tabOut (C : gC ct cc own nL fr lo ret X) {x : Int} {dflt lw hi : Int} {offs : Array Int} {len tgt : Nat} {o : gO} (hdg : decode cc pc = .ok (.tableswitch dflt lw hi offs, len)) (h : x < lw ∨ hi < x) (ht : (pc : Int) + dflt = (tgt : Int)) (k : GG ct X tgt L st σ o) : GG ct X pc L (.inl x :: st) σ o := by
  intro ho hL hst hin H locs ls hP hD hS hl
  have hx : g32 x := gOk_hd hst
  exact lv_tableOut (x := Int32.ofInt x) C.1.1 C.1.2.1 hdg (by rw [gti hx]; exact h) ht (k ho hL (gOk_tl hst) hin H locs ls hP hD hS hl)
theorem g_look (C : gC ct cc own nL fr lo ret X) {x : Int} {dflt off : Int} {ps : Array (Int × Int)} {len tgt : Nat} {o : gO} (hdg : decode cc pc = .ok (.lookupswitch dflt ps, len)) (hp : (ps.toList.zip (ps.toList.drop 1)).all (fun (a, next) => a.1 < next.1) = true) (hof : Op.lookupswitch.offset ps.toList dflt x = off) (ht : (pc : Int) + off = (tgt : Int)) (k : GG ct X tgt L st σ o) : GG ct X pc L (.inl x :: st) σ o := by
  intro ho hL hst hin H locs ls hP hD hS hl
  have hx : g32 x := gOk_hd hst
  exact lv_lookup (x := Int32.ofInt x) C.1.1 C.1.2.1 hdg hp (by rw [gti hx]; exact hof) ht (k ho hL (gOk_tl hst) hin H locs ls hP hD hS hl)
theorem gF_at {ad : Nat → Nat} {σ : gM} {k j : Nat} {fl : List (Option Nat)} {t : Option Nat} (h : fl[j]? = some t) : (gF ad σ k fl)[j]? = some (match t with
  | none => .int (Int32.ofInt (σ k (j : Int)))
  | some t => .ref (ad t)) := by
  simp [gF, h]
  cases t <;> rfl
theorem gF_set {ad : Nat → Nat} {σ : gM} {k j : Nat} {fl : List (Option Nat)} {v : Int} (h : fl[j]? = some none) : (gF ad σ k fl).set j (.int (Int32.ofInt v)) = gF ad (gU σ k (j : Int) v) k fl := by
  have hj : j < fl.length := (List.getElem?_eq_some_iff.mp h).1
  apply List.ext_getElem?
  intro i
  rw [List.getElem?_set]
  by_cases hij : j = i
  · subst hij
    rw [gF_at (σ := gU σ k (j : Int) v) h, if_pos rfl, if_pos (by simpa [gF] using hj), gU_self]
  · rw [if_neg hij]
    cases hf : fl[i]? with
    | none => simp [gF, hf]
    | some t =>
      rw [gF_at hf, gF_at hf]
      cases t with
      | none => simp [gU, show ¬ ((i : Int) = (j : Int)) from fun e => hij (by omega)]
      | some t => rfl
theorem g_get (C : gC ct cc own nL fr lo ret X) {o : gO} {q ix ci : Nat} {cn : String} {T : u_T} {N : Nat} {fl : List (Option Nat)} (j : Nat) (hc : gcl[ci]? = some (cn, T, N)) (hw : ∀ w ∈ u_ws cn T N, w ∈ gTb) (hct : ct[q]? = some (.inr (ci, fl))) (hj : j < N) (hfl : fl[j]? = some none) {n d : String} (hT : T j = (cn, n, d, (T j).2.2.2)) (hlk : Cond.fieldLink own ix cn n d ∈ gTb) (hlg : gLong ct q = false) (hdg : decode cc pc = .ok (.getfield ix, 3))
    (k : GG ct X (pc + 3) L (.inl (σ q (j : Int)) :: st) σ o) : GG ct X pc L (.inr (.inr q) :: st) σ o := by
  intro ho hL hst hin H locs ls hP hD hS hl
  refine va_get (D := xD X) (v := .int (Int32.ofInt (σ q (j : Int)))) C.1.1 C.1.2.1 C.1.2.2.2.2 hw C.1.2.2.2.1 C.2.2.2.2.2.2.1 hP q (gW_get hct) hc j hj (C.1.2.2.2.2 _ (by rw [hT]; exact hlk)) (ref := cn) (fun _ h => by rw [hT] at h ⊢; exact h) (gF_at hfl) hdg ?_
  exact k ho hL (gOk_cons (show gok _ from (hin q j).1 hlg) (gOk_tl hst)) hin H locs ls hP hD hS hl
theorem g_getr (C : gC ct cc own nL fr lo ret X) {o : gO} {q ix ci t : Nat} {cn : String} {T : u_T} {N : Nat} {fl : List (Option Nat)} (j : Nat) (hc : gcl[ci]? = some (cn, T, N)) (hw : ∀ w ∈ u_ws cn T N, w ∈ gTb) (hct : ct[q]? = some (.inr (ci, fl))) (hj : j < N) (hfl : fl[j]? = some (some t)) {n d : String} (hT : T j = (cn, n, d, (T j).2.2.2)) (hlk : Cond.fieldLink own ix cn n d ∈ gTb) (hdg : decode cc pc = .ok (.getfield ix, 3))
    (k : GG ct X (pc + 3) L (.inr (.inr t) :: st) σ o) : GG ct X pc L (.inr (.inr q) :: st) σ o := by
  intro ho hL hst hin H locs ls hP hD hS hl
  refine va_get (D := xD X) (v := .ref (xd X t)) C.1.1 C.1.2.1 C.1.2.2.2.2 hw C.1.2.2.2.1 C.2.2.2.2.2.2.1 hP q (gW_get hct) hc j hj (C.1.2.2.2.2 _ (by rw [hT]; exact hlk)) (ref := cn) (fun _ h => by rw [hT] at h ⊢; exact h) (gF_at hfl) hdg ?_
  exact k ho hL (gOk_cons trivial (gOk_tl hst)) hin H locs ls hP hD hS hl
theorem g_putI (C : gC ct cc own nL fr lo ret X) {f : gM → gO} {q ix ci : Nat} {cn : String} {T : u_T} {ty0 : Nat → FieldType} {N : Nat} {fl : List (Option Nat)} {v : Int} (j : Nat) (hc : gcl[ci]? = some (cn, T, N)) (hw : ∀ w ∈ u_ws cn T N, w ∈ gTb) (hty : ∀ k, k < N → parseFieldDescriptor (T k).2.2.1 = some (ty0 k)) (hnm : ∀ a, a < N → ∀ b, b < N → a ≠ b → (T a).2.1 ≠ (T b).2.1) (hct : ct[q]? = some (.inr (ci, fl))) (hj : j < N) (hfl : fl[j]? = some none) {n : String} (hT : T j = (cn, n, "I", false)) (hlk : Cond.fieldLink own ix cn n "I" ∈ gTb) (hdg : decode cc pc = .ok (.putfield ix, 3))
    (k : ∀ σ', GG ct X (pc + 3) L st σ' (f σ')) : GG ct X pc L (.inl v :: .inr (.inr q) :: st) σ (gp σ q (j : Int) v f) := by
  intro ho hL hst hin H locs ls hP hD hS hl
  have hv : g32 v := gOk_hd hst
  refine va_put (D := xD X) (v := .int (Int32.ofInt v)) (ty := .int) C.1.1 C.1.2.1 C.1.2.2.2.2 hw ty0 hty hnm C.1.2.2.2.1 C.2.2.2.2.2.2.1 hP hD hS q (gW_get hct) hc j hj (C.1.2.2.2.2 _ (by rw [hT]; exact hlk)) (ref := cn) (fun _ h => by rw [hT] at h ⊢; exact h) (by rw [hT]) (by rw [hT]; show parseFieldDescriptor "I" = some .int; decide +kernel) rfl rfl (by simpa [gF] using (List.getElem?_eq_some_iff.mp hfl).1) hdg fun H1 locs1 hP1 hD1 hS1 => ?_
  rw [gW_set (v := v) (i := (j : Int)) hct (by show (Sum.inr _ : va_E) = _; rw [gF_set hfl])] at hP1 hD1
  exact k _ ho hL (gOk_tl (gOk_tl hst)) (gIn_U hin (fun _ => hv) (g32_64 hv)) H1 locs1 ls hP1 hD1 hS1 hl
theorem gnarZ {v : Int} (h : 0 ≤ v ∧ v ≤ 1) : narrow .boolean (.int (Int32.ofInt v)) = .int (Int32.ofInt v) := by
  rcases (show v = 0 ∨ v = 1 by omega) with rfl | rfl <;> rfl
theorem g_putZ (C : gC ct cc own nL fr lo ret X) {f : gM → gO} {q ix ci : Nat} {cn : String} {T : u_T} {ty0 : Nat → FieldType} {N : Nat} {fl : List (Option Nat)} {v : Int} (j : Nat) (hc : gcl[ci]? = some (cn, T, N)) (hw : ∀ w ∈ u_ws cn T N, w ∈ gTb) (hty : ∀ k, k < N → parseFieldDescriptor (T k).2.2.1 = some (ty0 k)) (hnm : ∀ a, a < N → ∀ b, b < N → a ≠ b → (T a).2.1 ≠ (T b).2.1) (hct : ct[q]? = some (.inr (ci, fl))) (hj : j < N) (hfl : fl[j]? = some none) {n : String} (hT : T j = (cn, n, "Z", false)) (hlk : Cond.fieldLink own ix cn n "Z" ∈ gTb) (hdg : decode cc pc = .ok (.putfield ix, 3))
    (k : ∀ σ', GG ct X (pc + 3) L st σ' (f σ')) : GG ct X pc L (.inl v :: .inr (.inr q) :: st) σ (gpb σ q (j : Int) v f) := by
  intro ho hL hst hin H locs ls hP hD hS hl
  obtain ⟨h1, ho⟩ := gpb_in ho
  have hv : g32 v := gOk_hd hst
  refine va_put (D := xD X) (v := .int (Int32.ofInt v)) (ty := .boolean) C.1.1 C.1.2.1 C.1.2.2.2.2 hw ty0 hty hnm C.1.2.2.2.1 C.2.2.2.2.2.2.1 hP hD hS q (gW_get hct) hc j hj (C.1.2.2.2.2 _ (by rw [hT]; exact hlk)) (ref := cn) (fun _ h => by rw [hT] at h ⊢; exact h) (by rw [hT]) (by rw [hT]; show parseFieldDescriptor "Z" = some .boolean; decide +kernel) (gnarZ h1) (by rcases (show v = 0 ∨ v = 1 by omega) with rfl | rfl <;> rfl) (by simpa [gF] using (List.getElem?_eq_some_iff.mp hfl).1) hdg fun H1 locs1 hP1 hD1 hS1 => ?_
  rw [gW_set (v := v) (i := (j : Int)) hct (by show (Sum.inr _ : va_E) = _; rw [gF_set hfl])] at hP1 hD1
  exact k _ ho hL (gOk_tl (gOk_tl hst)) (gIn_U hin (fun _ => hv) (g32_64 hv)) H1 locs1 ls hP1 hD1 hS1 hl
theorem gtn {i : Int} (h : 0 ≤ i) : ((i.toNat : Nat) : Int) = i := Int.toNat_of_nonneg h
theorem gupd {σ : gM} {q : Nat} {i v : Int} (h : 0 ≤ i) : (fun j : Nat => Int32.ofInt (gU σ q i v q (j : Int))) = upd (fun j => Int32.ofInt (σ q (j : Int))) i.toNat (Int32.ofInt v) := by
  funext j
  unfold upd gU
  by_cases hj : j = i.toNat
  · subst hj
    rw [if_pos rfl, if_pos ⟨rfl, gtn h⟩]
  · rw [if_neg hj, if_neg]
    rintro ⟨-, e⟩
    exact hj (by omega)
theorem gupdL {σ : gM} {q : Nat} {i v : Int} (h : 0 ≤ i) : (fun j : Nat => Int64.ofInt (gU σ q i v q (j : Int))) = vp_updL (fun j => Int64.ofInt (σ q (j : Int))) i.toNat (Int64.ofInt v) := by
  funext j
  unfold vp_updL gU
  by_cases hj : j = i.toNat
  · subst hj
    rw [if_pos rfl, if_pos ⟨rfl, gtn h⟩]
  · rw [if_neg hj, if_neg]
    rintro ⟨-, e⟩
    exact hj (by omega)
theorem g_iald (C : gC ct cc own nL fr lo ret X) {o : gO} {q n : Nat} {i N : Int} (hct : ct[q]? = some (.inl (0, n))) (hN : (n : Int) = N) (hlg : gLong ct q = false) (hdg : decode cc pc = .ok (.iaload, 1)) (k : GG ct X (pc + 1) L (.inl (σ q i) :: st) σ o) : GG ct X pc L (.inl i :: .inr (.inr q) :: st) σ (gi i N o) := by
  intro ho hL hst hin H locs ls hP hD hS hl
  obtain ⟨h1, ho⟩ := gi_in ho
  have hi : g32 i := gOk_hd hst
  refine va_iald (i := Int32.ofInt i) C.1.1 C.1.2.1 C.2.2.2.2.2.2.1 hP q 0 (gW_get hct) rfl (gvp hi h1.1 (by rw [hN]; exact h1.2)) hdg ?_
  rw [gin hi, gtn h1.1]
  exact k ho hL (gOk_cons (show gok _ from (hin q i).1 hlg) (gOk_tl (gOk_tl hst))) hin H locs ls hP hD hS hl
theorem g_zald (C : gC ct cc own nL fr lo ret X) {o : gO} {q n : Nat} {i N : Int} (hct : ct[q]? = some (.inl (1, n))) (hN : (n : Int) = N) (hlg : gLong ct q = false) (hdg : decode cc pc = .ok (.baload, 1)) (k : GG ct X (pc + 1) L (.inl (σ q i) :: st) σ o) : GG ct X pc L (.inl i :: .inr (.inr q) :: st) σ (gi i N o) := by
  intro ho hL hst hin H locs ls hP hD hS hl
  obtain ⟨h1, ho⟩ := gi_in ho
  have hi : g32 i := gOk_hd hst
  refine va_zald (i := Int32.ofInt i) C.1.1 C.1.2.1 C.2.2.2.2.2.2.1 hP q 1 (gW_get hct) rfl (gvp hi h1.1 (by rw [hN]; exact h1.2)) hdg ?_
  rw [gin hi, gtn h1.1]
  exact k ho hL (gOk_cons (show gok _ from (hin q i).1 hlg) (gOk_tl (gOk_tl hst))) hin H locs ls hP hD hS hl
theorem g_lald (C : gC ct cc own nL fr lo ret X) {o : gO} {q n : Nat} {i N : Int} (hct : ct[q]? = some (.inl (2, n))) (hN : (n : Int) = N) (hdg : decode cc pc = .ok (.laload, 1)) (k : GG ct X (pc + 1) L (.inr (.inl (σ q i)) :: st) σ o) : GG ct X pc L (.inl i :: .inr (.inr q) :: st) σ (gi i N o) := by
  intro ho hL hst hin H locs ls hP hD hS hl
  obtain ⟨h1, ho⟩ := gi_in ho
  have hi : g32 i := gOk_hd hst
  refine va_lald (i := Int32.ofInt i) C.1.1 C.1.2.1 C.2.2.2.2.2.2.1 hP q 2 (gW_get hct) rfl (gvp hi h1.1 (by rw [hN]; exact h1.2)) hdg ?_
  rw [gin hi, gtn h1.1]
  exact k ho hL (gOk_cons (show gok _ from (hin q i).2) (gOk_tl (gOk_tl hst))) hin H locs ls hP hD hS hl
theorem g_iast (C : gC ct cc own nL fr lo ret X) {f : gM → gO} {q n : Nat} {i v N : Int} (hct : ct[q]? = some (.inl (0, n))) (hN : (n : Int) = N) (hdg : decode cc pc = .ok (.iastore, 1)) (k : ∀ σ', GG ct X (pc + 1) L st σ' (f σ')) : GG ct X pc L (.inl v :: .inl i :: .inr (.inr q) :: st) σ (gw σ q N i v f) := by
  intro ho hL hst hin H locs ls hP hD hS hl
  obtain ⟨h1, ho⟩ := gw_in ho
  have hv : g32 v := gOk_hd hst
  have hi : g32 i := gOk_hd (gOk_tl hst)
  refine va_iast (i := Int32.ofInt i) (x := Int32.ofInt v) C.1.1 C.1.2.1 C.2.2.2.2.2.2.1 hP hD hS q 0 (gW_get hct) rfl (gvp hi h1.1 (by rw [hN]; exact h1.2)) hdg fun H1 locs1 hP1 hD1 hS1 => ?_
  rw [gin hi, gW_set (v := v) (i := i) hct (by show (Sum.inl _ : va_E) = _; rw [gupd h1.1])] at hP1 hD1
  exact k _ ho hL (gOk_tl (gOk_tl (gOk_tl hst))) (gIn_U hin (fun _ => hv) (g32_64 hv)) H1 locs1 ls hP1 hD1 hS1 hl
theorem gnarZ2 {v : Int} (h : 0 ≤ v ∧ v ≤ 1) : vp_nar .boolean (Int32.ofInt v) = Int32.ofInt v := by
  rcases (show v = 0 ∨ v = 1 by omega) with rfl | rfl <;> rfl
theorem g_zast (C : gC ct cc own nL fr lo ret X) {f : gM → gO} {q n : Nat} {i v N : Int} (hct : ct[q]? = some (.inl (1, n))) (hN : (n : Int) = N) (hdg : decode cc pc = .ok (.bastore, 1)) (k : ∀ σ', GG ct X (pc + 1) L st σ' (f σ')) : GG ct X pc L (.inl v :: .inl i :: .inr (.inr q) :: st) σ (gwb σ q N i v f) := by
  intro ho hL hst hin H locs ls hP hD hS hl
  obtain ⟨⟨h1, h2⟩, ho⟩ := gwb_in ho
  have hv : g32 v := gOk_hd hst
  have hi : g32 i := gOk_hd (gOk_tl hst)
  refine va_zast (i := Int32.ofInt i) (x := Int32.ofInt v) C.1.1 C.1.2.1 C.2.2.2.2.2.2.1 hP hD hS q 1 (gW_get hct) rfl (gvp hi h1.1 (by rw [hN]; exact h1.2)) hdg fun H1 locs1 hP1 hD1 hS1 => ?_
  rw [gnarZ2 h2, gin hi, gW_set (v := v) (i := i) hct (by show (Sum.inl _ : va_E) = _; rw [gupd h1.1])] at hP1 hD1
  exact k _ ho hL (gOk_tl (gOk_tl (gOk_tl hst))) (gIn_U hin (fun _ => hv) (g32_64 hv)) H1 locs1 ls hP1 hD1 hS1 hl
theorem g_last (C : gC ct cc own nL fr lo ret X) {f : gM → gO} {q n : Nat} {i v N : Int} (hct : ct[q]? = some (.inl (2, n))) (hN : (n : Int) = N) (hlg : gLong ct q = true) (hdg : decode cc pc = .ok (.lastore, 1)) (k : ∀ σ', GG ct X (pc + 1) L st σ' (f σ')) : GG ct X pc L (.inr (.inl v) :: .inl i :: .inr (.inr q) :: st) σ (gw σ q N i v f) := by
  intro ho hL hst hin H locs ls hP hD hS hl
  obtain ⟨h1, ho⟩ := gw_in ho
  have hv : g64 v := gOk_hd hst
  have hi : g32 i := gOk_hd (gOk_tl hst)
  refine va_last (i := Int32.ofInt i) (x := Int64.ofInt v) C.1.1 C.1.2.1 C.2.2.2.2.2.2.1 hP hD hS q 2 (gW_get hct) rfl (gvp hi h1.1 (by rw [hN]; exact h1.2)) hdg fun H1 locs1 hP1 hD1 hS1 => ?_
  rw [gin hi, gW_set (v := v) (i := i) hct (by show (Sum.inl _ : va_E) = _; rw [gupdL h1.1])] at hP1 hD1
  exact k _ ho hL (gOk_tl (gOk_tl (gOk_tl hst))) (gIn_U hin (fun h => by rw [hlg] at h; cases h) hv) H1 locs1 ls hP1 hD1 hS1 hl
theorem g_alen (C : gC ct cc own nL fr lo ret X) {o : gO} {q n : Nat} {N : Int} (hct : ct[q]? = some (.inl (0, n))) (hN : Int32.ofNat n = Int32.ofInt N) (hg : g32 N) (hdg : decode cc pc = .ok (.arraylength, 1)) (k : GG ct X (pc + 1) L (.inl N :: st) σ o) : GG ct X pc L (.inr (.inr q) :: st) σ o := by
  intro ho hL hst hin H locs ls hP hD hS hl
  refine va_alen (v := Int32.ofInt N) C.1.1 C.1.2.1 C.2.2.2.2.2.2.1 hP q 0 (gW_get hct) rfl hN hdg ?_
  exact k ho hL (gOk_cons (show gok _ from hg) (gOk_tl hst)) hin H locs ls hP hD hS hl
theorem g_getsV (C : gC ct cc own nL fr lo ret X) {o : gO} {ix : Nat} (hlk : Cond.fieldLink own ix "CellToObject$Cells" "VALUE_PLACES" "[I" ∈ gTb) (hdg : decode cc pc = .ok (.getstatic ix, 3)) (k : GG ct X (pc + 3) L (.inr (.inr 1000) :: st) σ o) : GG ct X pc L st σ o := by
  intro ho hL hst hin H locs ls hP hD hS hl
  exact va_gets C.1.1 C.1.2.1 C.2.2.2.2.2.2.2.2.1.1.1 hS C.1.2.2.2.1 (C.1.2.2.2.2 _ hlk) (fun _ h => h) hdg (k ho hL (gOk_cons trivial hst) hin H locs ls hP hD hS hl)
theorem g_getsH (C : gC ct cc own nL fr lo ret X) {o : gO} {ix : Nat} (hlk : Cond.fieldLink own ix "CellToObject" "HIGHEST_RULE" "[I" ∈ gTb) (hdg : decode cc pc = .ok (.getstatic ix, 3)) (k : GG ct X (pc + 3) L (.inr (.inr 1001) :: st) σ o) : GG ct X pc L st σ o := by
  intro ho hL hst hin H locs ls hP hD hS hl
  exact va_gets C.1.1 C.1.2.1 C.2.2.2.2.2.2.2.2.1.2.1 hS C.1.2.2.2.1 (C.1.2.2.2.2 _ hlk) (fun _ h => h) hdg (k ho hL (gOk_cons trivial hst) hin H locs ls hP hD hS hl)
theorem gVP_ok (i : Int) : g32 (gVP i) := by
  unfold gVP
  rcases (show i.toNat = 0 ∨ i.toNat = 1 ∨ i.toNat = 2 ∨ i.toNat = 3 ∨ i.toNat = 4 ∨ i.toNat = 5 ∨ i.toNat = 6 ∨ i.toNat = 7 ∨ 8 ≤ i.toNat by omega) with h | h | h | h | h | h | h | h | h
  all_goals first
    | (rw [h]; exact ⟨by decide, by decide⟩)
    | (rw [List.getD_eq_getElem?_getD, List.getElem?_eq_none (by simpa using h)]; exact ⟨by decide, by decide⟩)
theorem gHR_ok (i : Int) : g32 (gHR i) := by
  unfold gHR
  rcases (show i.toNat = 0 ∨ i.toNat = 1 ∨ i.toNat = 2 ∨ i.toNat = 3 ∨ 4 ≤ i.toNat by omega) with h | h | h | h | h
  all_goals first
    | (rw [h]; exact ⟨by decide, by decide⟩)
    | (rw [List.getD_eq_getElem?_getD, List.getElem?_eq_none (by simpa using h)]; exact ⟨by decide, by decide⟩)
theorem g_ialdV (C : gC ct cc own nL fr lo ret X) {o : gO} {i : Int} (hdg : decode cc pc = .ok (.iaload, 1)) (k : GG ct X (pc + 1) L (.inl (gVP i) :: st) σ o) : GG ct X pc L (.inl i :: .inr (.inr 1000) :: st) σ (gi i 8 o) := by
  intro ho hL hst hin H locs ls hP hD hS hl
  obtain ⟨h1, ho⟩ := gi_in ho
  have hi : g32 i := gOk_hd hst
  have hs := C.2.2.2.2.2.2.2.2.1.1
  refine va_sld (i := Int32.ofInt i) C.1.1 C.1.2.1 hs.2.1 hs.2.2.1 hs.2.2.2 hS (gvp hi h1.1 h1.2) hdg ?_
  rw [gin hi, gtn h1.1]
  exact k ho hL (gOk_cons (show gok _ from gVP_ok i) (gOk_tl (gOk_tl hst))) hin H locs ls hP hD hS hl
theorem g_ialdH (C : gC ct cc own nL fr lo ret X) {o : gO} {i : Int} (hdg : decode cc pc = .ok (.iaload, 1)) (k : GG ct X (pc + 1) L (.inl (gHR i) :: st) σ o) : GG ct X pc L (.inl i :: .inr (.inr 1001) :: st) σ (gi i 4 o) := by
  intro ho hL hst hin H locs ls hP hD hS hl
  obtain ⟨h1, ho⟩ := gi_in ho
  have hi : g32 i := gOk_hd hst
  have hs := C.2.2.2.2.2.2.2.2.1.2
  refine va_sld (i := Int32.ofInt i) C.1.1 C.1.2.1 hs.2.1 hs.2.2.1 hs.2.2.2 hS (gvp hi h1.1 h1.2) hdg ?_
  rw [gin hi, gtn h1.1]
  exact k ho hL (gOk_cons (show gok _ from gHR_ok i) (gOk_tl (gOk_tl hst))) hin H locs ls hP hD hS hl
theorem g_iret (C : gC ct cc own nL fr lo (some .int) X) {v : Int} (hdg : decode cc pc = .ok (.ireturn, 1)) : GG ct X pc L [.inl v] σ (some (σ, v)) := by
  intro ho hL hst hin H locs ls hP hD hS hl
  have hr : (σ, v) = xr X := Option.some.inj ho
  have hl0 := C.2.2.2.2.2.1
  obtain ⟨-, -, -, -, hret, -, hK, hA, -, hQ⟩ := id C
  show W _ _ _ _ _ _ _ _ _ _ H locs 0 0 (xQ X) _
  rw [hQ]
  refine W.iret (v := Int32.ofInt v) C.1.1 C.1.2.1 hret (fun t ht hW => ?_) hS.2.2 hdg hl0
  rw [← hr]
  exact ⟨⟨Int32.ofInt v, σ, rfl, ⟨rfl, rfl, hin, gOk_hd hst⟩, by rw [ht]; exact hP, va_K.moved hW.alike hK, hD.weaken (fun _ _ _ _ => trivial)⟩, hS.F ht⟩
theorem g_zret (C : gC ct cc own nL fr lo (some .boolean) X) {v : Int} (hdg : decode cc pc = .ok (.ireturn, 1)) : GG ct X pc L [.inl v] σ (gb v (some (σ, v))) := by
  intro ho hL hst hin H locs ls hP hD hS hl
  obtain ⟨h1, ho⟩ := gb_in ho
  have hr : (σ, v) = xr X := Option.some.inj ho
  have hl0 := C.2.2.2.2.2.1
  obtain ⟨-, -, -, -, hret, -, hK, hA, -, hQ⟩ := id C
  show W _ _ _ _ _ _ _ _ _ _ H locs 0 0 (xQ X) _
  rw [hQ]
  refine W.zret (v := Int32.ofInt v) C.1.1 C.1.2.1 hret (gnarZ h1) (fun t ht hW => ?_) hS.2.2 hdg hl0
  rw [← hr]
  exact ⟨⟨Int32.ofInt v, σ, rfl, ⟨rfl, rfl, hin, gOk_hd hst⟩, by rw [ht]; exact hP, va_K.moved hW.alike hK, hD.weaken (fun _ _ _ _ => trivial)⟩, hS.F ht⟩
theorem g_lret (C : gC ct cc own nL fr lo (some .long) X) {v : Int} (hdg : decode cc pc = .ok (.lreturn, 1)) : GG ct X pc L [.inr (.inl v)] σ (some (σ, v)) := by
  intro ho hL hst hin H locs ls hP hD hS hl
  have hr : (σ, v) = xr X := Option.some.inj ho
  have hl0 := C.2.2.2.2.2.1
  obtain ⟨-, -, -, -, hret, -, hK, hA, -, hQ⟩ := id C
  show W _ _ _ _ _ _ _ _ _ _ H locs 0 0 (xQ X) _
  rw [hQ]
  refine W.lret (v := Int64.ofInt v) C.1.1 C.1.2.1 hret (fun t ht hW => ?_) hS.2.2 hdg hl0
  rw [← hr]
  exact ⟨⟨Int64.ofInt v, σ, rfl, ⟨rfl, rfl, hin, gOk_hd hst⟩, by rw [ht]; exact hP, va_K.moved hW.alike hK, hD.weaken (fun _ _ _ _ => trivial)⟩, hS.F ht⟩
theorem g_vret (C : gC ct cc own nL fr lo none X) (hdg : decode cc pc = .ok (.return_, 1)) : GG ct X pc L [] σ (some (σ, 0)) := by
  intro ho hL hst hin H locs ls hP hD hS hl
  have hr : (σ, (0 : Int)) = xr X := Option.some.inj ho
  have hl0 := C.2.2.2.2.2.1
  obtain ⟨-, -, -, -, hret, -, hK, hA, -, hQ⟩ := id C
  show W _ _ _ _ _ _ _ _ _ _ H locs 0 0 (xQ X) _
  rw [hQ]
  refine W.vret C.1.1 C.1.2.1 hret (fun t ht hW => ?_) hS.2.2 hdg hl0
  rw [← hr]
  exact ⟨⟨σ, rfl, ⟨rfl, hin⟩, by rw [ht]; exact hP, va_K.moved hW.alike hK, hD.weaken (fun _ _ _ _ => trivial)⟩, hS.F ht⟩
end GR2
end
section
/-! calls -/
theorem ggood {w : Cond} (h : w ∈ gTb) : w ∈ gTb ∧ ((w.onTables && w.keeps) = true ∨ ∃ ty, w = .arrayClass ty) := ⟨h, good_of_word (gTb_good h)⟩
theorem ggoodV {own : String} {ix mL : Nat} {y : MethodName} {bytes : ByteArray} {rt : Option FieldType} (w1 : Cond.methodLink own ix y ∈ gTb) (w2 : Cond.instanceMethod y ∈ gTb) (w3 : Cond.selects y.cls y y ∈ gTb) (w4 : Cond.initialized y.cls ∈ gTb) (w5 : Cond.code y bytes mL rt ∈ gTb) : GoodIn gTb (wsV own ix y.cls y (.code y bytes mL rt :: gTb)) := by
  intro w hw
  unfold wsV at hw
  simp only [List.cons_append, List.nil_append, List.mem_cons] at hw
  rcases hw with rfl | rfl | rfl | h | rfl | h
  · exact ggood w1
  · exact ggood w2
  · exact ggood w3
  · subst h; exact ggood w4
  · exact ggood w5
  · exact ggood h
theorem ggoodS {own : String} {ix mL : Nat} {y : MethodName} {bytes : ByteArray} {rt : Option FieldType} (w1 : Cond.methodLink own ix y ∈ gTb) (w2 : Cond.static y ∈ gTb) (w4 : Cond.initialized y.cls ∈ gTb) (hown : y.cls = own) (w5 : Cond.code y bytes mL rt ∈ gTb) : GoodIn gTb (wsS own ix y (.code y bytes mL rt :: gTb)) := by
  intro w hw
  unfold wsS at hw
  simp only [List.cons_append, List.nil_append, List.mem_cons] at hw
  rcases hw with rfl | rfl | h | rfl | h
  · exact ggood w1
  · exact ggood w2
  · subst h; exact ggood (hown ▸ w4)
  · exact ggood w5
  · exact ggood h
theorem gblind {ct : gT} {D : va_G} {cy : gY} {ad : Nat → Nat} {sz : Nat} {σ : gM} {av : List Value} : FrameBlind (va_Pc av (gPre ct D cy ad sz σ)) := by
  intro a U g mk h
  obtain ⟨h0, h1, h2, h3, h4, h5⟩ := h
  obtain ⟨⟨a1, a2, a3, a4⟩, b1, b2, b3, b4⟩ := h5
  have hv : U.vm.Alike (U.calling g mk a).vm := Vm.Alike.refl U.vm
  exact ⟨h0, h1, h2, va_K.moved hv h3, h4, ⟨a1.moved hv, a2.moved hv, a3, a4⟩, b1.moved hv, b2.moved hv, b3, b4⟩
theorem gcatsum (ad : Nat → Nat) : ∀ st : List gV, ((st.map (gc ad)).map fun v => v.category).sum ≤ 2 * st.length
  | [] => Nat.le_refl _
  | v :: st => by
    have ih := gcatsum ad st
    have h : (gc ad v).category ≤ 2 := by
      rcases v with x | x | x <;> simp [gc, Value.category]
    simp only [List.map_cons, List.sum_cons, List.length_cons]
    omega
section GCALL
variable {ct : gT} {cc : ByteArray} {own : String} {nL fr lo : Nat} {ret : Option FieldType} {X : gX} {pc : Nat} {L : List (Nat × gV)} {st st0 : List gV} {σ : gM} {y : MethodName} {bytes : ByteArray} {mL fr' lo' ix : Nat} {rt : Option FieldType} {as : List gV} {f : gO} {K : gM → Int → gO}
/-- what a call of an instance's method wants -/
def gwV (own : String) (ix : Nat) (y : MethodName) (bytes : ByteArray) (mL : Nat) (rt : Option FieldType) (n : Nat) : Prop := (Cond.methodLink own ix y ∈ gTb ∧ Cond.instanceMethod y ∈ gTb ∧ Cond.selects y.cls y y ∈ gTb ∧ Cond.initialized y.cls ∈ gTb ∧ Cond.code y bytes mL rt ∈ gTb) ∧ y.cls ≠ "java/lang/invoke/MethodHandle" ∧ y.cls ≠ "java/lang/invoke/VarHandle" ∧ (parseMethodDescriptor y.desc).map (fun d => d.parameters.length) = some n
def gwS (own : String) (ix : Nat) (y : MethodName) (bytes : ByteArray) (mL : Nat) (rt : Option FieldType) (n : Nat) : Prop := (Cond.methodLink own ix y ∈ gTb ∧ Cond.static y ∈ gTb ∧ Cond.initialized y.cls ∈ gTb ∧ Cond.code y bytes mL rt ∈ gTb) ∧ y.cls = own ∧ y.cls ≠ "java/lang/invoke/MethodHandle" ∧ y.cls ≠ "java/lang/invoke/VarHandle" ∧ (parseMethodDescriptor y.desc).map (fun d => d.parameters.length) = some n
theorem gAsub {n : Nat} {ad : Nat → Nat} {H0 H : Heap} {locs : List Loc} (hS : va_S (gA n ad H0.size) H0 H locs) (q : Nat) (h : gA n ad H.size q) : gA n ad H0.size q := h.imp id (Nat.le_trans hS.1)
theorem g_runV (C : gC ct cc own nL fr lo ret X) {k0 ci N : Nat} {T : u_T} {fl : List (Option Nat)} {r : gR} {H : Heap} {locs : List Loc} {ls : Array Slot} (hst0 : as.reverse ++ .inr (.inr k0) :: st = st0) (hM : gCt ct y bytes mL rt fr' lo' (.inr (.inr k0) :: as) σ r) (hc : gcl[ci]? = some (y.cls, T, N)) (hct : ct[k0]? = some (.inr (ci, fl))) (hw : gwV own ix y bytes mL rt as.length) (hR : fr' + 1 ≤ fr ∧ 8 + (mL + 11) + lo' ≤ lo) (hlen : st.length ≤ 4) (hdg : decode cc pc = .ok (.invokevirtual ix, 3))
    (hP : va_P (xD X) gcl (gW ct (xy X) (xd X) σ) H) (hD : va_D (xA X) (gW ct (xy X) (xd X) σ)) (hS : va_S (xA X) (xs X).heap H locs) (hl : lv_has ls (xn X) (L.map fun q => (q.1, gc (xd X) q.2))) :
    va_Run (xp X) (xl X) (xe X) (xR X) (xs X) (xm X) (xa X) (xb X) (xh X) (xc X) H locs 0 0 0 0 (F0 (xm X) pc ls (st0.map (gc (xd X)))) (st.map (gc (xd X))) (gPost rt ct (xD X) (xy X) (xd X) (gA ct.length (xd X) H.size) r (Value.ref (xd X k0) :: as.map (gc (xd X))).toArray) (gA ct.length (xd X) H.size) := by
  have hK := C.2.2.2.2.2.2.1
  have hS' := hS
  rw [C.2.2.2.2.2.2.2.1] at hS'
  have hs0 := C.2.2.2.2.2.2.2.2.1
  rw [C.2.2.2.2.2.2.2.1] at hs0
  refine va_runV (As := as.map (gc (xd X))) (rest := st.map (gc (xd X))) C.1 (hM (xl X) (xD X) (xy X) (xd X) H.size) (cwV as.length C.1.2.2.2.2 (ggoodV hw.1.1 hw.1.2.1 hw.1.2.2.1 hw.1.2.2.2.1 hw.1.2.2.2.2) rfl rfl rfl ⟨rfl, hw.2⟩ ⟨by rw [C.2.2.1]; exact hR.1, by rw [C.2.2.2.1]; exact hR.2⟩) ⟨gblind, va_recv hK hP hc (gW_get hct), fun U hU hW => ⟨rfl, by rw [hU], by rw [hU]; exact hP, va_K.moved hW.alike hK, hD.weaken (fun _ _ _ _ => trivial), by rw [hU]; exact gS_call hs0 hS' hW.alike⟩⟩ rfl (by rw [List.length_map]) (by show ls.size = nL; rw [← C.2.1]; exact hl.1) (by rw [← hst0]; simp [gc]) (lv_room (Nat.le_trans (gcatsum (xd X) st) (by omega))) hdg ⟨Nat.zero_le _, Nat.zero_le _⟩
theorem g_runS (C : gC ct cc own nL fr lo ret X) {r : gR} {H : Heap} {locs : List Loc} {ls : Array Slot} (hst0 : as.reverse ++ st = st0) (hM : gCt ct y bytes mL rt fr' lo' as σ r) (hw : gwS own ix y bytes mL rt as.length) (hR : fr' + 1 ≤ fr ∧ 8 + (mL + 11) + lo' ≤ lo) (hlen : st.length ≤ 4) (hdg : decode cc pc = .ok (.invokestatic ix, 3))
    (hP : va_P (xD X) gcl (gW ct (xy X) (xd X) σ) H) (hD : va_D (xA X) (gW ct (xy X) (xd X) σ)) (hS : va_S (xA X) (xs X).heap H locs) (hl : lv_has ls (xn X) (L.map fun q => (q.1, gc (xd X) q.2))) :
    va_Run (xp X) (xl X) (xe X) (xR X) (xs X) (xm X) (xa X) (xb X) (xh X) (xc X) H locs 0 0 0 0 (F0 (xm X) pc ls (st0.map (gc (xd X)))) (st.map (gc (xd X))) (gPost rt ct (xD X) (xy X) (xd X) (gA ct.length (xd X) H.size) r (as.map (gc (xd X))).toArray) (gA ct.length (xd X) H.size) := by
  have hK := C.2.2.2.2.2.2.1
  have hS' := hS
  rw [C.2.2.2.2.2.2.2.1] at hS'
  have hs0 := C.2.2.2.2.2.2.2.2.1
  rw [C.2.2.2.2.2.2.2.1] at hs0
  refine va_runS (As := as.map (gc (xd X))) (rest := st.map (gc (xd X))) C.1 (hM (xl X) (xD X) (xy X) (xd X) H.size) (cwS as.length C.1.2.2.2.2 (ggoodS hw.1.1 hw.1.2.1 hw.1.2.2.1 hw.2.1 hw.1.2.2.2) rfl rfl rfl hw.2 ⟨by rw [C.2.2.1]; exact hR.1, by rw [C.2.2.2.1]; exact hR.2⟩) ⟨gblind, fun U hU hW => ⟨rfl, by rw [hU], by rw [hU]; exact hP, va_K.moved hW.alike hK, hD.weaken (fun _ _ _ _ => trivial), by rw [hU]; exact gS_call hs0 hS' hW.alike⟩⟩ rfl (by rw [List.length_map]) (by show ls.size = nL; rw [← C.2.1]; exact hl.1) (by rw [← hst0]; simp) (lv_room (Nat.le_trans (gcatsum (xd X) st) (by omega))) hdg ⟨Nat.zero_le _, Nat.zero_le _⟩
theorem gbehind (C : gC ct cc own nL fr lo ret X) {r : gR} {u : gM} {t : State} {H1 : Heap} {locs1 : List Loc} {ls : Array Slot} {pc' : Nat} {st' : List gV} {o : gO} (hu : u = r.1) (ht : t.heap = H1) (hB : gB ct (xD X) (xy X) (xd X) u t) (hD : va_D (xA X) (gW ct (xy X) (xd X) σ)) (hS1 : va_S (xA X) (xs X).heap H1 locs1) (hl : lv_has ls (xn X) (L.map fun q => (q.1, gc (xd X) q.2))) (k : GG ct X pc' L st' r.1 o) (ho : o = some (xr X)) (hL : gOkL L) (hst : gOk st') (hin : gIn ct r.1) :
    W (xp X) (xl X) (xe X) (xR X) (xs X) (xm X) (xa X) (xb X) (xh X) (xc X) H1 locs1 (0 + 0) (0 + 0) (xQ X) (F0 (xm X) pc' ls (st'.map (gc (xd X)))) := by
  subst hu; subst ht
  exact k ho hL hst hin _ _ ls hB.1 (gW_D hD) hS1 hl
theorem g_callVi (C : gC ct cc own nL fr lo ret X) {k0 ci N : Nat} {T : u_T} {fl : List (Option Nat)} (as : List gV) (st : List gV) (hrt : rt = some .int ∨ rt = some .boolean) (hst0 : as.reverse ++ .inr (.inr k0) :: st = st0) (hM : ∀ r, f = some r → gOk (.inr (.inr k0) :: as) → gIn ct σ → gCt ct y bytes mL rt fr' lo' (.inr (.inr k0) :: as) σ r) (hc : gcl[ci]? = some (y.cls, T, N)) (hct : ct[k0]? = some (.inr (ci, fl))) (hw : gwV own ix y bytes mL rt as.length) (hR : fr' + 1 ≤ fr ∧ 8 + (mL + 11) + lo' ≤ lo) (hlen : st.length ≤ 4) (hdg : decode cc pc = .ok (.invokevirtual ix, 3))
    (k : ∀ σ' z, GG ct X (pc + 3) L (.inl z :: st) σ' (K σ' z)) : GG ct X pc L st0 σ (gk f K) := by
  intro ho hL hst hin H locs ls hP hD hS hl
  obtain ⟨r, hf, ho⟩ := gk_in ho
  have hok : gOk (.inr (.inr k0) :: as) := gOk_cons trivial fun v hv => hst v (by rw [← hst0]; exact List.mem_append_left _ (List.mem_reverse.mpr hv))
  have hok2 : gOk st := fun v hv => hst v (by rw [← hst0]; exact List.mem_append_right _ (List.mem_cons_of_mem _ hv))
  have hr := g_runV C hst0 (hM r hf hok hin) hc hct hw hR hlen hdg hP hD hS hl
  have hA : ∀ q, gA ct.length (xd X) H.size q → xA X q := by
    rw [C.2.2.2.2.2.2.2.1] at hS ⊢
    exact gAsub hS
  have hr2 : va_Run (xp X) (xl X) (xe X) (xR X) (xs X) (xm X) (xa X) (xb X) (xh X) (xc X) H locs 0 0 0 0 (F0 (xm X) pc ls (st0.map (gc (xd X)))) (st.map (gc (xd X))) (va_Qi (fun (x : Int32) (u : gM) => x = Int32.ofInt r.2 ∧ u = r.1 ∧ gIn ct r.1 ∧ g32 r.2) (gB ct (xD X) (xy X) (xd X)) (gA ct.length (xd X) H.size) (Value.ref (xd X k0) :: as.map (gc (xd X))).toArray) (gA ct.length (xd X) H.size) := by
    rcases hrt with rfl | rfl <;> exact hr
  refine va_calli hr2 hS (fun q _ h => hA q h) hA (fun x u t H1 locs1 ht hvm hw1 hB hz1 hk1 hS1 => ?_)
  obtain ⟨hx, hu, hin1, hx1⟩ := hw1
  subst hx
  exact gbehind C hu ht hB hD hS1 hl (k r.1 r.2) ho hL (gOk_cons hx1 hok2) hin1
theorem g_callVl (C : gC ct cc own nL fr lo ret X) {k0 ci N : Nat} {T : u_T} {fl : List (Option Nat)} (as : List gV) (st : List gV) (hrt : rt = some .long) (hst0 : as.reverse ++ .inr (.inr k0) :: st = st0) (hM : ∀ r, f = some r → gOk (.inr (.inr k0) :: as) → gIn ct σ → gCt ct y bytes mL rt fr' lo' (.inr (.inr k0) :: as) σ r) (hc : gcl[ci]? = some (y.cls, T, N)) (hct : ct[k0]? = some (.inr (ci, fl))) (hw : gwV own ix y bytes mL rt as.length) (hR : fr' + 1 ≤ fr ∧ 8 + (mL + 11) + lo' ≤ lo) (hlen : st.length ≤ 4) (hdg : decode cc pc = .ok (.invokevirtual ix, 3))
    (k : ∀ σ' z, GG ct X (pc + 3) L (.inr (.inl z) :: st) σ' (K σ' z)) : GG ct X pc L st0 σ (gk f K) := by
  intro ho hL hst hin H locs ls hP hD hS hl
  obtain ⟨r, hf, ho⟩ := gk_in ho
  have hok : gOk (.inr (.inr k0) :: as) := gOk_cons trivial fun v hv => hst v (by rw [← hst0]; exact List.mem_append_left _ (List.mem_reverse.mpr hv))
  have hok2 : gOk st := fun v hv => hst v (by rw [← hst0]; exact List.mem_append_right _ (List.mem_cons_of_mem _ hv))
  have hr := g_runV C hst0 (hM r hf hok hin) hc hct hw hR hlen hdg hP hD hS hl
  have hA : ∀ q, gA ct.length (xd X) H.size q → xA X q := by
    rw [C.2.2.2.2.2.2.2.1] at hS ⊢
    exact gAsub hS
  subst hrt
  have hr2 : va_Run (xp X) (xl X) (xe X) (xR X) (xs X) (xm X) (xa X) (xb X) (xh X) (xc X) H locs 0 0 0 0 (F0 (xm X) pc ls (st0.map (gc (xd X)))) (st.map (gc (xd X))) (va_Ql (fun (x : Int64) (u : gM) => x = Int64.ofInt r.2 ∧ u = r.1 ∧ gIn ct r.1 ∧ g64 r.2) (gB ct (xD X) (xy X) (xd X)) (gA ct.length (xd X) H.size) (Value.ref (xd X k0) :: as.map (gc (xd X))).toArray) (gA ct.length (xd X) H.size) := hr
  refine va_calll hr2 hS (fun q _ h => hA q h) hA (fun x u t H1 locs1 ht hvm hw1 hB hz1 hk1 hS1 => ?_)
  obtain ⟨hx, hu, hin1, hx1⟩ := hw1
  subst hx
  exact gbehind C hu ht hB hD hS1 hl (k r.1 r.2) ho hL (gOk_cons (show gok _ from hx1) hok2) hin1
theorem g_callVv (C : gC ct cc own nL fr lo ret X) {k0 ci N : Nat} {T : u_T} {fl : List (Option Nat)} (as : List gV) (st : List gV) (hrt : rt = none) (hst0 : as.reverse ++ .inr (.inr k0) :: st = st0) (hM : ∀ r, f = some r → gOk (.inr (.inr k0) :: as) → gIn ct σ → gCt ct y bytes mL rt fr' lo' (.inr (.inr k0) :: as) σ r) (hc : gcl[ci]? = some (y.cls, T, N)) (hct : ct[k0]? = some (.inr (ci, fl))) (hw : gwV own ix y bytes mL rt as.length) (hR : fr' + 1 ≤ fr ∧ 8 + (mL + 11) + lo' ≤ lo) (hlen : st.length ≤ 4) (hdg : decode cc pc = .ok (.invokevirtual ix, 3))
    (k : ∀ σ' z, GG ct X (pc + 3) L st σ' (K σ' z)) : GG ct X pc L st0 σ (gk f K) := by
  intro ho hL hst hin H locs ls hP hD hS hl
  obtain ⟨r, hf, ho⟩ := gk_in ho
  have hok : gOk (.inr (.inr k0) :: as) := gOk_cons trivial fun v hv => hst v (by rw [← hst0]; exact List.mem_append_left _ (List.mem_reverse.mpr hv))
  have hok2 : gOk st := fun v hv => hst v (by rw [← hst0]; exact List.mem_append_right _ (List.mem_cons_of_mem _ hv))
  have hr := g_runV C hst0 (hM r hf hok hin) hc hct hw hR hlen hdg hP hD hS hl
  have hA : ∀ q, gA ct.length (xd X) H.size q → xA X q := by
    rw [C.2.2.2.2.2.2.2.1] at hS ⊢
    exact gAsub hS
  subst hrt
  have hr2 : va_Run (xp X) (xl X) (xe X) (xR X) (xs X) (xm X) (xa X) (xb X) (xh X) (xc X) H locs 0 0 0 0 (F0 (xm X) pc ls (st0.map (gc (xd X)))) (st.map (gc (xd X))) (va_Qv (fun u : gM => u = r.1 ∧ gIn ct r.1) (gB ct (xD X) (xy X) (xd X)) (gA ct.length (xd X) H.size) (Value.ref (xd X k0) :: as.map (gc (xd X))).toArray) (gA ct.length (xd X) H.size) := hr
  refine va_callv hr2 hS (fun q _ h => hA q h) hA (fun u t H1 locs1 ht hvm hw1 hB hz1 hk1 hS1 => ?_)
  obtain ⟨hu, hin1⟩ := hw1
  exact gbehind C hu ht hB hD hS1 hl (k r.1 r.2) ho hL hok2 hin1
theorem g_callSi (C : gC ct cc own nL fr lo ret X) (as : List gV) (st : List gV) (hrt : rt = some .int ∨ rt = some .boolean) (hst0 : as.reverse ++ st = st0) (hM : ∀ r, f = some r → gOk as → gIn ct σ → gCt ct y bytes mL rt fr' lo' as σ r) (hw : gwS own ix y bytes mL rt as.length) (hR : fr' + 1 ≤ fr ∧ 8 + (mL + 11) + lo' ≤ lo) (hlen : st.length ≤ 4) (hdg : decode cc pc = .ok (.invokestatic ix, 3))
    (k : ∀ σ' z, GG ct X (pc + 3) L (.inl z :: st) σ' (K σ' z)) : GG ct X pc L st0 σ (gk f K) := by
  intro ho hL hst hin H locs ls hP hD hS hl
  obtain ⟨r, hf, ho⟩ := gk_in ho
  have hok : gOk as := fun v hv => hst v (by rw [← hst0]; exact List.mem_append_left _ (List.mem_reverse.mpr hv))
  have hok2 : gOk st := fun v hv => hst v (by rw [← hst0]; exact List.mem_append_right _ hv)
  have hr := g_runS C hst0 (hM r hf hok hin) hw hR hlen hdg hP hD hS hl
  have hA : ∀ q, gA ct.length (xd X) H.size q → xA X q := by
    rw [C.2.2.2.2.2.2.2.1] at hS ⊢
    exact gAsub hS
  have hr2 : va_Run (xp X) (xl X) (xe X) (xR X) (xs X) (xm X) (xa X) (xb X) (xh X) (xc X) H locs 0 0 0 0 (F0 (xm X) pc ls (st0.map (gc (xd X)))) (st.map (gc (xd X))) (va_Qi (fun (x : Int32) (u : gM) => x = Int32.ofInt r.2 ∧ u = r.1 ∧ gIn ct r.1 ∧ g32 r.2) (gB ct (xD X) (xy X) (xd X)) (gA ct.length (xd X) H.size) (as.map (gc (xd X))).toArray) (gA ct.length (xd X) H.size) := by
    rcases hrt with rfl | rfl <;> exact hr
  refine va_calli hr2 hS (fun q _ h => hA q h) hA (fun x u t H1 locs1 ht hvm hw1 hB hz1 hk1 hS1 => ?_)
  obtain ⟨hx, hu, hin1, hx1⟩ := hw1
  subst hx
  exact gbehind C hu ht hB hD hS1 hl (k r.1 r.2) ho hL (gOk_cons hx1 hok2) hin1
end GCALL
theorem gl1_run {P : gM → Int → gO → Prop} {body : (gM → Int → gO) → gM → Int → gO} (h0 : ∀ σ a, P σ a none) (h : ∀ rec : gM → Int → gO, (∀ σ a, P σ a (rec σ a)) → ∀ σ a, P σ a (body rec σ a)) : ∀ n σ a, P σ a (gl1 body n σ a)
  | 0, σ, a => h0 σ a
  | n + 1, σ, a => h (gl1 body n) (gl1_run h0 h n) σ a
theorem gl2_run {P : gM → Int → Int → gO → Prop} {body : (gM → Int → Int → gO) → gM → Int → Int → gO} (h0 : ∀ σ a b, P σ a b none) (h : ∀ rec : gM → Int → Int → gO, (∀ σ a b, P σ a b (rec σ a b)) → ∀ σ a b, P σ a b (body rec σ a b)) : ∀ n σ a b, P σ a b (gl2 body n σ a b)
  | 0, σ, a, b => h0 σ a b
  | n + 1, σ, a, b => h (gl2 body n) (gl2_run h0 h n) σ a b
theorem gl3_run {P : gM → Int → Int → Int → gO → Prop} {body : (gM → Int → Int → Int → gO) → gM → Int → Int → Int → gO} (h0 : ∀ σ a b c, P σ a b c none) (h : ∀ rec : gM → Int → Int → Int → gO, (∀ σ a b c, P σ a b c (rec σ a b c)) → ∀ σ a b c, P σ a b c (body rec σ a b c)) : ∀ n σ a b c, P σ a b c (gl3 body n σ a b c)
  | 0, σ, a, b, c => h0 σ a b c
  | n + 1, σ, a, b, c => h (gl3 body n) (gl3_run h0 h n) σ a b c
theorem gl4_run {P : gM → Int → Int → Int → Int → gO → Prop} {body : (gM → Int → Int → Int → Int → gO) → gM → Int → Int → Int → Int → gO} (h0 : ∀ σ a b c d, P σ a b c d none) (h : ∀ rec : gM → Int → Int → Int → Int → gO, (∀ σ a b c d, P σ a b c d (rec σ a b c d)) → ∀ σ a b c d, P σ a b c d (body rec σ a b c d)) : ∀ n σ a b c d, P σ a b c d (gl4 body n σ a b c d)
  | 0, σ, a, b, c, d => h0 σ a b c d
  | n + 1, σ, a, b, c, d => h (gl4 body n) (gl4_run h0 h n) σ a b c d
end
